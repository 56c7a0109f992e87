/-! words of the tables that the rows use, each by its place -/
theorem fl_X6_9 : Cond.fieldLink "OnChin$Thing" 9 "OnChin$Thing" "kind" "I" ∈ GW := gw_of (List.mem_of_getElem? (i := 38) (by decide +kernel)) rfl
theorem fl_X8_95 : Cond.fieldLink "OnChin" 95 "OnChin$Thing" "kind" "I" ∈ GW := gw_of (List.mem_of_getElem? (i := 39) (by decide +kernel)) rfl
theorem fl_X6_15 : Cond.fieldLink "OnChin$Thing" 15 "OnChin$Thing" "by" "I" ∈ GW := gw_of (List.mem_of_getElem? (i := 40) (by decide +kernel)) rfl
theorem fl_X8_100 : Cond.fieldLink "OnChin" 100 "OnChin$Thing" "by" "I" ∈ GW := gw_of (List.mem_of_getElem? (i := 41) (by decide +kernel)) rfl
theorem fl_X6_18 : Cond.fieldLink "OnChin$Thing" 18 "OnChin$Thing" "lumps" "I" ∈ GW := gw_of (List.mem_of_getElem? (i := 42) (by decide +kernel)) rfl
theorem fl_X5_52 : Cond.fieldLink "OnChin$Text" 52 "OnChin$Thing" "lumps" "I" ∈ GW := gw_of (List.mem_of_getElem? (i := 43) (by decide +kernel)) rfl
theorem fl_X8_103 : Cond.fieldLink "OnChin" 103 "OnChin$Thing" "lumps" "I" ∈ GW := gw_of (List.mem_of_getElem? (i := 44) (by decide +kernel)) rfl
theorem fl_X6_21 : Cond.fieldLink "OnChin$Thing" 21 "OnChin$Thing" "longness" "I" ∈ GW := gw_of (List.mem_of_getElem? (i := 45) (by decide +kernel)) rfl
theorem fl_X1_34 : Cond.fieldLink "OnChin$Evenings" 34 "OnChin$Thing" "longness" "I" ∈ GW := gw_of (List.mem_of_getElem? (i := 46) (by decide +kernel)) rfl
theorem fl_X8_106 : Cond.fieldLink "OnChin" 106 "OnChin$Thing" "longness" "I" ∈ GW := gw_of (List.mem_of_getElem? (i := 47) (by decide +kernel)) rfl
theorem fl_X6_24 : Cond.fieldLink "OnChin$Thing" 24 "OnChin$Thing" "tallest" "I" ∈ GW := gw_of (List.mem_of_getElem? (i := 48) (by decide +kernel)) rfl
theorem fl_X8_109 : Cond.fieldLink "OnChin" 109 "OnChin$Thing" "tallest" "I" ∈ GW := gw_of (List.mem_of_getElem? (i := 49) (by decide +kernel)) rfl
theorem fl_X6_27 : Cond.fieldLink "OnChin$Thing" 27 "OnChin$Thing" "heights" "[I" ∈ GW := gw_of (List.mem_of_getElem? (i := 50) (by decide +kernel)) rfl
theorem fl_X8_112 : Cond.fieldLink "OnChin" 112 "OnChin$Thing" "heights" "[I" ∈ GW := gw_of (List.mem_of_getElem? (i := 51) (by decide +kernel)) rfl
theorem fl_X6_31 : Cond.fieldLink "OnChin$Thing" 31 "OnChin$Thing" "weights" "[I" ∈ GW := gw_of (List.mem_of_getElem? (i := 52) (by decide +kernel)) rfl
theorem fl_X8_116 : Cond.fieldLink "OnChin" 116 "OnChin$Thing" "weights" "[I" ∈ GW := gw_of (List.mem_of_getElem? (i := 53) (by decide +kernel)) rfl
theorem fl_X7_11 : Cond.fieldLink "OnChin$Told" 11 "OnChin$Told" "things" "[LOnChin$Thing;" ∈ GW := gw_of (List.mem_of_getElem? (i := 75) (by decide +kernel)) rfl
theorem fl_X1_24 : Cond.fieldLink "OnChin$Evenings" 24 "OnChin$Told" "things" "[LOnChin$Thing;" ∈ GW := gw_of (List.mem_of_getElem? (i := 76) (by decide +kernel)) rfl
theorem fl_X5_46 : Cond.fieldLink "OnChin$Text" 46 "OnChin$Told" "things" "[LOnChin$Thing;" ∈ GW := gw_of (List.mem_of_getElem? (i := 77) (by decide +kernel)) rfl
theorem fl_X8_91 : Cond.fieldLink "OnChin" 91 "OnChin$Told" "things" "[LOnChin$Thing;" ∈ GW := gw_of (List.mem_of_getElem? (i := 78) (by decide +kernel)) rfl
theorem fl_X7_17 : Cond.fieldLink "OnChin$Told" 17 "OnChin$Told" "numbers" "[I" ∈ GW := gw_of (List.mem_of_getElem? (i := 79) (by decide +kernel)) rfl
theorem fl_X8_130 : Cond.fieldLink "OnChin" 130 "OnChin$Told" "numbers" "[I" ∈ GW := gw_of (List.mem_of_getElem? (i := 80) (by decide +kernel)) rfl
theorem fl_X5_155 : Cond.fieldLink "OnChin$Text" 155 "OnChin$Told" "numbers" "[I" ∈ GW := gw_of (List.mem_of_getElem? (i := 81) (by decide +kernel)) rfl
theorem fl_X5_9 : Cond.fieldLink "OnChin$Text" 9 "OnChin$Text" "bytes" "[I" ∈ GW := gw_of (List.mem_of_getElem? (i := 93) (by decide +kernel)) rfl
theorem fl_X5_15 : Cond.fieldLink "OnChin$Text" 15 "OnChin$Text" "length" "I" ∈ GW := gw_of (List.mem_of_getElem? (i := 94) (by decide +kernel)) rfl
theorem fl_X8_66 : Cond.fieldLink "OnChin" 66 "OnChin$Text" "length" "I" ∈ GW := gw_of (List.mem_of_getElem? (i := 95) (by decide +kernel)) rfl
theorem fl_X5_19 : Cond.fieldLink "OnChin$Text" 19 "OnChin$Text" "lines" "I" ∈ GW := gw_of (List.mem_of_getElem? (i := 96) (by decide +kernel)) rfl
theorem fl_X8_84 : Cond.fieldLink "OnChin" 84 "OnChin$Text" "lines" "I" ∈ GW := gw_of (List.mem_of_getElem? (i := 97) (by decide +kernel)) rfl
theorem fl_X5_22 : Cond.fieldLink "OnChin$Text" 22 "OnChin$Text" "kinds" "[I" ∈ GW := gw_of (List.mem_of_getElem? (i := 98) (by decide +kernel)) rfl
theorem fl_X5_25 : Cond.fieldLink "OnChin$Text" 25 "OnChin$Text" "numbers" "[I" ∈ GW := gw_of (List.mem_of_getElem? (i := 99) (by decide +kernel)) rfl
theorem fl_X5_28 : Cond.fieldLink "OnChin$Text" 28 "OnChin$Text" "filled" "I" ∈ GW := gw_of (List.mem_of_getElem? (i := 100) (by decide +kernel)) rfl
theorem fl_X5_31 : Cond.fieldLink "OnChin$Text" 31 "OnChin$Text" "places" "[I" ∈ GW := gw_of (List.mem_of_getElem? (i := 101) (by decide +kernel)) rfl
theorem fl_X5_34 : Cond.fieldLink "OnChin$Text" 34 "OnChin$Text" "lumps" "[I" ∈ GW := gw_of (List.mem_of_getElem? (i := 102) (by decide +kernel)) rfl
theorem fl_X5_37 : Cond.fieldLink "OnChin$Text" 37 "OnChin$Text" "token" "I" ∈ GW := gw_of (List.mem_of_getElem? (i := 103) (by decide +kernel)) rfl
theorem fl_X5_40 : Cond.fieldLink "OnChin$Text" 40 "OnChin$Text" "from" "I" ∈ GW := gw_of (List.mem_of_getElem? (i := 104) (by decide +kernel)) rfl
theorem fl_X5_43 : Cond.fieldLink "OnChin$Text" 43 "OnChin$Text" "behind" "I" ∈ GW := gw_of (List.mem_of_getElem? (i := 105) (by decide +kernel)) rfl
theorem fl_X0_9 : Cond.fieldLink "OnChin$Balance" 9 "OnChin$Balance" "thing" "I" ∈ GW := gw_of (List.mem_of_getElem? (i := 135) (by decide +kernel)) rfl
theorem fl_X8_127 : Cond.fieldLink "OnChin" 127 "OnChin$Balance" "thing" "I" ∈ GW := gw_of (List.mem_of_getElem? (i := 136) (by decide +kernel)) rfl
theorem fl_X0_15 : Cond.fieldLink "OnChin$Balance" 15 "OnChin$Balance" "x" "I" ∈ GW := gw_of (List.mem_of_getElem? (i := 137) (by decide +kernel)) rfl
theorem fl_X8_147 : Cond.fieldLink "OnChin" 147 "OnChin$Balance" "x" "I" ∈ GW := gw_of (List.mem_of_getElem? (i := 138) (by decide +kernel)) rfl
theorem fl_X0_18 : Cond.fieldLink "OnChin$Balance" 18 "OnChin$Balance" "v" "I" ∈ GW := gw_of (List.mem_of_getElem? (i := 139) (by decide +kernel)) rfl
theorem fl_X8_151 : Cond.fieldLink "OnChin" 151 "OnChin$Balance" "v" "I" ∈ GW := gw_of (List.mem_of_getElem? (i := 140) (by decide +kernel)) rfl
theorem fl_X0_21 : Cond.fieldLink "OnChin$Balance" 21 "OnChin$Balance" "f" "I" ∈ GW := gw_of (List.mem_of_getElem? (i := 141) (by decide +kernel)) rfl
theorem fl_X8_154 : Cond.fieldLink "OnChin" 154 "OnChin$Balance" "f" "I" ∈ GW := gw_of (List.mem_of_getElem? (i := 142) (by decide +kernel)) rfl
theorem fl_X0_24 : Cond.fieldLink "OnChin$Balance" 24 "OnChin$Balance" "t" "I" ∈ GW := gw_of (List.mem_of_getElem? (i := 143) (by decide +kernel)) rfl
theorem fl_X4_62 : Cond.fieldLink "OnChin$Keeper" 62 "OnChin$Balance" "t" "I" ∈ GW := gw_of (List.mem_of_getElem? (i := 144) (by decide +kernel)) rfl
theorem fl_X8_140 : Cond.fieldLink "OnChin" 140 "OnChin$Balance" "t" "I" ∈ GW := gw_of (List.mem_of_getElem? (i := 145) (by decide +kernel)) rfl
theorem fl_X0_27 : Cond.fieldLink "OnChin$Balance" 27 "OnChin$Balance" "m" "I" ∈ GW := gw_of (List.mem_of_getElem? (i := 146) (by decide +kernel)) rfl
theorem fl_X8_157 : Cond.fieldLink "OnChin" 157 "OnChin$Balance" "m" "I" ∈ GW := gw_of (List.mem_of_getElem? (i := 147) (by decide +kernel)) rfl
theorem fl_X0_30 : Cond.fieldLink "OnChin$Balance" 30 "OnChin$Balance" "trail" "[I" ∈ GW := gw_of (List.mem_of_getElem? (i := 148) (by decide +kernel)) rfl
theorem fl_X4_9 : Cond.fieldLink "OnChin$Keeper" 9 "OnChin$Keeper" "rule" "[I" ∈ GW := gw_of (List.mem_of_getElem? (i := 175) (by decide +kernel)) rfl
theorem fl_X1_19 : Cond.fieldLink "OnChin$Evenings" 19 "OnChin$Keeper" "rule" "[I" ∈ GW := gw_of (List.mem_of_getElem? (i := 176) (by decide +kernel)) rfl
theorem fl_X4_18 : Cond.fieldLink "OnChin$Keeper" 18 "OnChin$Keeper" "first" "LOnChin$Balance;" ∈ GW := gw_of (List.mem_of_getElem? (i := 177) (by decide +kernel)) rfl
theorem fl_X8_195 : Cond.fieldLink "OnChin" 195 "OnChin$Keeper" "first" "LOnChin$Balance;" ∈ GW := gw_of (List.mem_of_getElem? (i := 178) (by decide +kernel)) rfl
theorem fl_X4_22 : Cond.fieldLink "OnChin$Keeper" 22 "OnChin$Keeper" "second" "LOnChin$Balance;" ∈ GW := gw_of (List.mem_of_getElem? (i := 179) (by decide +kernel)) rfl
theorem fl_X8_198 : Cond.fieldLink "OnChin" 198 "OnChin$Keeper" "second" "LOnChin$Balance;" ∈ GW := gw_of (List.mem_of_getElem? (i := 180) (by decide +kernel)) rfl
theorem fl_X4_28 : Cond.fieldLink "OnChin$Keeper" 28 "OnChin$Keeper" "pole" "LOnChin$Thing;" ∈ GW := gw_of (List.mem_of_getElem? (i := 181) (by decide +kernel)) rfl
theorem fl_X1_9 : Cond.fieldLink "OnChin$Evenings" 9 "OnChin$Evenings" "leastTenths" "I" ∈ GW := gw_of (List.mem_of_getElem? (i := 197) (by decide +kernel)) rfl
theorem fl_X8_241 : Cond.fieldLink "OnChin" 241 "OnChin$Evenings" "leastTenths" "I" ∈ GW := gw_of (List.mem_of_getElem? (i := 198) (by decide +kernel)) rfl
theorem fl_X1_15 : Cond.fieldLink "OnChin$Evenings" 15 "OnChin$Evenings" "learned" "[I" ∈ GW := gw_of (List.mem_of_getElem? (i := 199) (by decide +kernel)) rfl
theorem fl_X2_9 : Cond.fieldLink "OnChin$Film" 9 "OnChin$Film" "count" "I" ∈ GW := gw_of (List.mem_of_getElem? (i := 211) (by decide +kernel)) rfl
theorem fl_X8_205 : Cond.fieldLink "OnChin" 205 "OnChin$Film" "count" "I" ∈ GW := gw_of (List.mem_of_getElem? (i := 212) (by decide +kernel)) rfl
theorem fl_X2_15 : Cond.fieldLink "OnChin$Film" 15 "OnChin$Film" "fitting" "I" ∈ GW := gw_of (List.mem_of_getElem? (i := 213) (by decide +kernel)) rfl
theorem fl_X8_215 : Cond.fieldLink "OnChin" 215 "OnChin$Film" "fitting" "I" ∈ GW := gw_of (List.mem_of_getElem? (i := 214) (by decide +kernel)) rfl
theorem fl_X2_18 : Cond.fieldLink "OnChin$Film" 18 "OnChin$Film" "firstLate" "I" ∈ GW := gw_of (List.mem_of_getElem? (i := 215) (by decide +kernel)) rfl
theorem fl_X8_218 : Cond.fieldLink "OnChin" 218 "OnChin$Film" "firstLate" "I" ∈ GW := gw_of (List.mem_of_getElem? (i := 216) (by decide +kernel)) rfl
theorem fl_X2_21 : Cond.fieldLink "OnChin$Film" 21 "OnChin$Film" "firstA" "I" ∈ GW := gw_of (List.mem_of_getElem? (i := 217) (by decide +kernel)) rfl
theorem fl_X8_221 : Cond.fieldLink "OnChin" 221 "OnChin$Film" "firstA" "I" ∈ GW := gw_of (List.mem_of_getElem? (i := 218) (by decide +kernel)) rfl
theorem fl_X2_24 : Cond.fieldLink "OnChin$Film" 24 "OnChin$Film" "firstB" "I" ∈ GW := gw_of (List.mem_of_getElem? (i := 219) (by decide +kernel)) rfl
theorem fl_X8_224 : Cond.fieldLink "OnChin" 224 "OnChin$Film" "firstB" "I" ∈ GW := gw_of (List.mem_of_getElem? (i := 220) (by decide +kernel)) rfl
theorem fl_X2_27 : Cond.fieldLink "OnChin$Film" 27 "OnChin$Film" "leastNext" "I" ∈ GW := gw_of (List.mem_of_getElem? (i := 221) (by decide +kernel)) rfl
theorem fl_X8_227 : Cond.fieldLink "OnChin" 227 "OnChin$Film" "leastNext" "I" ∈ GW := gw_of (List.mem_of_getElem? (i := 222) (by decide +kernel)) rfl
theorem fl_X2_30 : Cond.fieldLink "OnChin$Film" 30 "OnChin$Film" "mostNext" "I" ∈ GW := gw_of (List.mem_of_getElem? (i := 223) (by decide +kernel)) rfl
theorem fl_X8_230 : Cond.fieldLink "OnChin" 230 "OnChin$Film" "mostNext" "I" ∈ GW := gw_of (List.mem_of_getElem? (i := 224) (by decide +kernel)) rfl
theorem fl_X2_33 : Cond.fieldLink "OnChin$Film" 33 "OnChin$Film" "xs" "[I" ∈ GW := gw_of (List.mem_of_getElem? (i := 225) (by decide +kernel)) rfl
theorem fl_X2_37 : Cond.fieldLink "OnChin$Film" 37 "OnChin$Film" "ms" "[I" ∈ GW := gw_of (List.mem_of_getElem? (i := 226) (by decide +kernel)) rfl
theorem fl_X2_40 : Cond.fieldLink "OnChin$Film" 40 "OnChin$Film" "rule" "[I" ∈ GW := gw_of (List.mem_of_getElem? (i := 227) (by decide +kernel)) rfl
theorem fl_X3_9 : Cond.fieldLink "OnChin$House" 9 "OnChin$House" "draughts" "[I" ∈ GW := gw_of (List.mem_of_getElem? (i := 255) (by decide +kernel)) rfl
theorem fl_X8_247 : Cond.fieldLink "OnChin" 247 "OnChin$House" "draughts" "[I" ∈ GW := gw_of (List.mem_of_getElem? (i := 256) (by decide +kernel)) rfl
theorem fl_X3_15 : Cond.fieldLink "OnChin$House" 15 "OnChin$House" "lamps" "[I" ∈ GW := gw_of (List.mem_of_getElem? (i := 257) (by decide +kernel)) rfl
theorem fl_X8_250 : Cond.fieldLink "OnChin" 250 "OnChin$House" "lamps" "[I" ∈ GW := gw_of (List.mem_of_getElem? (i := 258) (by decide +kernel)) rfl
theorem fl_X3_18 : Cond.fieldLink "OnChin$House" 18 "OnChin$House" "steps" "[I" ∈ GW := gw_of (List.mem_of_getElem? (i := 259) (by decide +kernel)) rfl
theorem fl_X8_256 : Cond.fieldLink "OnChin" 256 "OnChin$House" "steps" "[I" ∈ GW := gw_of (List.mem_of_getElem? (i := 260) (by decide +kernel)) rfl
theorem fl_X3_21 : Cond.fieldLink "OnChin$House" 21 "OnChin$House" "together" "[I" ∈ GW := gw_of (List.mem_of_getElem? (i := 261) (by decide +kernel)) rfl
theorem fl_X8_259 : Cond.fieldLink "OnChin" 259 "OnChin$House" "together" "[I" ∈ GW := gw_of (List.mem_of_getElem? (i := 262) (by decide +kernel)) rfl
theorem fl_X3_24 : Cond.fieldLink "OnChin$House" 24 "OnChin$House" "reached" "[I" ∈ GW := gw_of (List.mem_of_getElem? (i := 263) (by decide +kernel)) rfl
theorem fl_X3_27 : Cond.fieldLink "OnChin$House" 27 "OnChin$House" "known" "I" ∈ GW := gw_of (List.mem_of_getElem? (i := 264) (by decide +kernel)) rfl
theorem fl_X8_12 : Cond.fieldLink "OnChin" 12 "OnChin" "told" "LOnChin$Told;" ∈ GW := gw_of (List.mem_of_getElem? (i := 278) (by decide +kernel)) rfl
theorem fl_X8_19 : Cond.fieldLink "OnChin" 19 "OnChin" "text" "LOnChin$Text;" ∈ GW := gw_of (List.mem_of_getElem? (i := 279) (by decide +kernel)) rfl
theorem fl_X8_26 : Cond.fieldLink "OnChin" 26 "OnChin" "up" "LOnChin$Balance;" ∈ GW := gw_of (List.mem_of_getElem? (i := 280) (by decide +kernel)) rfl
theorem fl_X8_30 : Cond.fieldLink "OnChin" 30 "OnChin" "images" "[LOnChin$Balance;" ∈ GW := gw_of (List.mem_of_getElem? (i := 281) (by decide +kernel)) rfl
theorem fl_X8_37 : Cond.fieldLink "OnChin" 37 "OnChin" "keeper" "LOnChin$Keeper;" ∈ GW := gw_of (List.mem_of_getElem? (i := 282) (by decide +kernel)) rfl
theorem fl_X8_44 : Cond.fieldLink "OnChin" 44 "OnChin" "evenings" "LOnChin$Evenings;" ∈ GW := gw_of (List.mem_of_getElem? (i := 283) (by decide +kernel)) rfl
theorem fl_X8_51 : Cond.fieldLink "OnChin" 51 "OnChin" "rows" "LOnChin$Film;" ∈ GW := gw_of (List.mem_of_getElem? (i := 284) (by decide +kernel)) rfl
theorem fl_X8_58 : Cond.fieldLink "OnChin" 58 "OnChin" "house" "LOnChin$House;" ∈ GW := gw_of (List.mem_of_getElem? (i := 285) (by decide +kernel)) rfl
theorem fl_J0_38 : Cond.fieldLink "java/lang/String" 38 "java/lang/String" "COMPACT_STRINGS" "Z" ∈ GW := gw_of (List.mem_of_getElem? (i := 354) (by decide +kernel)) rfl
theorem fl_J0_1053 : Cond.fieldLink "java/lang/String" 1053 "jdk/internal/util/Preconditions" "SIOOBE_FORMATTER" "Ljava/util/function/BiFunction;" ∈ GW := gw_of (List.mem_of_getElem? (i := 370) (by decide +kernel)) rfl
theorem fl_J2_44 : Cond.fieldLink "java/lang/StringUTF16" 44 "java/lang/StringUTF16" "$assertionsDisabled" "Z" ∈ GW := gw_of (List.mem_of_getElem? (i := 388) (by decide +kernel)) rfl
theorem fl_J2_59 : Cond.fieldLink "java/lang/StringUTF16" 59 "java/lang/StringUTF16" "HI_BYTE_SHIFT" "I" ∈ GW := gw_of (List.mem_of_getElem? (i := 390) (by decide +kernel)) rfl
theorem fl_J2_63 : Cond.fieldLink "java/lang/StringUTF16" 63 "java/lang/StringUTF16" "LO_BYTE_SHIFT" "I" ∈ GW := gw_of (List.mem_of_getElem? (i := 392) (by decide +kernel)) rfl
theorem fl_X9_7 : Cond.fieldLink "OnChinModel" 7 "OnChinModel" "text" "[I" ∈ GW := gw_of (List.mem_of_getElem? (i := 764) (by decide +kernel)) rfl
theorem fl_X9_96 : Cond.fieldLink "OnChinModel" 96 "OnChinModel" "length" "I" ∈ GW := gw_of (List.mem_of_getElem? (i := 765) (by decide +kernel)) rfl
theorem fl_X9_13 : Cond.fieldLink "OnChinModel" 13 "OnChinModel" "read" "[I" ∈ GW := gw_of (List.mem_of_getElem? (i := 766) (by decide +kernel)) rfl
theorem fl_X9_138 : Cond.fieldLink "OnChinModel" 138 "OnChinModel" "readMany" "I" ∈ GW := gw_of (List.mem_of_getElem? (i := 767) (by decide +kernel)) rfl
theorem fl_X9_16 : Cond.fieldLink "OnChinModel" 16 "OnChinModel" "kinds" "[I" ∈ GW := gw_of (List.mem_of_getElem? (i := 768) (by decide +kernel)) rfl
theorem fl_X9_19 : Cond.fieldLink "OnChinModel" 19 "OnChinModel" "much" "[I" ∈ GW := gw_of (List.mem_of_getElem? (i := 769) (by decide +kernel)) rfl
theorem fl_X9_22 : Cond.fieldLink "OnChinModel" 22 "OnChinModel" "lumpMany" "[I" ∈ GW := gw_of (List.mem_of_getElem? (i := 770) (by decide +kernel)) rfl
theorem fl_X9_25 : Cond.fieldLink "OnChinModel" 25 "OnChinModel" "lumps" "[I" ∈ GW := gw_of (List.mem_of_getElem? (i := 771) (by decide +kernel)) rfl
theorem fl_X9_28 : Cond.fieldLink "OnChinModel" 28 "OnChinModel" "a" "I" ∈ GW := gw_of (List.mem_of_getElem? (i := 772) (by decide +kernel)) rfl
theorem fl_X9_32 : Cond.fieldLink "OnChinModel" 32 "OnChinModel" "b" "I" ∈ GW := gw_of (List.mem_of_getElem? (i := 773) (by decide +kernel)) rfl
theorem fl_X9_35 : Cond.fieldLink "OnChinModel" 35 "OnChinModel" "late" "I" ∈ GW := gw_of (List.mem_of_getElem? (i := 774) (by decide +kernel)) rfl
theorem fl_X9_38 : Cond.fieldLink "OnChinModel" 38 "OnChinModel" "reach" "I" ∈ GW := gw_of (List.mem_of_getElem? (i := 775) (by decide +kernel)) rfl
theorem fl_X9_174 : Cond.fieldLink "OnChinModel" 174 "OnChinModel" "dead" "I" ∈ GW := gw_of (List.mem_of_getElem? (i := 776) (by decide +kernel)) rfl
theorem fl_X9_41 : Cond.fieldLink "OnChinModel" 41 "OnChinModel" "floor" "I" ∈ GW := gw_of (List.mem_of_getElem? (i := 777) (by decide +kernel)) rfl
theorem fl_X9_44 : Cond.fieldLink "OnChinModel" 44 "OnChinModel" "pull" "I" ∈ GW := gw_of (List.mem_of_getElem? (i := 778) (by decide +kernel)) rfl
theorem fl_X9_47 : Cond.fieldLink "OnChinModel" 47 "OnChinModel" "bound" "I" ∈ GW := gw_of (List.mem_of_getElem? (i := 779) (by decide +kernel)) rfl
theorem fl_X9_177 : Cond.fieldLink "OnChinModel" 177 "OnChinModel" "wind" "I" ∈ GW := gw_of (List.mem_of_getElem? (i := 780) (by decide +kernel)) rfl
theorem fl_X9_180 : Cond.fieldLink "OnChinModel" 180 "OnChinModel" "shake" "I" ∈ GW := gw_of (List.mem_of_getElem? (i := 781) (by decide +kernel)) rfl
theorem fl_X9_101 : Cond.fieldLink "OnChinModel" 101 "OnChinModel" "at" "I" ∈ GW := gw_of (List.mem_of_getElem? (i := 782) (by decide +kernel)) rfl
theorem fl_X9_104 : Cond.fieldLink "OnChinModel" 104 "OnChinModel" "place" "I" ∈ GW := gw_of (List.mem_of_getElem? (i := 783) (by decide +kernel)) rfl
theorem fl_X9_111 : Cond.fieldLink "OnChinModel" 111 "OnChinModel" "end" "I" ∈ GW := gw_of (List.mem_of_getElem? (i := 784) (by decide +kernel)) rfl
theorem fl_X9_50 : Cond.fieldLink "OnChinModel" 50 "OnChinModel" "readLumps" "[I" ∈ GW := gw_of (List.mem_of_getElem? (i := 785) (by decide +kernel)) rfl
theorem fl_X9_53 : Cond.fieldLink "OnChinModel" 53 "OnChinModel" "leant" "[I" ∈ GW := gw_of (List.mem_of_getElem? (i := 786) (by decide +kernel)) rfl
theorem fl_X9_56 : Cond.fieldLink "OnChinModel" 56 "OnChinModel" "going" "[I" ∈ GW := gw_of (List.mem_of_getElem? (i := 787) (by decide +kernel)) rfl
theorem fl_X9_59 : Cond.fieldLink "OnChinModel" 59 "OnChinModel" "foot" "[I" ∈ GW := gw_of (List.mem_of_getElem? (i := 788) (by decide +kernel)) rfl
theorem fl_X9_62 : Cond.fieldLink "OnChinModel" 62 "OnChinModel" "gone" "[I" ∈ GW := gw_of (List.mem_of_getElem? (i := 789) (by decide +kernel)) rfl
theorem fl_X9_65 : Cond.fieldLink "OnChinModel" 65 "OnChinModel" "moved" "[I" ∈ GW := gw_of (List.mem_of_getElem? (i := 790) (by decide +kernel)) rfl
theorem fl_X9_68 : Cond.fieldLink "OnChinModel" 68 "OnChinModel" "thingOf" "[I" ∈ GW := gw_of (List.mem_of_getElem? (i := 791) (by decide +kernel)) rfl
theorem fl_X9_201 : Cond.fieldLink "OnChinModel" 201 "OnChinModel" "ruleA" "I" ∈ GW := gw_of (List.mem_of_getElem? (i := 792) (by decide +kernel)) rfl
theorem fl_X9_204 : Cond.fieldLink "OnChinModel" 204 "OnChinModel" "ruleB" "I" ∈ GW := gw_of (List.mem_of_getElem? (i := 793) (by decide +kernel)) rfl
theorem fl_X9_207 : Cond.fieldLink "OnChinModel" 207 "OnChinModel" "ruleLate" "I" ∈ GW := gw_of (List.mem_of_getElem? (i := 794) (by decide +kernel)) rfl
theorem fl_X9_210 : Cond.fieldLink "OnChinModel" 210 "OnChinModel" "ruleShake" "I" ∈ GW := gw_of (List.mem_of_getElem? (i := 795) (by decide +kernel)) rfl
theorem fl_X9_216 : Cond.fieldLink "OnChinModel" 216 "OnChinModel" "kind" "I" ∈ GW := gw_of (List.mem_of_getElem? (i := 796) (by decide +kernel)) rfl
theorem fl_X9_219 : Cond.fieldLink "OnChinModel" 219 "OnChinModel" "own" "I" ∈ GW := gw_of (List.mem_of_getElem? (i := 797) (by decide +kernel)) rfl
theorem fl_X9_222 : Cond.fieldLink "OnChinModel" 222 "OnChinModel" "lengthNow" "I" ∈ GW := gw_of (List.mem_of_getElem? (i := 798) (by decide +kernel)) rfl
theorem fl_X9_71 : Cond.fieldLink "OnChinModel" 71 "OnChinModel" "filmX" "[I" ∈ GW := gw_of (List.mem_of_getElem? (i := 799) (by decide +kernel)) rfl
theorem fl_X9_74 : Cond.fieldLink "OnChinModel" 74 "OnChinModel" "filmM" "[I" ∈ GW := gw_of (List.mem_of_getElem? (i := 800) (by decide +kernel)) rfl
theorem fl_X9_302 : Cond.fieldLink "OnChinModel" 302 "OnChinModel" "filmMany" "I" ∈ GW := gw_of (List.mem_of_getElem? (i := 801) (by decide +kernel)) rfl
theorem fl_X9_77 : Cond.fieldLink "OnChinModel" 77 "OnChinModel" "holds" "[Z" ∈ GW := gw_of (List.mem_of_getElem? (i := 802) (by decide +kernel)) rfl
theorem fl_X9_81 : Cond.fieldLink "OnChinModel" 81 "OnChinModel" "draughts" "[I" ∈ GW := gw_of (List.mem_of_getElem? (i := 803) (by decide +kernel)) rfl
theorem fl_X9_84 : Cond.fieldLink "OnChinModel" 84 "OnChinModel" "lamps" "[I" ∈ GW := gw_of (List.mem_of_getElem? (i := 804) (by decide +kernel)) rfl
theorem fl_X9_87 : Cond.fieldLink "OnChinModel" 87 "OnChinModel" "costs" "[I" ∈ GW := gw_of (List.mem_of_getElem? (i := 805) (by decide +kernel)) rfl
theorem fl_J0_9 : Cond.fieldLink "java/lang/String" 9 "java/lang/String" "value" "[B" ∈ GW := gw_of (List.mem_of_getElem? (i := 1171) (by decide +kernel)) rfl
theorem fl_J0_15 : Cond.fieldLink "java/lang/String" 15 "java/lang/String" "coder" "B" ∈ GW := gw_of (List.mem_of_getElem? (i := 1172) (by decide +kernel)) rfl
theorem ml_L_9 : Cond.methodLink "OnChinLaw" 9 yX8_init ∈ GW := gw_of (List.mem_of_getElem? (i := 19) (by decide +kernel)) rfl
theorem ml_X8_3 : Cond.methodLink "OnChin" 3 objectInit ∈ GW := gw_of (List.mem_of_getElem? (i := 22) (by decide +kernel)) rfl
theorem ml_X8_11 : Cond.methodLink "OnChin" 11 yX7_init ∈ GW := gw_of (List.mem_of_getElem? (i := 27) (by decide +kernel)) rfl
theorem ml_X7_3 : Cond.methodLink "OnChin$Told" 3 objectInit ∈ GW := gw_of (List.mem_of_getElem? (i := 30) (by decide +kernel)) rfl
theorem ml_X6_3 : Cond.methodLink "OnChin$Thing" 3 objectInit ∈ GW := gw_of (List.mem_of_getElem? (i := 37) (by decide +kernel)) rfl
theorem ml_X7_25 : Cond.methodLink "OnChin$Told" 25 arraycopyName ∈ GW := gw_of (List.mem_of_getElem? (i := 72) (by decide +kernel)) rfl
theorem ml_X5_3 : Cond.methodLink "OnChin$Text" 3 objectInit ∈ GW := gw_of (List.mem_of_getElem? (i := 92) (by decide +kernel)) rfl
theorem ml_X0_3 : Cond.methodLink "OnChin$Balance" 3 objectInit ∈ GW := gw_of (List.mem_of_getElem? (i := 134) (by decide +kernel)) rfl
theorem ml_X4_3 : Cond.methodLink "OnChin$Keeper" 3 objectInit ∈ GW := gw_of (List.mem_of_getElem? (i := 170) (by decide +kernel)) rfl
theorem ml_X1_3 : Cond.methodLink "OnChin$Evenings" 3 objectInit ∈ GW := gw_of (List.mem_of_getElem? (i := 196) (by decide +kernel)) rfl
theorem ml_X2_3 : Cond.methodLink "OnChin$Film" 3 objectInit ∈ GW := gw_of (List.mem_of_getElem? (i := 210) (by decide +kernel)) rfl
theorem ml_X3_3 : Cond.methodLink "OnChin$House" 3 objectInit ∈ GW := gw_of (List.mem_of_getElem? (i := 254) (by decide +kernel)) rfl
theorem ml_L_15 : Cond.methodLink "OnChinLaw" 15 yX8_write ∈ GW := gw_of (List.mem_of_getElem? (i := 303) (by decide +kernel)) rfl
theorem ml_X8_62 : Cond.methodLink "OnChin" 62 yX8_within ∈ GW := gw_of (List.mem_of_getElem? (i := 307) (by decide +kernel)) rfl
theorem ml_X8_72 : Cond.methodLink "OnChin" 72 yX5_append ∈ GW := gw_of (List.mem_of_getElem? (i := 311) (by decide +kernel)) rfl
theorem ml_L_20 : Cond.methodLink "OnChinLaw" 20 yX8_erase ∈ GW := gw_of (List.mem_of_getElem? (i := 315) (by decide +kernel)) rfl
theorem ml_L_25 : Cond.methodLink "OnChinLaw" 25 yX8_fault ∈ GW := gw_of (List.mem_of_getElem? (i := 319) (by decide +kernel)) rfl
theorem ml_X8_76 : Cond.methodLink "OnChin" 76 yX5_firstFault ∈ GW := gw_of (List.mem_of_getElem? (i := 323) (by decide +kernel)) rfl
theorem ml_X5_56 : Cond.methodLink "OnChin$Text" 56 yX5_readToken ∈ GW := gw_of (List.mem_of_getElem? (i := 327) (by decide +kernel)) rfl
theorem ml_X5_63 : Cond.methodLink "OnChin$Text" 63 yX5_sort ∈ GW := gw_of (List.mem_of_getElem? (i := 331) (by decide +kernel)) rfl
theorem ml_X5_67 : Cond.methodLink "OnChin$Text" 67 Lib.Math.min.name ∈ GW := gw_of (List.mem_of_getElem? (i := 334) (by decide +kernel)) rfl
theorem ml_X5_59 : Cond.methodLink "OnChin$Text" 59 yX5_readLine ∈ GW := gw_of (List.mem_of_getElem? (i := 337) (by decide +kernel)) rfl
theorem ml_X5_84 : Cond.methodLink "OnChin$Text" 84 yX5_says ∈ GW := gw_of (List.mem_of_getElem? (i := 342) (by decide +kernel)) rfl
theorem ml_X5_73 : Cond.methodLink "OnChin$Text" 73 yJ0_length_8abf5 ∈ GW := gw_of (List.mem_of_getElem? (i := 346) (by decide +kernel)) rfl
theorem ml_J0_335 : Cond.methodLink "java/lang/String" 335 yJ0_coder_7d493 ∈ GW := gw_of (List.mem_of_getElem? (i := 350) (by decide +kernel)) rfl
theorem ml_X5_78 : Cond.methodLink "OnChin$Text" 78 yJ0_charAt_5068e ∈ GW := gw_of (List.mem_of_getElem? (i := 356) (by decide +kernel)) rfl
theorem ml_J0_492 : Cond.methodLink "java/lang/String" 492 yJ0_isLatin1_aae02 ∈ GW := gw_of (List.mem_of_getElem? (i := 360) (by decide +kernel)) rfl
theorem ml_J0_495 : Cond.methodLink "java/lang/String" 495 yJ1_charAt_3b067 ∈ GW := gw_of (List.mem_of_getElem? (i := 364) (by decide +kernel)) rfl
theorem ml_J1_9 : Cond.methodLink "java/lang/StringLatin1" 9 yJ0_checkIndex_df160 ∈ GW := gw_of (List.mem_of_getElem? (i := 367) (by decide +kernel)) rfl
theorem ml_J0_1059 : Cond.methodLink "java/lang/String" 1059 yJ3_checkIndex_8e157 ∈ GW := gw_of (List.mem_of_getElem? (i := 372) (by decide +kernel)) rfl
theorem ml_J0_498 : Cond.methodLink "java/lang/String" 498 yJ2_charAt_3b067 ∈ GW := gw_of (List.mem_of_getElem? (i := 375) (by decide +kernel)) rfl
theorem ml_J2_67 : Cond.methodLink "java/lang/StringUTF16" 67 yJ2_checkIndex_2214a ∈ GW := gw_of (List.mem_of_getElem? (i := 378) (by decide +kernel)) rfl
theorem ml_J2_48 : Cond.methodLink "java/lang/StringUTF16" 48 yJ2_length_9d52b ∈ GW := gw_of (List.mem_of_getElem? (i := 381) (by decide +kernel)) rfl
theorem ml_J2_414 : Cond.methodLink "java/lang/StringUTF16" 414 yJ0_checkIndex_df160 ∈ GW := gw_of (List.mem_of_getElem? (i := 384) (by decide +kernel)) rfl
theorem ml_J2_71 : Cond.methodLink "java/lang/StringUTF16" 71 yJ2_getChar_3b067 ∈ GW := gw_of (List.mem_of_getElem? (i := 385) (by decide +kernel)) rfl
theorem ml_X5_88 : Cond.methodLink "OnChin$Text" 88 yX5_readThing ∈ GW := gw_of (List.mem_of_getElem? (i := 394) (by decide +kernel)) rfl
theorem ml_X5_120 : Cond.methodLink "OnChin$Text" 120 yX5_readNumber ∈ GW := gw_of (List.mem_of_getElem? (i := 398) (by decide +kernel)) rfl
theorem ml_X5_138 : Cond.methodLink "OnChin$Text" 138 yX5_number ∈ GW := gw_of (List.mem_of_getElem? (i := 402) (by decide +kernel)) rfl
theorem ml_X5_126 : Cond.methodLink "OnChin$Text" 126 yX5_store ∈ GW := gw_of (List.mem_of_getElem? (i := 407) (by decide +kernel)) rfl
theorem ml_X5_123 : Cond.methodLink "OnChin$Text" 123 yX5_kindNamed ∈ GW := gw_of (List.mem_of_getElem? (i := 411) (by decide +kernel)) rfl
theorem ml_X5_93 : Cond.methodLink "OnChin$Text" 93 yX5_readLump ∈ GW := gw_of (List.mem_of_getElem? (i := 420) (by decide +kernel)) rfl
theorem ml_X5_98 : Cond.methodLink "OnChin$Text" 98 yX5_readBare ∈ GW := gw_of (List.mem_of_getElem? (i := 428) (by decide +kernel)) rfl
theorem ml_X5_103 : Cond.methodLink "OnChin$Text" 103 yX5_readNumbers ∈ GW := gw_of (List.mem_of_getElem? (i := 433) (by decide +kernel)) rfl
theorem ml_X5_107 : Cond.methodLink "OnChin$Text" 107 yX5_placeNamed ∈ GW := gw_of (List.mem_of_getElem? (i := 441) (by decide +kernel)) rfl
theorem ml_L_29 : Cond.methodLink "OnChinLaw" 29 yX8_chin ∈ GW := gw_of (List.mem_of_getElem? (i := 451) (by decide +kernel)) rfl
theorem ml_X8_80 : Cond.methodLink "OnChin" 80 yX5_tell ∈ GW := gw_of (List.mem_of_getElem? (i := 455) (by decide +kernel)) rfl
theorem ml_X5_156 : Cond.methodLink "OnChin$Text" 156 arraycopyName ∈ GW := gw_of (List.mem_of_getElem? (i := 459) (by decide +kernel)) rfl
theorem ml_X5_162 : Cond.methodLink "OnChin$Text" 162 yX5_tellThing ∈ GW := gw_of (List.mem_of_getElem? (i := 460) (by decide +kernel)) rfl
theorem ml_X5_166 : Cond.methodLink "OnChin$Text" 166 yX6_become ∈ GW := gw_of (List.mem_of_getElem? (i := 464) (by decide +kernel)) rfl
theorem ml_X5_170 : Cond.methodLink "OnChin$Text" 170 yX6_addLump ∈ GW := gw_of (List.mem_of_getElem? (i := 468) (by decide +kernel)) rfl
theorem ml_X6_34 : Cond.methodLink "OnChin$Thing" 34 yX6_measure ∈ GW := gw_of (List.mem_of_getElem? (i := 472) (by decide +kernel)) rfl
theorem ml_X6_37 : Cond.methodLink "OnChin$Thing" 37 Lib.Math.max.name ∈ GW := gw_of (List.mem_of_getElem? (i := 476) (by decide +kernel)) rfl
theorem ml_X5_173 : Cond.methodLink "OnChin$Text" 173 yX6_strip ∈ GW := gw_of (List.mem_of_getElem? (i := 479) (by decide +kernel)) rfl
theorem ml_L_33 : Cond.methodLink "OnChinLaw" 33 yX8_thing ∈ GW := gw_of (List.mem_of_getElem? (i := 483) (by decide +kernel)) rfl
theorem ml_X8_87 : Cond.methodLink "OnChin" 87 yX8_isThing ∈ GW := gw_of (List.mem_of_getElem? (i := 487) (by decide +kernel)) rfl
theorem ml_L_38 : Cond.methodLink "OnChinLaw" 38 yX8_lump ∈ GW := gw_of (List.mem_of_getElem? (i := 488) (by decide +kernel)) rfl
theorem ml_L_43 : Cond.methodLink "OnChinLaw" 43 yX8_begin ∈ GW := gw_of (List.mem_of_getElem? (i := 492) (by decide +kernel)) rfl
theorem ml_X8_119 : Cond.methodLink "OnChin" 119 yX8_refusal ∈ GW := gw_of (List.mem_of_getElem? (i := 496) (by decide +kernel)) rfl
theorem ml_X8_137 : Cond.methodLink "OnChin" 137 yX8_hasLumps ∈ GW := gw_of (List.mem_of_getElem? (i := 500) (by decide +kernel)) rfl
theorem ml_X8_123 : Cond.methodLink "OnChin" 123 yX0_start ∈ GW := gw_of (List.mem_of_getElem? (i := 504) (by decide +kernel)) rfl
theorem ml_L_47 : Cond.methodLink "OnChinLaw" 47 yX8_ticks ∈ GW := gw_of (List.mem_of_getElem? (i := 508) (by decide +kernel)) rfl
theorem ml_X8_133 : Cond.methodLink "OnChin" 133 yX0_fell ∈ GW := gw_of (List.mem_of_getElem? (i := 512) (by decide +kernel)) rfl
theorem ml_X8_143 : Cond.methodLink "OnChin" 143 yX0_tick ∈ GW := gw_of (List.mem_of_getElem? (i := 516) (by decide +kernel)) rfl
theorem ml_X0_40 : Cond.methodLink "OnChin$Balance" 40 yX0_move ∈ GW := gw_of (List.mem_of_getElem? (i := 520) (by decide +kernel)) rfl
theorem ml_X0_50 : Cond.methodLink "OnChin$Balance" 50 yX6_seenLater ∈ GW := gw_of (List.mem_of_getElem? (i := 524) (by decide +kernel)) rfl
theorem ml_X0_54 : Cond.methodLink "OnChin$Balance" 54 yX0_was ∈ GW := gw_of (List.mem_of_getElem? (i := 528) (by decide +kernel)) rfl
theorem ml_X8_262 : Cond.methodLink "OnChin" 262 Lib.Math.abs.name ∈ GW := gw_of (List.mem_of_getElem? (i := 535) (by decide +kernel)) rfl
theorem ml_X8_267 : Cond.methodLink "OnChin" 267 yX8_limited ∈ GW := gw_of (List.mem_of_getElem? (i := 538) (by decide +kernel)) rfl
theorem ml_X0_44 : Cond.methodLink "OnChin$Balance" 44 yX6_leaning ∈ GW := gw_of (List.mem_of_getElem? (i := 542) (by decide +kernel)) rfl
theorem ml_L_52 : Cond.methodLink "OnChinLaw" 52 yX8_now ∈ GW := gw_of (List.mem_of_getElem? (i := 546) (by decide +kernel)) rfl
theorem ml_L_56 : Cond.methodLink "OnChinLaw" 56 yX8_keep ∈ GW := gw_of (List.mem_of_getElem? (i := 551) (by decide +kernel)) rfl
theorem ml_X8_160 : Cond.methodLink "OnChin" 160 yX0_copy ∈ GW := gw_of (List.mem_of_getElem? (i := 555) (by decide +kernel)) rfl
theorem ml_X0_34 : Cond.methodLink "OnChin$Balance" 34 arraycopyName ∈ GW := gw_of (List.mem_of_getElem? (i := 559) (by decide +kernel)) rfl
theorem ml_L_60 : Cond.methodLink "OnChinLaw" 60 yX8_back ∈ GW := gw_of (List.mem_of_getElem? (i := 560) (by decide +kernel)) rfl
theorem ml_L_64 : Cond.methodLink "OnChinLaw" 64 yX8_kept ∈ GW := gw_of (List.mem_of_getElem? (i := 564) (by decide +kernel)) rfl
theorem ml_X8_164 : Cond.methodLink "OnChin" 164 yX4_takeRule ∈ GW := gw_of (List.mem_of_getElem? (i := 568) (by decide +kernel)) rfl
theorem ml_X4_32 : Cond.methodLink "OnChin$Keeper" 32 arraycopyName ∈ GW := gw_of (List.mem_of_getElem? (i := 572) (by decide +kernel)) rfl
theorem ml_X8_168 : Cond.methodLink "OnChin" 168 yX4_lasts ∈ GW := gw_of (List.mem_of_getElem? (i := 573) (by decide +kernel)) rfl
theorem ml_X4_38 : Cond.methodLink "OnChin$Keeper" 38 yX6_seenLater ∈ GW := gw_of (List.mem_of_getElem? (i := 577) (by decide +kernel)) rfl
theorem ml_X4_42 : Cond.methodLink "OnChin$Keeper" 42 yX0_start ∈ GW := gw_of (List.mem_of_getElem? (i := 578) (by decide +kernel)) rfl
theorem ml_X4_46 : Cond.methodLink "OnChin$Keeper" 46 yX0_fell ∈ GW := gw_of (List.mem_of_getElem? (i := 579) (by decide +kernel)) rfl
theorem ml_X4_50 : Cond.methodLink "OnChin$Keeper" 50 yX0_isAgain ∈ GW := gw_of (List.mem_of_getElem? (i := 580) (by decide +kernel)) rfl
theorem ml_X4_54 : Cond.methodLink "OnChin$Keeper" 54 yX0_copy ∈ GW := gw_of (List.mem_of_getElem? (i := 584) (by decide +kernel)) rfl
theorem ml_X4_58 : Cond.methodLink "OnChin$Keeper" 58 yX0_tick ∈ GW := gw_of (List.mem_of_getElem? (i := 585) (by decide +kernel)) rfl
theorem ml_L_68 : Cond.methodLink "OnChinLaw" 68 yX8_steady ∈ GW := gw_of (List.mem_of_getElem? (i := 586) (by decide +kernel)) rfl
theorem ml_X8_172 : Cond.methodLink "OnChin" 172 yX4_leastFrom ∈ GW := gw_of (List.mem_of_getElem? (i := 590) (by decide +kernel)) rfl
theorem ml_X4_66 : Cond.methodLink "OnChin$Keeper" 66 yX4_leftmost ∈ GW := gw_of (List.mem_of_getElem? (i := 594) (by decide +kernel)) rfl
theorem ml_X4_70 : Cond.methodLink "OnChin$Keeper" 70 yX4_lasts ∈ GW := gw_of (List.mem_of_getElem? (i := 598) (by decide +kernel)) rfl
theorem ml_X4_74 : Cond.methodLink "OnChin$Keeper" 74 Lib.Math.min.name ∈ GW := gw_of (List.mem_of_getElem? (i := 599) (by decide +kernel)) rfl
theorem ml_L_72 : Cond.methodLink "OnChinLaw" 72 yX8_line ∈ GW := gw_of (List.mem_of_getElem? (i := 600) (by decide +kernel)) rfl
theorem ml_X8_176 : Cond.methodLink "OnChin" 176 yX4_shortestSteady ∈ GW := gw_of (List.mem_of_getElem? (i := 604) (by decide +kernel)) rfl
theorem ml_X4_80 : Cond.methodLink "OnChin$Keeper" 80 yX6_strip ∈ GW := gw_of (List.mem_of_getElem? (i := 608) (by decide +kernel)) rfl
theorem ml_X4_83 : Cond.methodLink "OnChin$Keeper" 83 yX6_addLump ∈ GW := gw_of (List.mem_of_getElem? (i := 609) (by decide +kernel)) rfl
theorem ml_X4_87 : Cond.methodLink "OnChin$Keeper" 87 yX4_isSteady ∈ GW := gw_of (List.mem_of_getElem? (i := 610) (by decide +kernel)) rfl
theorem ml_L_76 : Cond.methodLink "OnChinLaw" 76 yX8_best ∈ GW := gw_of (List.mem_of_getElem? (i := 614) (by decide +kernel)) rfl
theorem ml_X8_180 : Cond.methodLink "OnChin" 180 yX4_bestRule ∈ GW := gw_of (List.mem_of_getElem? (i := 618) (by decide +kernel)) rfl
theorem ml_X4_91 : Cond.methodLink "OnChin$Keeper" 91 yX4_together ∈ GW := gw_of (List.mem_of_getElem? (i := 622) (by decide +kernel)) rfl
theorem ml_L_80 : Cond.methodLink "OnChinLaw" 80 yX8_odds ∈ GW := gw_of (List.mem_of_getElem? (i := 626) (by decide +kernel)) rfl
theorem ml_X8_184 : Cond.methodLink "OnChin" 184 yX4_chances ∈ GW := gw_of (List.mem_of_getElem? (i := 630) (by decide +kernel)) rfl
theorem ml_X8_188 : Cond.methodLink "OnChin" 188 yX8_lowestTerms ∈ GW := gw_of (List.mem_of_getElem? (i := 637) (by decide +kernel)) rfl
theorem ml_X8_270 : Cond.methodLink "OnChin" 270 yX8_power ∈ GW := gw_of (List.mem_of_getElem? (i := 640) (by decide +kernel)) rfl
theorem ml_L_85 : Cond.methodLink "OnChinLaw" 85 yX8_stands ∈ GW := gw_of (List.mem_of_getElem? (i := 641) (by decide +kernel)) rfl
theorem ml_X8_192 : Cond.methodLink "OnChin" 192 yX4_leastShake ∈ GW := gw_of (List.mem_of_getElem? (i := 645) (by decide +kernel)) rfl
theorem ml_X4_101 : Cond.methodLink "OnChin$Keeper" 101 yX4_standsAlone ∈ GW := gw_of (List.mem_of_getElem? (i := 650) (by decide +kernel)) rfl
theorem ml_L_89 : Cond.methodLink "OnChinLaw" 89 yX8_two ∈ GW := gw_of (List.mem_of_getElem? (i := 654) (by decide +kernel)) rfl
theorem ml_X8_201 : Cond.methodLink "OnChin" 201 yX4_bothLast ∈ GW := gw_of (List.mem_of_getElem? (i := 658) (by decide +kernel)) rfl
theorem ml_X4_104 : Cond.methodLink "OnChin$Keeper" 104 Lib.Math.max.name ∈ GW := gw_of (List.mem_of_getElem? (i := 662) (by decide +kernel)) rfl
theorem ml_L_93 : Cond.methodLink "OnChinLaw" 93 yX8_film ∈ GW := gw_of (List.mem_of_getElem? (i := 663) (by decide +kernel)) rfl
theorem ml_X8_208 : Cond.methodLink "OnChin" 208 yX2_append ∈ GW := gw_of (List.mem_of_getElem? (i := 667) (by decide +kernel)) rfl
theorem ml_L_97 : Cond.methodLink "OnChinLaw" 97 yX8_wind ∈ GW := gw_of (List.mem_of_getElem? (i := 671) (by decide +kernel)) rfl
theorem ml_L_101 : Cond.methodLink "OnChinLaw" 101 yX8_fits ∈ GW := gw_of (List.mem_of_getElem? (i := 675) (by decide +kernel)) rfl
theorem ml_X8_211 : Cond.methodLink "OnChin" 211 yX2_seek ∈ GW := gw_of (List.mem_of_getElem? (i := 679) (by decide +kernel)) rfl
theorem ml_X2_43 : Cond.methodLink "OnChin$Film" 43 arraycopyName ∈ GW := gw_of (List.mem_of_getElem? (i := 683) (by decide +kernel)) rfl
theorem ml_X2_49 : Cond.methodLink "OnChin$Film" 49 yX2_isFit ∈ GW := gw_of (List.mem_of_getElem? (i := 684) (by decide +kernel)) rfl
theorem ml_X2_56 : Cond.methodLink "OnChin$Film" 56 yX2_moveIn ∈ GW := gw_of (List.mem_of_getElem? (i := 688) (by decide +kernel)) rfl
theorem ml_X2_60 : Cond.methodLink "OnChin$Film" 60 Lib.Math.max.name ∈ GW := gw_of (List.mem_of_getElem? (i := 692) (by decide +kernel)) rfl
theorem ml_X2_53 : Cond.methodLink "OnChin$Film" 53 yX2_noteFit ∈ GW := gw_of (List.mem_of_getElem? (i := 694) (by decide +kernel)) rfl
theorem ml_X2_70 : Cond.methodLink "OnChin$Film" 70 Lib.Math.min.name ∈ GW := gw_of (List.mem_of_getElem? (i := 698) (by decide +kernel)) rfl
theorem ml_L_105 : Cond.methodLink "OnChinLaw" 105 yX8_next ∈ GW := gw_of (List.mem_of_getElem? (i := 699) (by decide +kernel)) rfl
theorem ml_L_109 : Cond.methodLink "OnChinLaw" 109 yX8_plan ∈ GW := gw_of (List.mem_of_getElem? (i := 703) (by decide +kernel)) rfl
theorem ml_X8_233 : Cond.methodLink "OnChin" 233 yX1_tryAll ∈ GW := gw_of (List.mem_of_getElem? (i := 707) (by decide +kernel)) rfl
theorem ml_X1_30 : Cond.methodLink "OnChin$Evenings" 30 yX1_lesson ∈ GW := gw_of (List.mem_of_getElem? (i := 711) (by decide +kernel)) rfl
theorem ml_X1_39 : Cond.methodLink "OnChin$Evenings" 39 yX4_lasts ∈ GW := gw_of (List.mem_of_getElem? (i := 714) (by decide +kernel)) rfl
theorem ml_X1_43 : Cond.methodLink "OnChin$Evenings" 43 Lib.Math.max.name ∈ GW := gw_of (List.mem_of_getElem? (i := 715) (by decide +kernel)) rfl
theorem ml_X8_237 : Cond.methodLink "OnChin" 237 yX1_firstBest ∈ GW := gw_of (List.mem_of_getElem? (i := 716) (by decide +kernel)) rfl
theorem ml_X1_52 : Cond.methodLink "OnChin$Evenings" 52 yX1_tenthsBehind ∈ GW := gw_of (List.mem_of_getElem? (i := 721) (by decide +kernel)) rfl
theorem ml_X1_56 : Cond.methodLink "OnChin$Evenings" 56 yX1_thingOf ∈ GW := gw_of (List.mem_of_getElem? (i := 725) (by decide +kernel)) rfl
theorem ml_X1_59 : Cond.methodLink "OnChin$Evenings" 59 Lib.Math.min.name ∈ GW := gw_of (List.mem_of_getElem? (i := 728) (by decide +kernel)) rfl
theorem ml_X8_244 : Cond.methodLink "OnChin" 244 yX1_thingOf ∈ GW := gw_of (List.mem_of_getElem? (i := 729) (by decide +kernel)) rfl
theorem ml_L_113 : Cond.methodLink "OnChinLaw" 113 yX8_room ∈ GW := gw_of (List.mem_of_getElem? (i := 730) (by decide +kernel)) rfl
theorem ml_L_117 : Cond.methodLink "OnChinLaw" 117 yX8_way ∈ GW := gw_of (List.mem_of_getElem? (i := 734) (by decide +kernel)) rfl
theorem ml_X8_253 : Cond.methodLink "OnChin" 253 yX3_walk ∈ GW := gw_of (List.mem_of_getElem? (i := 738) (by decide +kernel)) rfl
theorem ml_X3_31 : Cond.methodLink "OnChin$House" 31 yX3_isOpen ∈ GW := gw_of (List.mem_of_getElem? (i := 742) (by decide +kernel)) rfl
theorem ml_X3_35 : Cond.methodLink "OnChin$House" 35 yX3_enter ∈ GW := gw_of (List.mem_of_getElem? (i := 746) (by decide +kernel)) rfl
theorem ml_X3_43 : Cond.methodLink "OnChin$House" 43 Lib.Math.min.name ∈ GW := gw_of (List.mem_of_getElem? (i := 750) (by decide +kernel)) rfl
theorem ml_X3_39 : Cond.methodLink "OnChin$House" 39 yX3_beside ∈ GW := gw_of (List.mem_of_getElem? (i := 751) (by decide +kernel)) rfl
theorem ml_L_122 : Cond.methodLink "OnChinLaw" 122 yX8_count ∈ GW := gw_of (List.mem_of_getElem? (i := 754) (by decide +kernel)) rfl
theorem ml_L_12 : Cond.methodLink "OnChinLaw" 12 yX9_init ∈ GW := gw_of (List.mem_of_getElem? (i := 760) (by decide +kernel)) rfl
theorem ml_X9_1 : Cond.methodLink "OnChinModel" 1 objectInit ∈ GW := gw_of (List.mem_of_getElem? (i := 763) (by decide +kernel)) rfl
theorem ml_L_19 : Cond.methodLink "OnChinLaw" 19 yX9_write ∈ GW := gw_of (List.mem_of_getElem? (i := 892) (by decide +kernel)) rfl
theorem ml_X9_92 : Cond.methodLink "OnChinModel" 92 yX9_in ∈ GW := gw_of (List.mem_of_getElem? (i := 897) (by decide +kernel)) rfl
theorem ml_L_24 : Cond.methodLink "OnChinLaw" 24 yX9_erase ∈ GW := gw_of (List.mem_of_getElem? (i := 901) (by decide +kernel)) rfl
theorem ml_L_28 : Cond.methodLink "OnChinLaw" 28 yX9_fault ∈ GW := gw_of (List.mem_of_getElem? (i := 905) (by decide +kernel)) rfl
theorem ml_X9_141 : Cond.methodLink "OnChinModel" 141 yX9_token ∈ GW := gw_of (List.mem_of_getElem? (i := 909) (by decide +kernel)) rfl
theorem ml_X9_107 : Cond.methodLink "OnChinModel" 107 yX9_sort ∈ GW := gw_of (List.mem_of_getElem? (i := 913) (by decide +kernel)) rfl
theorem ml_X9_171 : Cond.methodLink "OnChinModel" 171 yX9_readsLine ∈ GW := gw_of (List.mem_of_getElem? (i := 916) (by decide +kernel)) rfl
theorem ml_X9_163 : Cond.methodLink "OnChinModel" 163 yX9_wordOf ∈ GW := gw_of (List.mem_of_getElem? (i := 920) (by decide +kernel)) rfl
theorem ml_X9_118 : Cond.methodLink "OnChinModel" 118 yX9_isWord ∈ GW := gw_of (List.mem_of_getElem? (i := 925) (by decide +kernel)) rfl
theorem ml_X9_167 : Cond.methodLink "OnChinModel" 167 yX9_readsRest ∈ GW := gw_of (List.mem_of_getElem? (i := 938) (by decide +kernel)) rfl
theorem ml_X9_152 : Cond.methodLink "OnChinModel" 152 yX9_reads ∈ GW := gw_of (List.mem_of_getElem? (i := 942) (by decide +kernel)) rfl
theorem ml_X9_156 : Cond.methodLink "OnChinModel" 156 yX9_readsKind ∈ GW := gw_of (List.mem_of_getElem? (i := 946) (by decide +kernel)) rfl
theorem ml_X9_160 : Cond.methodLink "OnChinModel" 160 yX9_readsLump ∈ GW := gw_of (List.mem_of_getElem? (i := 954) (by decide +kernel)) rfl
theorem ml_L_32 : Cond.methodLink "OnChinLaw" 32 yX9_chin ∈ GW := gw_of (List.mem_of_getElem? (i := 958) (by decide +kernel)) rfl
theorem ml_X9_183 : Cond.methodLink "OnChinModel" 183 yX9_fault ∈ GW := gw_of (List.mem_of_getElem? (i := 962) (by decide +kernel)) rfl
theorem ml_X9_186 : Cond.methodLink "OnChinModel" 186 yX9_tell ∈ GW := gw_of (List.mem_of_getElem? (i := 963) (by decide +kernel)) rfl
theorem ml_L_37 : Cond.methodLink "OnChinLaw" 37 yX9_thing ∈ GW := gw_of (List.mem_of_getElem? (i := 967) (by decide +kernel)) rfl
theorem ml_X9_192 : Cond.methodLink "OnChinModel" 192 yX9_isThing ∈ GW := gw_of (List.mem_of_getElem? (i := 971) (by decide +kernel)) rfl
theorem ml_X9_195 : Cond.methodLink "OnChinModel" 195 yX9_longOf ∈ GW := gw_of (List.mem_of_getElem? (i := 975) (by decide +kernel)) rfl
theorem ml_X9_198 : Cond.methodLink "OnChinModel" 198 yX9_greatest ∈ GW := gw_of (List.mem_of_getElem? (i := 979) (by decide +kernel)) rfl
theorem ml_L_42 : Cond.methodLink "OnChinLaw" 42 yX9_lump ∈ GW := gw_of (List.mem_of_getElem? (i := 983) (by decide +kernel)) rfl
theorem ml_L_46 : Cond.methodLink "OnChinLaw" 46 yX9_begin ∈ GW := gw_of (List.mem_of_getElem? (i := 987) (by decide +kernel)) rfl
theorem ml_X9_243 : Cond.methodLink "OnChinModel" 243 yX9_isX ∈ GW := gw_of (List.mem_of_getElem? (i := 991) (by decide +kernel)) rfl
theorem ml_X9_246 : Cond.methodLink "OnChinModel" 246 yX9_isV ∈ GW := gw_of (List.mem_of_getElem? (i := 996) (by decide +kernel)) rfl
theorem ml_X9_249 : Cond.methodLink "OnChinModel" 249 yX9_start ∈ GW := gw_of (List.mem_of_getElem? (i := 1001) (by decide +kernel)) rfl
theorem ml_L_51 : Cond.methodLink "OnChinLaw" 51 yX9_ticks ∈ GW := gw_of (List.mem_of_getElem? (i := 1005) (by decide +kernel)) rfl
theorem ml_X9_255 : Cond.methodLink "OnChinModel" 255 yX9_fell ∈ GW := gw_of (List.mem_of_getElem? (i := 1010) (by decide +kernel)) rfl
theorem ml_X9_225 : Cond.methodLink "OnChinModel" 225 yX9_leansAt ∈ GW := gw_of (List.mem_of_getElem? (i := 1014) (by decide +kernel)) rfl
theorem ml_X9_258 : Cond.methodLink "OnChinModel" 258 yX9_asTold ∈ GW := gw_of (List.mem_of_getElem? (i := 1018) (by decide +kernel)) rfl
theorem ml_X9_213 : Cond.methodLink "OnChinModel" 213 yX9_look ∈ GW := gw_of (List.mem_of_getElem? (i := 1022) (by decide +kernel)) rfl
theorem ml_X9_261 : Cond.methodLink "OnChinModel" 261 yX9_tick ∈ GW := gw_of (List.mem_of_getElem? (i := 1026) (by decide +kernel)) rfl
theorem ml_X9_232 : Cond.methodLink "OnChinModel" 232 yX9_moves ∈ GW := gw_of (List.mem_of_getElem? (i := 1030) (by decide +kernel)) rfl
theorem ml_X9_228 : Cond.methodLink "OnChinModel" 228 yX9_minds ∈ GW := gw_of (List.mem_of_getElem? (i := 1034) (by decide +kernel)) rfl
theorem ml_L_55 : Cond.methodLink "OnChinLaw" 55 yX9_now ∈ GW := gw_of (List.mem_of_getElem? (i := 1038) (by decide +kernel)) rfl
theorem ml_L_59 : Cond.methodLink "OnChinLaw" 59 yX9_keep ∈ GW := gw_of (List.mem_of_getElem? (i := 1044) (by decide +kernel)) rfl
theorem ml_X9_268 : Cond.methodLink "OnChinModel" 268 yX9_copy ∈ GW := gw_of (List.mem_of_getElem? (i := 1048) (by decide +kernel)) rfl
theorem ml_L_63 : Cond.methodLink "OnChinLaw" 63 yX9_back ∈ GW := gw_of (List.mem_of_getElem? (i := 1052) (by decide +kernel)) rfl
theorem ml_L_67 : Cond.methodLink "OnChinLaw" 67 yX9_kept ∈ GW := gw_of (List.mem_of_getElem? (i := 1056) (by decide +kernel)) rfl
theorem ml_X9_272 : Cond.methodLink "OnChinModel" 272 yX9_lasts ∈ GW := gw_of (List.mem_of_getElem? (i := 1060) (by decide +kernel)) rfl
theorem ml_L_71 : Cond.methodLink "OnChinLaw" 71 yX9_steady ∈ GW := gw_of (List.mem_of_getElem? (i := 1064) (by decide +kernel)) rfl
theorem ml_X9_278 : Cond.methodLink "OnChinModel" 278 yX9_isK ∈ GW := gw_of (List.mem_of_getElem? (i := 1068) (by decide +kernel)) rfl
theorem ml_X9_281 : Cond.methodLink "OnChinModel" 281 yX9_least ∈ GW := gw_of (List.mem_of_getElem? (i := 1072) (by decide +kernel)) rfl
theorem ml_L_75 : Cond.methodLink "OnChinLaw" 75 yX9_line ∈ GW := gw_of (List.mem_of_getElem? (i := 1076) (by decide +kernel)) rfl
theorem ml_X9_284 : Cond.methodLink "OnChinModel" 284 yX9_stays ∈ GW := gw_of (List.mem_of_getElem? (i := 1080) (by decide +kernel)) rfl
theorem ml_L_79 : Cond.methodLink "OnChinLaw" 79 yX9_best ∈ GW := gw_of (List.mem_of_getElem? (i := 1084) (by decide +kernel)) rfl
theorem ml_L_84 : Cond.methodLink "OnChinLaw" 84 yX9_odds ∈ GW := gw_of (List.mem_of_getElem? (i := 1090) (by decide +kernel)) rfl
theorem ml_X9_293 : Cond.methodLink "OnChinModel" 293 yX9_weightOf ∈ GW := gw_of (List.mem_of_getElem? (i := 1095) (by decide +kernel)) rfl
theorem ml_X9_297 : Cond.methodLink "OnChinModel" 297 yX9_divisor ∈ GW := gw_of (List.mem_of_getElem? (i := 1099) (by decide +kernel)) rfl
theorem ml_L_88 : Cond.methodLink "OnChinLaw" 88 yX9_stands ∈ GW := gw_of (List.mem_of_getElem? (i := 1102) (by decide +kernel)) rfl
theorem ml_L_92 : Cond.methodLink "OnChinLaw" 92 yX9_two ∈ GW := gw_of (List.mem_of_getElem? (i := 1106) (by decide +kernel)) rfl
theorem ml_L_96 : Cond.methodLink "OnChinLaw" 96 yX9_film ∈ GW := gw_of (List.mem_of_getElem? (i := 1111) (by decide +kernel)) rfl
theorem ml_L_100 : Cond.methodLink "OnChinLaw" 100 yX9_wind ∈ GW := gw_of (List.mem_of_getElem? (i := 1115) (by decide +kernel)) rfl
theorem ml_L_104 : Cond.methodLink "OnChinLaw" 104 yX9_fits ∈ GW := gw_of (List.mem_of_getElem? (i := 1119) (by decide +kernel)) rfl
theorem ml_X9_308 : Cond.methodLink "OnChinModel" 308 yX9_fitsBy ∈ GW := gw_of (List.mem_of_getElem? (i := 1123) (by decide +kernel)) rfl
theorem ml_X9_305 : Cond.methodLink "OnChinModel" 305 yX9_mindsAt ∈ GW := gw_of (List.mem_of_getElem? (i := 1127) (by decide +kernel)) rfl
theorem ml_L_108 : Cond.methodLink "OnChinLaw" 108 yX9_next ∈ GW := gw_of (List.mem_of_getElem? (i := 1131) (by decide +kernel)) rfl
theorem ml_L_112 : Cond.methodLink "OnChinLaw" 112 yX9_plan ∈ GW := gw_of (List.mem_of_getElem? (i := 1137) (by decide +kernel)) rfl
theorem ml_X9_315 : Cond.methodLink "OnChinModel" 315 yX9_layHolds ∈ GW := gw_of (List.mem_of_getElem? (i := 1142) (by decide +kernel)) rfl
theorem ml_X9_318 : Cond.methodLink "OnChinModel" 318 yX9_tenthsBy ∈ GW := gw_of (List.mem_of_getElem? (i := 1146) (by decide +kernel)) rfl
theorem ml_L_116 : Cond.methodLink "OnChinLaw" 116 yX9_room ∈ GW := gw_of (List.mem_of_getElem? (i := 1150) (by decide +kernel)) rfl
theorem ml_X9_323 : Cond.methodLink "OnChinModel" 323 yX9_isCell ∈ GW := gw_of (List.mem_of_getElem? (i := 1154) (by decide +kernel)) rfl
theorem ml_L_121 : Cond.methodLink "OnChinLaw" 121 yX9_way ∈ GW := gw_of (List.mem_of_getElem? (i := 1159) (by decide +kernel)) rfl
theorem ml_X9_328 : Cond.methodLink "OnChinModel" 328 yX9_areBeside ∈ GW := gw_of (List.mem_of_getElem? (i := 1163) (by decide +kernel)) rfl
theorem ml_L_125 : Cond.methodLink "OnChinLaw" 125 yX9_count ∈ GW := gw_of (List.mem_of_getElem? (i := 1166) (by decide +kernel)) rfl
theorem kc_X8_150 : Cond.constant "OnChin" 150 (1000000) ∈ GW := gw_of (List.mem_of_getElem? (i := 550) (by decide +kernel)) rfl
theorem kc_X9_267 : Cond.constant "OnChinModel" 267 (1000000) ∈ GW := gw_of (List.mem_of_getElem? (i := 1043) (by decide +kernel)) rfl
theorem kc_X9_311 : Cond.constant "OnChinModel" 311 (268435456) ∈ GW := gw_of (List.mem_of_getElem? (i := 1135) (by decide +kernel)) rfl
theorem kc_X9_312 : Cond.constant "OnChinModel" 312 (-268435456) ∈ GW := gw_of (List.mem_of_getElem? (i := 1136) (by decide +kernel)) rfl
theorem kc_X8_70 : Cond.constantLong "OnChin" 70 (255) ∈ GW := gw_of (List.mem_of_getElem? (i := 310) (by decide +kernel)) rfl
theorem kc_X9_90 : Cond.constantLong "OnChinModel" 90 (8) ∈ GW := gw_of (List.mem_of_getElem? (i := 896) (by decide +kernel)) rfl
theorem kc_X9_99 : Cond.constantLong "OnChinModel" 99 (255) ∈ GW := gw_of (List.mem_of_getElem? (i := 900) (by decide +kernel)) rfl
theorem kc_X9_116 : Cond.constantLong "OnChinModel" 116 (7808276) ∈ GW := gw_of (List.mem_of_getElem? (i := 924) (by decide +kernel)) rfl
theorem kc_X9_114 : Cond.constantLong "OnChinModel" 114 (31) ∈ GW := gw_of (List.mem_of_getElem? (i := 929) (by decide +kernel)) rfl
theorem kc_X9_122 : Cond.constantLong "OnChinModel" 122 (538284) ∈ GW := gw_of (List.mem_of_getElem? (i := 930) (by decide +kernel)) rfl
theorem kc_X9_124 : Cond.constantLong "OnChinModel" 124 (182306) ∈ GW := gw_of (List.mem_of_getElem? (i := 931) (by decide +kernel)) rfl
theorem kc_X9_126 : Cond.constantLong "OnChinModel" 126 (14381) ∈ GW := gw_of (List.mem_of_getElem? (i := 932) (by decide +kernel)) rfl
theorem kc_X9_128 : Cond.constantLong "OnChinModel" 128 (19381638) ∈ GW := gw_of (List.mem_of_getElem? (i := 933) (by decide +kernel)) rfl
theorem kc_X9_130 : Cond.constantLong "OnChinModel" 130 (406192) ∈ GW := gw_of (List.mem_of_getElem? (i := 934) (by decide +kernel)) rfl
theorem kc_X9_132 : Cond.constantLong "OnChinModel" 132 (4675042) ∈ GW := gw_of (List.mem_of_getElem? (i := 935) (by decide +kernel)) rfl
theorem kc_X9_134 : Cond.constantLong "OnChinModel" 134 (145719) ∈ GW := gw_of (List.mem_of_getElem? (i := 936) (by decide +kernel)) rfl
theorem kc_X9_136 : Cond.constantLong "OnChinModel" 136 (5604627) ∈ GW := gw_of (List.mem_of_getElem? (i := 937) (by decide +kernel)) rfl
theorem kc_X9_144 : Cond.constantLong "OnChinModel" 144 (14976400) ∈ GW := gw_of (List.mem_of_getElem? (i := 950) (by decide +kernel)) rfl
theorem kc_X9_146 : Cond.constantLong "OnChinModel" 146 (7995869876) ∈ GW := gw_of (List.mem_of_getElem? (i := 951) (by decide +kernel)) rfl
theorem kc_X9_148 : Cond.constantLong "OnChinModel" 148 (20663) ∈ GW := gw_of (List.mem_of_getElem? (i := 952) (by decide +kernel)) rfl
theorem kc_X9_150 : Cond.constantLong "OnChinModel" 150 (4484179434) ∈ GW := gw_of (List.mem_of_getElem? (i := 953) (by decide +kernel)) rfl
theorem kc_X9_190 : Cond.constantLong "OnChinModel" 190 (3) ∈ GW := gw_of (List.mem_of_getElem? (i := 974) (by decide +kernel)) rfl
theorem kc_X9_235 : Cond.constantLong "OnChinModel" 235 (-999) ∈ GW := gw_of (List.mem_of_getElem? (i := 994) (by decide +kernel)) rfl
theorem kc_X9_237 : Cond.constantLong "OnChinModel" 237 (999) ∈ GW := gw_of (List.mem_of_getElem? (i := 995) (by decide +kernel)) rfl
theorem kc_X9_239 : Cond.constantLong "OnChinModel" 239 (-99) ∈ GW := gw_of (List.mem_of_getElem? (i := 999) (by decide +kernel)) rfl
theorem kc_X9_241 : Cond.constantLong "OnChinModel" 241 (99) ∈ GW := gw_of (List.mem_of_getElem? (i := 1000) (by decide +kernel)) rfl
theorem kc_X9_253 : Cond.constantLong "OnChinModel" 253 (100) ∈ GW := gw_of (List.mem_of_getElem? (i := 1009) (by decide +kernel)) rfl
theorem kc_X9_265 : Cond.constantLong "OnChinModel" 265 (6) ∈ GW := gw_of (List.mem_of_getElem? (i := 1042) (by decide +kernel)) rfl
theorem kc_X9_276 : Cond.constantLong "OnChinModel" 276 (20) ∈ GW := gw_of (List.mem_of_getElem? (i := 1071) (by decide +kernel)) rfl
theorem kc_X9_287 : Cond.constantLong "OnChinModel" 287 (4) ∈ GW := gw_of (List.mem_of_getElem? (i := 1088) (by decide +kernel)) rfl
theorem kc_X9_289 : Cond.constantLong "OnChinModel" 289 (2) ∈ GW := gw_of (List.mem_of_getElem? (i := 1089) (by decide +kernel)) rfl
theorem kc_X9_291 : Cond.constantLong "OnChinModel" 291 (5) ∈ GW := gw_of (List.mem_of_getElem? (i := 1094) (by decide +kernel)) rfl
theorem kc_X9_300 : Cond.constantLong "OnChinModel" 300 (9) ∈ GW := gw_of (List.mem_of_getElem? (i := 1110) (by decide +kernel)) rfl
theorem kc_X9_313 : Cond.constantLong "OnChinModel" 313 (-1) ∈ GW := gw_of (List.mem_of_getElem? (i := 1141) (by decide +kernel)) rfl
theorem kc_X9_321 : Cond.constantLong "OnChinModel" 321 (35) ∈ GW := gw_of (List.mem_of_getElem? (i := 1157) (by decide +kernel)) rfl
theorem kc_X9_326 : Cond.constantLong "OnChinModel" 326 (300) ∈ GW := gw_of (List.mem_of_getElem? (i := 1158) (by decide +kernel)) rfl
theorem kc_L_13 : Cond.constantLong "OnChinLaw" 13 (4294967295) ∈ GW := gw_of (List.mem_of_getElem? (i := 1170) (by decide +kernel)) rfl
theorem wi_L : Cond.initialized "OnChinLaw" ∈ GW := gw_of (List.mem_of_getElem? (i := 0) (by decide +kernel)) rfl
theorem wi_X8 : Cond.initialized "OnChin" ∈ GW := gw_of (List.mem_of_getElem? (i := 1) (by decide +kernel)) rfl
theorem wi_X7 : Cond.initialized "OnChin$Told" ∈ GW := gw_of (List.mem_of_getElem? (i := 2) (by decide +kernel)) rfl
theorem wi_X6 : Cond.initialized "OnChin$Thing" ∈ GW := gw_of (List.mem_of_getElem? (i := 3) (by decide +kernel)) rfl
theorem wi_J10 : Cond.initialized "java/lang/System" ∈ GW := gw_of (List.mem_of_getElem? (i := 4) (by decide +kernel)) rfl
theorem wi_X5 : Cond.initialized "OnChin$Text" ∈ GW := gw_of (List.mem_of_getElem? (i := 5) (by decide +kernel)) rfl
theorem wi_X0 : Cond.initialized "OnChin$Balance" ∈ GW := gw_of (List.mem_of_getElem? (i := 6) (by decide +kernel)) rfl
theorem wi_X4 : Cond.initialized "OnChin$Keeper" ∈ GW := gw_of (List.mem_of_getElem? (i := 7) (by decide +kernel)) rfl
theorem wi_X1 : Cond.initialized "OnChin$Evenings" ∈ GW := gw_of (List.mem_of_getElem? (i := 8) (by decide +kernel)) rfl
theorem wi_X2 : Cond.initialized "OnChin$Film" ∈ GW := gw_of (List.mem_of_getElem? (i := 9) (by decide +kernel)) rfl
theorem wi_X3 : Cond.initialized "OnChin$House" ∈ GW := gw_of (List.mem_of_getElem? (i := 10) (by decide +kernel)) rfl
theorem wi_X9 : Cond.initialized "OnChinModel" ∈ GW := gw_of (List.mem_of_getElem? (i := 11) (by decide +kernel)) rfl
theorem wi_J9 : Cond.initialized "java/lang/Math" ∈ GW := gw_of (List.mem_of_getElem? (i := 12) (by decide +kernel)) rfl
theorem wi_J0 : Cond.initialized "java/lang/String" ∈ GW := gw_of (List.mem_of_getElem? (i := 13) (by decide +kernel)) rfl
theorem wi_J1 : Cond.initialized "java/lang/StringLatin1" ∈ GW := gw_of (List.mem_of_getElem? (i := 14) (by decide +kernel)) rfl
theorem wi_J3 : Cond.initialized "jdk/internal/util/Preconditions" ∈ GW := gw_of (List.mem_of_getElem? (i := 15) (by decide +kernel)) rfl
theorem wi_J2 : Cond.initialized "java/lang/StringUTF16" ∈ GW := gw_of (List.mem_of_getElem? (i := 16) (by decide +kernel)) rfl
theorem ws_max : Cond.static Lib.Math.max.name ∈ GW := gw_of (List.mem_of_getElem? (i := 477) (by decide +kernel)) rfl
theorem wc_max : Cond.code Lib.Math.max.name Lib.Math.max.code 2 (some .int) ∈ GW := gw_of (List.mem_of_getElem? (i := 478) (by decide +kernel)) rfl
theorem ws_min : Cond.static Lib.Math.min.name ∈ GW := gw_of (List.mem_of_getElem? (i := 335) (by decide +kernel)) rfl
theorem wc_min : Cond.code Lib.Math.min.name Lib.Math.min.code 2 (some .int) ∈ GW := gw_of (List.mem_of_getElem? (i := 336) (by decide +kernel)) rfl
theorem ws_abs : Cond.static Lib.Math.abs.name ∈ GW := gw_of (List.mem_of_getElem? (i := 536) (by decide +kernel)) rfl
theorem wc_abs : Cond.code Lib.Math.abs.name Lib.Math.abs.code 1 (some .int) ∈ GW := gw_of (List.mem_of_getElem? (i := 537) (by decide +kernel)) rfl
theorem ws_arraycopy : Cond.static arraycopyName ∈ GW := gw_of (List.mem_of_getElem? (i := 73) (by decide +kernel)) rfl
theorem wn_arraycopy : Cond.native arraycopyName ∈ GW := gw_of (List.mem_of_getElem? (i := 74) (by decide +kernel)) rfl
theorem ok_X0_start : okV "OnChin$Balance" yX0_start cX0_start 4 none 3 := ⟨⟨gw_of (List.mem_of_getElem? (i := 505) (by decide +kernel)) rfl, gw_of (List.mem_of_getElem? (i := 506) (by decide +kernel)) rfl, wi_X0, gw_of (List.mem_of_getElem? (i := 507) (by decide +kernel)) rfl⟩, by decide +kernel⟩
theorem ok_X0_copy : okV "OnChin$Balance" yX0_copy cX0_copy 2 none 1 := ⟨⟨gw_of (List.mem_of_getElem? (i := 556) (by decide +kernel)) rfl, gw_of (List.mem_of_getElem? (i := 557) (by decide +kernel)) rfl, wi_X0, gw_of (List.mem_of_getElem? (i := 558) (by decide +kernel)) rfl⟩, by decide +kernel⟩
theorem ok_X0_fell : okV "OnChin$Balance" yX0_fell cX0_fell 2 (some .boolean) 1 := ⟨⟨gw_of (List.mem_of_getElem? (i := 513) (by decide +kernel)) rfl, gw_of (List.mem_of_getElem? (i := 514) (by decide +kernel)) rfl, wi_X0, gw_of (List.mem_of_getElem? (i := 515) (by decide +kernel)) rfl⟩, by decide +kernel⟩
theorem ok_X0_tick : okV "OnChin$Balance" yX0_tick cX0_tick 6 none 4 := ⟨⟨gw_of (List.mem_of_getElem? (i := 517) (by decide +kernel)) rfl, gw_of (List.mem_of_getElem? (i := 518) (by decide +kernel)) rfl, wi_X0, gw_of (List.mem_of_getElem? (i := 519) (by decide +kernel)) rfl⟩, by decide +kernel⟩
theorem ok_X0_move : okV "OnChin$Balance" yX0_move cX0_move 5 (some .int) 2 := ⟨⟨gw_of (List.mem_of_getElem? (i := 522) (by decide +kernel)) rfl, gw_sel (List.mem_of_getElem? (i := 16) (by decide +kernel)) rfl, wi_X0, gw_of (List.mem_of_getElem? (i := 523) (by decide +kernel)) rfl⟩, by decide +kernel⟩
theorem ok_X0_was : okV "OnChin$Balance" yX0_was cX0_was 2 (some .int) 1 := ⟨⟨gw_of (List.mem_of_getElem? (i := 530) (by decide +kernel)) rfl, gw_sel (List.mem_of_getElem? (i := 17) (by decide +kernel)) rfl, wi_X0, gw_of (List.mem_of_getElem? (i := 531) (by decide +kernel)) rfl⟩, by decide +kernel⟩
theorem ok_X0_isAgain : okV "OnChin$Balance" yX0_isAgain cX0_isAgain 4 (some .boolean) 2 := ⟨⟨gw_of (List.mem_of_getElem? (i := 581) (by decide +kernel)) rfl, gw_of (List.mem_of_getElem? (i := 582) (by decide +kernel)) rfl, wi_X0, gw_of (List.mem_of_getElem? (i := 583) (by decide +kernel)) rfl⟩, by decide +kernel⟩
theorem ok_X1_tryAll : okV "OnChin$Evenings" yX1_tryAll cX1_tryAll 5 none 2 := ⟨⟨gw_of (List.mem_of_getElem? (i := 708) (by decide +kernel)) rfl, gw_of (List.mem_of_getElem? (i := 709) (by decide +kernel)) rfl, wi_X1, gw_of (List.mem_of_getElem? (i := 710) (by decide +kernel)) rfl⟩, by decide +kernel⟩
theorem ok_X1_lesson : okS yX1_lesson cX1_lesson 2 (some .int) 2 := ⟨⟨gw_of (List.mem_of_getElem? (i := 712) (by decide +kernel)) rfl, wi_X1, gw_of (List.mem_of_getElem? (i := 713) (by decide +kernel)) rfl⟩, by decide +kernel⟩
theorem ok_X1_firstBest : okV "OnChin$Evenings" yX1_firstBest cX1_firstBest 7 (some .int) 2 := ⟨⟨gw_of (List.mem_of_getElem? (i := 717) (by decide +kernel)) rfl, gw_of (List.mem_of_getElem? (i := 718) (by decide +kernel)) rfl, wi_X1, gw_of (List.mem_of_getElem? (i := 719) (by decide +kernel)) rfl⟩, by decide +kernel⟩
theorem ok_X1_tenthsBehind : okV "OnChin$Evenings" yX1_tenthsBehind cX1_tenthsBehind 7 (some .int) 3 := ⟨⟨gw_of (List.mem_of_getElem? (i := 723) (by decide +kernel)) rfl, gw_sel (List.mem_of_getElem? (i := 25) (by decide +kernel)) rfl, wi_X1, gw_of (List.mem_of_getElem? (i := 724) (by decide +kernel)) rfl⟩, by decide +kernel⟩
theorem ok_X1_thingOf : okS yX1_thingOf cX1_thingOf 5 (some .int) 3 := ⟨⟨gw_of (List.mem_of_getElem? (i := 726) (by decide +kernel)) rfl, wi_X1, gw_of (List.mem_of_getElem? (i := 727) (by decide +kernel)) rfl⟩, by decide +kernel⟩
theorem ok_X2_append : okV "OnChin$Film" yX2_append cX2_append 3 none 2 := ⟨⟨gw_of (List.mem_of_getElem? (i := 668) (by decide +kernel)) rfl, gw_of (List.mem_of_getElem? (i := 669) (by decide +kernel)) rfl, wi_X2, gw_of (List.mem_of_getElem? (i := 670) (by decide +kernel)) rfl⟩, by decide +kernel⟩
theorem ok_X2_seek : okV "OnChin$Film" yX2_seek cX2_seek 6 none 2 := ⟨⟨gw_of (List.mem_of_getElem? (i := 680) (by decide +kernel)) rfl, gw_of (List.mem_of_getElem? (i := 681) (by decide +kernel)) rfl, wi_X2, gw_of (List.mem_of_getElem? (i := 682) (by decide +kernel)) rfl⟩, by decide +kernel⟩
theorem ok_X2_isFit : okV "OnChin$Film" yX2_isFit cX2_isFit 2 (some .boolean) 0 := ⟨⟨gw_of (List.mem_of_getElem? (i := 686) (by decide +kernel)) rfl, gw_sel (List.mem_of_getElem? (i := 22) (by decide +kernel)) rfl, wi_X2, gw_of (List.mem_of_getElem? (i := 687) (by decide +kernel)) rfl⟩, by decide +kernel⟩
theorem ok_X2_moveIn : okV "OnChin$Film" yX2_moveIn cX2_moveIn 3 (some .int) 1 := ⟨⟨gw_of (List.mem_of_getElem? (i := 690) (by decide +kernel)) rfl, gw_sel (List.mem_of_getElem? (i := 23) (by decide +kernel)) rfl, wi_X2, gw_of (List.mem_of_getElem? (i := 691) (by decide +kernel)) rfl⟩, by decide +kernel⟩
theorem ok_X2_noteFit : okV "OnChin$Film" yX2_noteFit cX2_noteFit 2 none 0 := ⟨⟨gw_of (List.mem_of_getElem? (i := 696) (by decide +kernel)) rfl, gw_sel (List.mem_of_getElem? (i := 24) (by decide +kernel)) rfl, wi_X2, gw_of (List.mem_of_getElem? (i := 697) (by decide +kernel)) rfl⟩, by decide +kernel⟩
theorem ok_X3_walk : okV "OnChin$House" yX3_walk cX3_walk 7 none 3 := ⟨⟨gw_of (List.mem_of_getElem? (i := 739) (by decide +kernel)) rfl, gw_of (List.mem_of_getElem? (i := 740) (by decide +kernel)) rfl, wi_X3, gw_of (List.mem_of_getElem? (i := 741) (by decide +kernel)) rfl⟩, by decide +kernel⟩
theorem ok_X3_isOpen : okV "OnChin$House" yX3_isOpen cX3_isOpen 5 (some .boolean) 3 := ⟨⟨gw_of (List.mem_of_getElem? (i := 744) (by decide +kernel)) rfl, gw_sel (List.mem_of_getElem? (i := 26) (by decide +kernel)) rfl, wi_X3, gw_of (List.mem_of_getElem? (i := 745) (by decide +kernel)) rfl⟩, by decide +kernel⟩
theorem ok_X3_enter : okV "OnChin$House" yX3_enter cX3_enter 5 none 3 := ⟨⟨gw_of (List.mem_of_getElem? (i := 748) (by decide +kernel)) rfl, gw_sel (List.mem_of_getElem? (i := 27) (by decide +kernel)) rfl, wi_X3, gw_of (List.mem_of_getElem? (i := 749) (by decide +kernel)) rfl⟩, by decide +kernel⟩
theorem ok_X3_beside : okS yX3_beside cX3_beside 3 (some .int) 2 := ⟨⟨gw_of (List.mem_of_getElem? (i := 752) (by decide +kernel)) rfl, wi_X3, gw_of (List.mem_of_getElem? (i := 753) (by decide +kernel)) rfl⟩, by decide +kernel⟩
theorem ok_X4_takeRule : okV "OnChin$Keeper" yX4_takeRule cX4_takeRule 2 none 1 := ⟨⟨gw_of (List.mem_of_getElem? (i := 569) (by decide +kernel)) rfl, gw_of (List.mem_of_getElem? (i := 570) (by decide +kernel)) rfl, wi_X4, gw_of (List.mem_of_getElem? (i := 571) (by decide +kernel)) rfl⟩, by decide +kernel⟩
theorem ok_X4_lasts : okV "OnChin$Keeper" yX4_lasts cX4_lasts 8 (some .int) 4 := ⟨⟨gw_of (List.mem_of_getElem? (i := 574) (by decide +kernel)) rfl, gw_of (List.mem_of_getElem? (i := 575) (by decide +kernel)) rfl, wi_X4, gw_of (List.mem_of_getElem? (i := 576) (by decide +kernel)) rfl⟩, by decide +kernel⟩
theorem ok_X4_leastFrom : okV "OnChin$Keeper" yX4_leastFrom cX4_leastFrom 5 (some .int) 2 := ⟨⟨gw_of (List.mem_of_getElem? (i := 591) (by decide +kernel)) rfl, gw_of (List.mem_of_getElem? (i := 592) (by decide +kernel)) rfl, wi_X4, gw_of (List.mem_of_getElem? (i := 593) (by decide +kernel)) rfl⟩, by decide +kernel⟩
theorem ok_X4_leftmost : okV "OnChin$Keeper" yX4_leftmost cX4_leftmost 2 (some .int) 1 := ⟨⟨gw_of (List.mem_of_getElem? (i := 596) (by decide +kernel)) rfl, gw_sel (List.mem_of_getElem? (i := 18) (by decide +kernel)) rfl, wi_X4, gw_of (List.mem_of_getElem? (i := 597) (by decide +kernel)) rfl⟩, by decide +kernel⟩
theorem ok_X4_shortestSteady : okV "OnChin$Keeper" yX4_shortestSteady cX4_shortestSteady 4 (some .int) 1 := ⟨⟨gw_of (List.mem_of_getElem? (i := 605) (by decide +kernel)) rfl, gw_of (List.mem_of_getElem? (i := 606) (by decide +kernel)) rfl, wi_X4, gw_of (List.mem_of_getElem? (i := 607) (by decide +kernel)) rfl⟩, by decide +kernel⟩
theorem ok_X4_isSteady : okV "OnChin$Keeper" yX4_isSteady cX4_isSteady 5 (some .boolean) 2 := ⟨⟨gw_of (List.mem_of_getElem? (i := 612) (by decide +kernel)) rfl, gw_sel (List.mem_of_getElem? (i := 19) (by decide +kernel)) rfl, wi_X4, gw_of (List.mem_of_getElem? (i := 613) (by decide +kernel)) rfl⟩, by decide +kernel⟩
theorem ok_X4_bestRule : okV "OnChin$Keeper" yX4_bestRule cX4_bestRule 11 (some .int) 3 := ⟨⟨gw_of (List.mem_of_getElem? (i := 619) (by decide +kernel)) rfl, gw_of (List.mem_of_getElem? (i := 620) (by decide +kernel)) rfl, wi_X4, gw_of (List.mem_of_getElem? (i := 621) (by decide +kernel)) rfl⟩, by decide +kernel⟩
theorem ok_X4_together : okV "OnChin$Keeper" yX4_together cX4_together 6 (some .int) 3 := ⟨⟨gw_of (List.mem_of_getElem? (i := 624) (by decide +kernel)) rfl, gw_sel (List.mem_of_getElem? (i := 20) (by decide +kernel)) rfl, wi_X4, gw_of (List.mem_of_getElem? (i := 625) (by decide +kernel)) rfl⟩, by decide +kernel⟩
theorem ok_X4_chances : okV "OnChin$Keeper" yX4_chances cX4_chances 13 (some .int) 5 := ⟨⟨gw_of (List.mem_of_getElem? (i := 631) (by decide +kernel)) rfl, gw_of (List.mem_of_getElem? (i := 632) (by decide +kernel)) rfl, wi_X4, gw_of (List.mem_of_getElem? (i := 633) (by decide +kernel)) rfl⟩, by decide +kernel⟩
theorem ok_X4_leastShake : okV "OnChin$Keeper" yX4_leastShake cX4_leastShake 4 (some .int) 2 := ⟨⟨gw_of (List.mem_of_getElem? (i := 646) (by decide +kernel)) rfl, gw_of (List.mem_of_getElem? (i := 647) (by decide +kernel)) rfl, wi_X4, gw_of (List.mem_of_getElem? (i := 648) (by decide +kernel)) rfl⟩, by decide +kernel⟩
theorem ok_X4_standsAlone : okV "OnChin$Keeper" yX4_standsAlone cX4_standsAlone 4 (some .boolean) 2 := ⟨⟨gw_of (List.mem_of_getElem? (i := 652) (by decide +kernel)) rfl, gw_sel (List.mem_of_getElem? (i := 21) (by decide +kernel)) rfl, wi_X4, gw_of (List.mem_of_getElem? (i := 653) (by decide +kernel)) rfl⟩, by decide +kernel⟩
theorem ok_X4_bothLast : okV "OnChin$Keeper" yX4_bothLast cX4_bothLast 8 (some .int) 4 := ⟨⟨gw_of (List.mem_of_getElem? (i := 659) (by decide +kernel)) rfl, gw_of (List.mem_of_getElem? (i := 660) (by decide +kernel)) rfl, wi_X4, gw_of (List.mem_of_getElem? (i := 661) (by decide +kernel)) rfl⟩, by decide +kernel⟩
theorem ok_X5_append : okV "OnChin$Text" yX5_append cX5_append 2 none 1 := ⟨⟨gw_of (List.mem_of_getElem? (i := 312) (by decide +kernel)) rfl, gw_of (List.mem_of_getElem? (i := 313) (by decide +kernel)) rfl, wi_X5, gw_of (List.mem_of_getElem? (i := 314) (by decide +kernel)) rfl⟩, by decide +kernel⟩
theorem ok_X5_firstFault : okV "OnChin$Text" yX5_firstFault cX5_firstFault 3 (some .int) 1 := ⟨⟨gw_of (List.mem_of_getElem? (i := 324) (by decide +kernel)) rfl, gw_of (List.mem_of_getElem? (i := 325) (by decide +kernel)) rfl, wi_X5, gw_of (List.mem_of_getElem? (i := 326) (by decide +kernel)) rfl⟩, by decide +kernel⟩
theorem ok_X5_readToken : okV "OnChin$Text" yX5_readToken cX5_readToken 1 none 0 := ⟨⟨gw_of (List.mem_of_getElem? (i := 329) (by decide +kernel)) rfl, gw_sel (List.mem_of_getElem? (i := 0) (by decide +kernel)) rfl, wi_X5, gw_of (List.mem_of_getElem? (i := 330) (by decide +kernel)) rfl⟩, by decide +kernel⟩
theorem ok_X5_sort : okS yX5_sort cX5_sort 1 (some .int) 1 := ⟨⟨gw_of (List.mem_of_getElem? (i := 332) (by decide +kernel)) rfl, wi_X5, gw_of (List.mem_of_getElem? (i := 333) (by decide +kernel)) rfl⟩, by decide +kernel⟩
theorem ok_X5_says : okV "OnChin$Text" yX5_says cX5_says 3 (some .boolean) 1 := ⟨⟨gw_of (List.mem_of_getElem? (i := 344) (by decide +kernel)) rfl, gw_sel (List.mem_of_getElem? (i := 2) (by decide +kernel)) rfl, wi_X5, gw_of (List.mem_of_getElem? (i := 345) (by decide +kernel)) rfl⟩, by decide +kernel⟩
theorem ok_X5_readLine : okV "OnChin$Text" yX5_readLine cX5_readLine 2 (some .boolean) 0 := ⟨⟨gw_of (List.mem_of_getElem? (i := 339) (by decide +kernel)) rfl, gw_sel (List.mem_of_getElem? (i := 1) (by decide +kernel)) rfl, wi_X5, gw_of (List.mem_of_getElem? (i := 340) (by decide +kernel)) rfl⟩, by decide +kernel⟩
theorem ok_X5_placeNamed : okV "OnChin$Text" yX5_placeNamed cX5_placeNamed 1 (some .int) 0 := ⟨⟨gw_of (List.mem_of_getElem? (i := 443) (by decide +kernel)) rfl, gw_sel (List.mem_of_getElem? (i := 11) (by decide +kernel)) rfl, wi_X5, gw_of (List.mem_of_getElem? (i := 444) (by decide +kernel)) rfl⟩, by decide +kernel⟩
theorem ok_X5_readThing : okV "OnChin$Text" yX5_readThing cX5_readThing 2 (some .boolean) 0 := ⟨⟨gw_of (List.mem_of_getElem? (i := 396) (by decide +kernel)) rfl, gw_sel (List.mem_of_getElem? (i := 3) (by decide +kernel)) rfl, wi_X5, gw_of (List.mem_of_getElem? (i := 397) (by decide +kernel)) rfl⟩, by decide +kernel⟩
theorem ok_X5_kindNamed : okV "OnChin$Text" yX5_kindNamed cX5_kindNamed 1 (some .int) 0 := ⟨⟨gw_of (List.mem_of_getElem? (i := 413) (by decide +kernel)) rfl, gw_sel (List.mem_of_getElem? (i := 7) (by decide +kernel)) rfl, wi_X5, gw_of (List.mem_of_getElem? (i := 414) (by decide +kernel)) rfl⟩, by decide +kernel⟩
theorem ok_X5_readLump : okV "OnChin$Text" yX5_readLump cX5_readLump 2 (some .boolean) 0 := ⟨⟨gw_of (List.mem_of_getElem? (i := 422) (by decide +kernel)) rfl, gw_sel (List.mem_of_getElem? (i := 8) (by decide +kernel)) rfl, wi_X5, gw_of (List.mem_of_getElem? (i := 423) (by decide +kernel)) rfl⟩, by decide +kernel⟩
theorem ok_X5_readBare : okV "OnChin$Text" yX5_readBare cX5_readBare 2 (some .boolean) 0 := ⟨⟨gw_of (List.mem_of_getElem? (i := 430) (by decide +kernel)) rfl, gw_sel (List.mem_of_getElem? (i := 9) (by decide +kernel)) rfl, wi_X5, gw_of (List.mem_of_getElem? (i := 431) (by decide +kernel)) rfl⟩, by decide +kernel⟩
theorem ok_X5_readNumbers : okV "OnChin$Text" yX5_readNumbers cX5_readNumbers 4 (some .boolean) 2 := ⟨⟨gw_of (List.mem_of_getElem? (i := 435) (by decide +kernel)) rfl, gw_sel (List.mem_of_getElem? (i := 10) (by decide +kernel)) rfl, wi_X5, gw_of (List.mem_of_getElem? (i := 436) (by decide +kernel)) rfl⟩, by decide +kernel⟩
theorem ok_X5_readNumber : okV "OnChin$Text" yX5_readNumber cX5_readNumber 4 (some .boolean) 2 := ⟨⟨gw_of (List.mem_of_getElem? (i := 400) (by decide +kernel)) rfl, gw_sel (List.mem_of_getElem? (i := 4) (by decide +kernel)) rfl, wi_X5, gw_of (List.mem_of_getElem? (i := 401) (by decide +kernel)) rfl⟩, by decide +kernel⟩
theorem ok_X5_number : okV "OnChin$Text" yX5_number cX5_number 3 (some .int) 0 := ⟨⟨gw_of (List.mem_of_getElem? (i := 404) (by decide +kernel)) rfl, gw_sel (List.mem_of_getElem? (i := 5) (by decide +kernel)) rfl, wi_X5, gw_of (List.mem_of_getElem? (i := 405) (by decide +kernel)) rfl⟩, by decide +kernel⟩
theorem ok_X5_store : okV "OnChin$Text" yX5_store cX5_store 2 none 1 := ⟨⟨gw_of (List.mem_of_getElem? (i := 409) (by decide +kernel)) rfl, gw_sel (List.mem_of_getElem? (i := 6) (by decide +kernel)) rfl, wi_X5, gw_of (List.mem_of_getElem? (i := 410) (by decide +kernel)) rfl⟩, by decide +kernel⟩
theorem ok_X5_tell : okV "OnChin$Text" yX5_tell cX5_tell 5 none 1 := ⟨⟨gw_of (List.mem_of_getElem? (i := 456) (by decide +kernel)) rfl, gw_of (List.mem_of_getElem? (i := 457) (by decide +kernel)) rfl, wi_X5, gw_of (List.mem_of_getElem? (i := 458) (by decide +kernel)) rfl⟩, by decide +kernel⟩
theorem ok_X5_tellThing : okV "OnChin$Text" yX5_tellThing cX5_tellThing 4 none 3 := ⟨⟨gw_of (List.mem_of_getElem? (i := 462) (by decide +kernel)) rfl, gw_sel (List.mem_of_getElem? (i := 12) (by decide +kernel)) rfl, wi_X5, gw_of (List.mem_of_getElem? (i := 463) (by decide +kernel)) rfl⟩, by decide +kernel⟩
theorem ok_X6_become : okV "OnChin$Thing" yX6_become cX6_become 3 none 2 := ⟨⟨gw_of (List.mem_of_getElem? (i := 465) (by decide +kernel)) rfl, gw_of (List.mem_of_getElem? (i := 466) (by decide +kernel)) rfl, wi_X6, gw_of (List.mem_of_getElem? (i := 467) (by decide +kernel)) rfl⟩, by decide +kernel⟩
theorem ok_X6_addLump : okV "OnChin$Thing" yX6_addLump cX6_addLump 3 none 2 := ⟨⟨gw_of (List.mem_of_getElem? (i := 469) (by decide +kernel)) rfl, gw_of (List.mem_of_getElem? (i := 470) (by decide +kernel)) rfl, wi_X6, gw_of (List.mem_of_getElem? (i := 471) (by decide +kernel)) rfl⟩, by decide +kernel⟩
theorem ok_X6_strip : okV "OnChin$Thing" yX6_strip cX6_strip 1 none 0 := ⟨⟨gw_of (List.mem_of_getElem? (i := 480) (by decide +kernel)) rfl, gw_of (List.mem_of_getElem? (i := 481) (by decide +kernel)) rfl, wi_X6, gw_of (List.mem_of_getElem? (i := 482) (by decide +kernel)) rfl⟩, by decide +kernel⟩
theorem ok_X6_measure : okV "OnChin$Thing" yX6_measure cX6_measure 4 none 0 := ⟨⟨gw_of (List.mem_of_getElem? (i := 474) (by decide +kernel)) rfl, gw_sel (List.mem_of_getElem? (i := 13) (by decide +kernel)) rfl, wi_X6, gw_of (List.mem_of_getElem? (i := 475) (by decide +kernel)) rfl⟩, by decide +kernel⟩
theorem ok_X6_leaning : okV "OnChin$Thing" yX6_leaning cX6_leaning 5 (some .int) 3 := ⟨⟨gw_of (List.mem_of_getElem? (i := 543) (by decide +kernel)) rfl, gw_of (List.mem_of_getElem? (i := 544) (by decide +kernel)) rfl, wi_X6, gw_of (List.mem_of_getElem? (i := 545) (by decide +kernel)) rfl⟩, by decide +kernel⟩
theorem ok_X6_seenLater : okV "OnChin$Thing" yX6_seenLater cX6_seenLater 1 (some .int) 0 := ⟨⟨gw_of (List.mem_of_getElem? (i := 525) (by decide +kernel)) rfl, gw_of (List.mem_of_getElem? (i := 526) (by decide +kernel)) rfl, wi_X6, gw_of (List.mem_of_getElem? (i := 527) (by decide +kernel)) rfl⟩, by decide +kernel⟩
theorem ok_X8_write : okV "OnChin" yX8_write cX8_write 5 (some .int) 2 := ⟨⟨gw_of (List.mem_of_getElem? (i := 304) (by decide +kernel)) rfl, gw_of (List.mem_of_getElem? (i := 305) (by decide +kernel)) rfl, wi_X8, gw_of (List.mem_of_getElem? (i := 306) (by decide +kernel)) rfl⟩, by decide +kernel⟩
theorem ok_X8_erase : okV "OnChin" yX8_erase cX8_erase 2 (some .int) 0 := ⟨⟨gw_of (List.mem_of_getElem? (i := 316) (by decide +kernel)) rfl, gw_of (List.mem_of_getElem? (i := 317) (by decide +kernel)) rfl, wi_X8, gw_of (List.mem_of_getElem? (i := 318) (by decide +kernel)) rfl⟩, by decide +kernel⟩
theorem ok_X8_fault : okV "OnChin" yX8_fault cX8_fault 1 (some .int) 0 := ⟨⟨gw_of (List.mem_of_getElem? (i := 320) (by decide +kernel)) rfl, gw_of (List.mem_of_getElem? (i := 321) (by decide +kernel)) rfl, wi_X8, gw_of (List.mem_of_getElem? (i := 322) (by decide +kernel)) rfl⟩, by decide +kernel⟩
theorem ok_X8_chin : okV "OnChin" yX8_chin cX8_chin 1 (some .int) 0 := ⟨⟨gw_of (List.mem_of_getElem? (i := 452) (by decide +kernel)) rfl, gw_of (List.mem_of_getElem? (i := 453) (by decide +kernel)) rfl, wi_X8, gw_of (List.mem_of_getElem? (i := 454) (by decide +kernel)) rfl⟩, by decide +kernel⟩
theorem ok_X8_thing : okV "OnChin" yX8_thing cX8_thing 4 (some .int) 2 := ⟨⟨gw_of (List.mem_of_getElem? (i := 484) (by decide +kernel)) rfl, gw_of (List.mem_of_getElem? (i := 485) (by decide +kernel)) rfl, wi_X8, gw_of (List.mem_of_getElem? (i := 486) (by decide +kernel)) rfl⟩, by decide +kernel⟩
theorem ok_X8_lump : okV "OnChin" yX8_lump cX8_lump 4 (some .int) 3 := ⟨⟨gw_of (List.mem_of_getElem? (i := 489) (by decide +kernel)) rfl, gw_of (List.mem_of_getElem? (i := 490) (by decide +kernel)) rfl, wi_X8, gw_of (List.mem_of_getElem? (i := 491) (by decide +kernel)) rfl⟩, by decide +kernel⟩
theorem ok_X8_begin : okV "OnChin" yX8_begin cX8_begin 5 (some .int) 3 := ⟨⟨gw_of (List.mem_of_getElem? (i := 493) (by decide +kernel)) rfl, gw_of (List.mem_of_getElem? (i := 494) (by decide +kernel)) rfl, wi_X8, gw_of (List.mem_of_getElem? (i := 495) (by decide +kernel)) rfl⟩, by decide +kernel⟩
theorem ok_X8_ticks : okV "OnChin" yX8_ticks cX8_ticks 3 (some .int) 1 := ⟨⟨gw_of (List.mem_of_getElem? (i := 509) (by decide +kernel)) rfl, gw_of (List.mem_of_getElem? (i := 510) (by decide +kernel)) rfl, wi_X8, gw_of (List.mem_of_getElem? (i := 511) (by decide +kernel)) rfl⟩, by decide +kernel⟩
theorem ok_X8_now : okV "OnChin" yX8_now cX8_now 2 (some .int) 1 := ⟨⟨gw_of (List.mem_of_getElem? (i := 547) (by decide +kernel)) rfl, gw_of (List.mem_of_getElem? (i := 548) (by decide +kernel)) rfl, wi_X8, gw_of (List.mem_of_getElem? (i := 549) (by decide +kernel)) rfl⟩, by decide +kernel⟩
theorem ok_X8_keep : okV "OnChin" yX8_keep cX8_keep 2 (some .int) 1 := ⟨⟨gw_of (List.mem_of_getElem? (i := 552) (by decide +kernel)) rfl, gw_of (List.mem_of_getElem? (i := 553) (by decide +kernel)) rfl, wi_X8, gw_of (List.mem_of_getElem? (i := 554) (by decide +kernel)) rfl⟩, by decide +kernel⟩
theorem ok_X8_back : okV "OnChin" yX8_back cX8_back 2 (some .int) 1 := ⟨⟨gw_of (List.mem_of_getElem? (i := 561) (by decide +kernel)) rfl, gw_of (List.mem_of_getElem? (i := 562) (by decide +kernel)) rfl, wi_X8, gw_of (List.mem_of_getElem? (i := 563) (by decide +kernel)) rfl⟩, by decide +kernel⟩
theorem ok_X8_kept : okV "OnChin" yX8_kept cX8_kept 5 (some .int) 3 := ⟨⟨gw_of (List.mem_of_getElem? (i := 565) (by decide +kernel)) rfl, gw_of (List.mem_of_getElem? (i := 566) (by decide +kernel)) rfl, wi_X8, gw_of (List.mem_of_getElem? (i := 567) (by decide +kernel)) rfl⟩, by decide +kernel⟩
theorem ok_X8_steady : okV "OnChin" yX8_steady cX8_steady 4 (some .int) 2 := ⟨⟨gw_of (List.mem_of_getElem? (i := 587) (by decide +kernel)) rfl, gw_of (List.mem_of_getElem? (i := 588) (by decide +kernel)) rfl, wi_X8, gw_of (List.mem_of_getElem? (i := 589) (by decide +kernel)) rfl⟩, by decide +kernel⟩
theorem ok_X8_line : okV "OnChin" yX8_line cX8_line 2 (some .int) 1 := ⟨⟨gw_of (List.mem_of_getElem? (i := 601) (by decide +kernel)) rfl, gw_of (List.mem_of_getElem? (i := 602) (by decide +kernel)) rfl, wi_X8, gw_of (List.mem_of_getElem? (i := 603) (by decide +kernel)) rfl⟩, by decide +kernel⟩
theorem ok_X8_best : okV "OnChin" yX8_best cX8_best 5 (some .int) 3 := ⟨⟨gw_of (List.mem_of_getElem? (i := 615) (by decide +kernel)) rfl, gw_of (List.mem_of_getElem? (i := 616) (by decide +kernel)) rfl, wi_X8, gw_of (List.mem_of_getElem? (i := 617) (by decide +kernel)) rfl⟩, by decide +kernel⟩
theorem ok_X8_odds : okV "OnChin" yX8_odds cX8_odds 9 (some .int) 6 := ⟨⟨gw_of (List.mem_of_getElem? (i := 627) (by decide +kernel)) rfl, gw_of (List.mem_of_getElem? (i := 628) (by decide +kernel)) rfl, wi_X8, gw_of (List.mem_of_getElem? (i := 629) (by decide +kernel)) rfl⟩, by decide +kernel⟩
theorem ok_X8_stands : okV "OnChin" yX8_stands cX8_stands 4 (some .int) 2 := ⟨⟨gw_of (List.mem_of_getElem? (i := 642) (by decide +kernel)) rfl, gw_of (List.mem_of_getElem? (i := 643) (by decide +kernel)) rfl, wi_X8, gw_of (List.mem_of_getElem? (i := 644) (by decide +kernel)) rfl⟩, by decide +kernel⟩
theorem ok_X8_two : okV "OnChin" yX8_two cX8_two 7 (some .int) 6 := ⟨⟨gw_of (List.mem_of_getElem? (i := 655) (by decide +kernel)) rfl, gw_of (List.mem_of_getElem? (i := 656) (by decide +kernel)) rfl, wi_X8, gw_of (List.mem_of_getElem? (i := 657) (by decide +kernel)) rfl⟩, by decide +kernel⟩
theorem ok_X8_film : okV "OnChin" yX8_film cX8_film 3 (some .int) 2 := ⟨⟨gw_of (List.mem_of_getElem? (i := 664) (by decide +kernel)) rfl, gw_of (List.mem_of_getElem? (i := 665) (by decide +kernel)) rfl, wi_X8, gw_of (List.mem_of_getElem? (i := 666) (by decide +kernel)) rfl⟩, by decide +kernel⟩
theorem ok_X8_wind : okV "OnChin" yX8_wind cX8_wind 2 (some .int) 0 := ⟨⟨gw_of (List.mem_of_getElem? (i := 672) (by decide +kernel)) rfl, gw_of (List.mem_of_getElem? (i := 673) (by decide +kernel)) rfl, wi_X8, gw_of (List.mem_of_getElem? (i := 674) (by decide +kernel)) rfl⟩, by decide +kernel⟩
theorem ok_X8_fits : okV "OnChin" yX8_fits cX8_fits 2 (some .int) 1 := ⟨⟨gw_of (List.mem_of_getElem? (i := 676) (by decide +kernel)) rfl, gw_of (List.mem_of_getElem? (i := 677) (by decide +kernel)) rfl, wi_X8, gw_of (List.mem_of_getElem? (i := 678) (by decide +kernel)) rfl⟩, by decide +kernel⟩
theorem ok_X8_next : okV "OnChin" yX8_next cX8_next 3 (some .int) 2 := ⟨⟨gw_of (List.mem_of_getElem? (i := 700) (by decide +kernel)) rfl, gw_of (List.mem_of_getElem? (i := 701) (by decide +kernel)) rfl, wi_X8, gw_of (List.mem_of_getElem? (i := 702) (by decide +kernel)) rfl⟩, by decide +kernel⟩
theorem ok_X8_plan : okV "OnChin" yX8_plan cX8_plan 4 (some .int) 2 := ⟨⟨gw_of (List.mem_of_getElem? (i := 704) (by decide +kernel)) rfl, gw_of (List.mem_of_getElem? (i := 705) (by decide +kernel)) rfl, wi_X8, gw_of (List.mem_of_getElem? (i := 706) (by decide +kernel)) rfl⟩, by decide +kernel⟩
theorem ok_X8_room : okV "OnChin" yX8_room cX8_room 5 (some .int) 3 := ⟨⟨gw_of (List.mem_of_getElem? (i := 731) (by decide +kernel)) rfl, gw_of (List.mem_of_getElem? (i := 732) (by decide +kernel)) rfl, wi_X8, gw_of (List.mem_of_getElem? (i := 733) (by decide +kernel)) rfl⟩, by decide +kernel⟩
theorem ok_X8_way : okV "OnChin" yX8_way cX8_way 6 (some .int) 5 := ⟨⟨gw_of (List.mem_of_getElem? (i := 735) (by decide +kernel)) rfl, gw_of (List.mem_of_getElem? (i := 736) (by decide +kernel)) rfl, wi_X8, gw_of (List.mem_of_getElem? (i := 737) (by decide +kernel)) rfl⟩, by decide +kernel⟩
theorem ok_X8_count : okV "OnChin" yX8_count cX8_count 2 (some .int) 1 := ⟨⟨gw_of (List.mem_of_getElem? (i := 755) (by decide +kernel)) rfl, gw_of (List.mem_of_getElem? (i := 756) (by decide +kernel)) rfl, wi_X8, gw_of (List.mem_of_getElem? (i := 757) (by decide +kernel)) rfl⟩, by decide +kernel⟩
theorem ok_X8_within : okS yX8_within cX8_within 3 (some .boolean) 3 := ⟨⟨gw_of (List.mem_of_getElem? (i := 308) (by decide +kernel)) rfl, wi_X8, gw_of (List.mem_of_getElem? (i := 309) (by decide +kernel)) rfl⟩, by decide +kernel⟩
theorem ok_X8_isThing : okS yX8_isThing cX8_isThing 1 (some .boolean) 1 := ⟨⟨gw_of (List.mem_of_getElem? (i := 425) (by decide +kernel)) rfl, wi_X8, gw_of (List.mem_of_getElem? (i := 426) (by decide +kernel)) rfl⟩, by decide +kernel⟩
theorem ok_X8_hasLumps : okV "OnChin" yX8_hasLumps cX8_hasLumps 2 (some .boolean) 1 := ⟨⟨gw_of (List.mem_of_getElem? (i := 502) (by decide +kernel)) rfl, gw_sel (List.mem_of_getElem? (i := 15) (by decide +kernel)) rfl, wi_X8, gw_of (List.mem_of_getElem? (i := 503) (by decide +kernel)) rfl⟩, by decide +kernel⟩
theorem ok_X8_refusal : okV "OnChin" yX8_refusal cX8_refusal 3 (some .int) 2 := ⟨⟨gw_of (List.mem_of_getElem? (i := 498) (by decide +kernel)) rfl, gw_sel (List.mem_of_getElem? (i := 14) (by decide +kernel)) rfl, wi_X8, gw_of (List.mem_of_getElem? (i := 499) (by decide +kernel)) rfl⟩, by decide +kernel⟩
theorem ok_X8_limited : okS yX8_limited cX8_limited 2 (some .int) 2 := ⟨⟨gw_of (List.mem_of_getElem? (i := 539) (by decide +kernel)) rfl, wi_X8, gw_of (List.mem_of_getElem? (i := 540) (by decide +kernel)) rfl⟩, by decide +kernel⟩
theorem ok_X8_wish : okS yX8_wish cX8_wish 3 (some .int) 3 := ⟨⟨gw_of (List.mem_of_getElem? (i := 533) (by decide +kernel)) rfl, wi_X8, gw_of (List.mem_of_getElem? (i := 534) (by decide +kernel)) rfl⟩, by decide +kernel⟩
theorem ok_X8_lowestTerms : okS yX8_lowestTerms cX8_lowestTerms 6 (some .int) 3 := ⟨⟨gw_of (List.mem_of_getElem? (i := 638) (by decide +kernel)) rfl, wi_X8, gw_of (List.mem_of_getElem? (i := 639) (by decide +kernel)) rfl⟩, by decide +kernel⟩
theorem ok_X8_power : okS yX8_power cX8_power 4 (some .int) 2 := ⟨⟨gw_of (List.mem_of_getElem? (i := 635) (by decide +kernel)) rfl, wi_X8, gw_of (List.mem_of_getElem? (i := 636) (by decide +kernel)) rfl⟩, by decide +kernel⟩
theorem ok_X9_in : okS yX9_in cX9_in 6 (some .boolean) 3 := ⟨⟨gw_of (List.mem_of_getElem? (i := 898) (by decide +kernel)) rfl, wi_X9, gw_of (List.mem_of_getElem? (i := 899) (by decide +kernel)) rfl⟩, by decide +kernel⟩
theorem ok_X9_write : okV "OnChinModel" yX9_write cX9_write 5 (some .int) 2 := ⟨⟨gw_of (List.mem_of_getElem? (i := 893) (by decide +kernel)) rfl, gw_of (List.mem_of_getElem? (i := 894) (by decide +kernel)) rfl, wi_X9, gw_of (List.mem_of_getElem? (i := 895) (by decide +kernel)) rfl⟩, by decide +kernel⟩
theorem ok_X9_erase : okV "OnChinModel" yX9_erase cX9_erase 2 (some .int) 0 := ⟨⟨gw_of (List.mem_of_getElem? (i := 902) (by decide +kernel)) rfl, gw_of (List.mem_of_getElem? (i := 903) (by decide +kernel)) rfl, wi_X9, gw_of (List.mem_of_getElem? (i := 904) (by decide +kernel)) rfl⟩, by decide +kernel⟩
theorem ok_X9_sort : okS yX9_sort cX9_sort 1 (some .int) 1 := ⟨⟨gw_of (List.mem_of_getElem? (i := 914) (by decide +kernel)) rfl, wi_X9, gw_of (List.mem_of_getElem? (i := 915) (by decide +kernel)) rfl⟩, by decide +kernel⟩
theorem ok_X9_token : okV "OnChinModel" yX9_token cX9_token 1 none 0 := ⟨⟨gw_of (List.mem_of_getElem? (i := 911) (by decide +kernel)) rfl, gw_sel (List.mem_of_getElem? (i := 28) (by decide +kernel)) rfl, wi_X9, gw_of (List.mem_of_getElem? (i := 912) (by decide +kernel)) rfl⟩, by decide +kernel⟩
theorem ok_X9_isWord : okV "OnChinModel" yX9_isWord cX9_isWord 6 (some .boolean) 2 := ⟨⟨gw_of (List.mem_of_getElem? (i := 927) (by decide +kernel)) rfl, gw_sel (List.mem_of_getElem? (i := 31) (by decide +kernel)) rfl, wi_X9, gw_of (List.mem_of_getElem? (i := 928) (by decide +kernel)) rfl⟩, by decide +kernel⟩
theorem ok_X9_wordOf : okV "OnChinModel" yX9_wordOf cX9_wordOf 1 (some .int) 0 := ⟨⟨gw_of (List.mem_of_getElem? (i := 922) (by decide +kernel)) rfl, gw_sel (List.mem_of_getElem? (i := 30) (by decide +kernel)) rfl, wi_X9, gw_of (List.mem_of_getElem? (i := 923) (by decide +kernel)) rfl⟩, by decide +kernel⟩
theorem ok_X9_reads : okV "OnChinModel" yX9_reads cX9_reads 6 (some .boolean) 3 := ⟨⟨gw_of (List.mem_of_getElem? (i := 944) (by decide +kernel)) rfl, gw_sel (List.mem_of_getElem? (i := 33) (by decide +kernel)) rfl, wi_X9, gw_of (List.mem_of_getElem? (i := 945) (by decide +kernel)) rfl⟩, by decide +kernel⟩
theorem ok_X9_readsKind : okV "OnChinModel" yX9_readsKind cX9_readsKind 2 (some .boolean) 0 := ⟨⟨gw_of (List.mem_of_getElem? (i := 948) (by decide +kernel)) rfl, gw_sel (List.mem_of_getElem? (i := 34) (by decide +kernel)) rfl, wi_X9, gw_of (List.mem_of_getElem? (i := 949) (by decide +kernel)) rfl⟩, by decide +kernel⟩
theorem ok_X9_readsLump : okV "OnChinModel" yX9_readsLump cX9_readsLump 2 (some .boolean) 0 := ⟨⟨gw_of (List.mem_of_getElem? (i := 956) (by decide +kernel)) rfl, gw_sel (List.mem_of_getElem? (i := 35) (by decide +kernel)) rfl, wi_X9, gw_of (List.mem_of_getElem? (i := 957) (by decide +kernel)) rfl⟩, by decide +kernel⟩
theorem ok_X9_readsRest : okV "OnChinModel" yX9_readsRest cX9_readsRest 2 (some .boolean) 1 := ⟨⟨gw_of (List.mem_of_getElem? (i := 940) (by decide +kernel)) rfl, gw_sel (List.mem_of_getElem? (i := 32) (by decide +kernel)) rfl, wi_X9, gw_of (List.mem_of_getElem? (i := 941) (by decide +kernel)) rfl⟩, by decide +kernel⟩
theorem ok_X9_readsLine : okV "OnChinModel" yX9_readsLine cX9_readsLine 3 (some .boolean) 0 := ⟨⟨gw_of (List.mem_of_getElem? (i := 918) (by decide +kernel)) rfl, gw_sel (List.mem_of_getElem? (i := 29) (by decide +kernel)) rfl, wi_X9, gw_of (List.mem_of_getElem? (i := 919) (by decide +kernel)) rfl⟩, by decide +kernel⟩
theorem ok_X9_fault : okV "OnChinModel" yX9_fault cX9_fault 2 (some .int) 0 := ⟨⟨gw_of (List.mem_of_getElem? (i := 906) (by decide +kernel)) rfl, gw_of (List.mem_of_getElem? (i := 907) (by decide +kernel)) rfl, wi_X9, gw_of (List.mem_of_getElem? (i := 908) (by decide +kernel)) rfl⟩, by decide +kernel⟩
theorem ok_X9_tell : okV "OnChinModel" yX9_tell cX9_tell 5 none 1 := ⟨⟨gw_of (List.mem_of_getElem? (i := 965) (by decide +kernel)) rfl, gw_sel (List.mem_of_getElem? (i := 36) (by decide +kernel)) rfl, wi_X9, gw_of (List.mem_of_getElem? (i := 966) (by decide +kernel)) rfl⟩, by decide +kernel⟩
theorem ok_X9_chin : okV "OnChinModel" yX9_chin cX9_chin 2 (some .int) 0 := ⟨⟨gw_of (List.mem_of_getElem? (i := 959) (by decide +kernel)) rfl, gw_of (List.mem_of_getElem? (i := 960) (by decide +kernel)) rfl, wi_X9, gw_of (List.mem_of_getElem? (i := 961) (by decide +kernel)) rfl⟩, by decide +kernel⟩
theorem ok_X9_isThing : okS yX9_isThing cX9_isThing 1 (some .boolean) 1 := ⟨⟨gw_of (List.mem_of_getElem? (i := 972) (by decide +kernel)) rfl, wi_X9, gw_of (List.mem_of_getElem? (i := 973) (by decide +kernel)) rfl⟩, by decide +kernel⟩
theorem ok_X9_longOf : okV "OnChinModel" yX9_longOf cX9_longOf 7 (some .int) 1 := ⟨⟨gw_of (List.mem_of_getElem? (i := 977) (by decide +kernel)) rfl, gw_sel (List.mem_of_getElem? (i := 37) (by decide +kernel)) rfl, wi_X9, gw_of (List.mem_of_getElem? (i := 978) (by decide +kernel)) rfl⟩, by decide +kernel⟩
theorem ok_X9_greatest : okV "OnChinModel" yX9_greatest cX9_greatest 4 (some .int) 1 := ⟨⟨gw_of (List.mem_of_getElem? (i := 981) (by decide +kernel)) rfl, gw_sel (List.mem_of_getElem? (i := 38) (by decide +kernel)) rfl, wi_X9, gw_of (List.mem_of_getElem? (i := 982) (by decide +kernel)) rfl⟩, by decide +kernel⟩
theorem ok_X9_thing : okV "OnChinModel" yX9_thing cX9_thing 3 (some .int) 2 := ⟨⟨gw_of (List.mem_of_getElem? (i := 968) (by decide +kernel)) rfl, gw_of (List.mem_of_getElem? (i := 969) (by decide +kernel)) rfl, wi_X9, gw_of (List.mem_of_getElem? (i := 970) (by decide +kernel)) rfl⟩, by decide +kernel⟩
theorem ok_X9_lump : okV "OnChinModel" yX9_lump cX9_lump 4 (some .int) 3 := ⟨⟨gw_of (List.mem_of_getElem? (i := 984) (by decide +kernel)) rfl, gw_of (List.mem_of_getElem? (i := 985) (by decide +kernel)) rfl, wi_X9, gw_of (List.mem_of_getElem? (i := 986) (by decide +kernel)) rfl⟩, by decide +kernel⟩
theorem ok_X9_asTold : okV "OnChinModel" yX9_asTold cX9_asTold 2 none 1 := ⟨⟨gw_of (List.mem_of_getElem? (i := 1020) (by decide +kernel)) rfl, gw_sel (List.mem_of_getElem? (i := 42) (by decide +kernel)) rfl, wi_X9, gw_of (List.mem_of_getElem? (i := 1021) (by decide +kernel)) rfl⟩, by decide +kernel⟩
theorem ok_X9_look : okV "OnChinModel" yX9_look cX9_look 2 none 1 := ⟨⟨gw_of (List.mem_of_getElem? (i := 1024) (by decide +kernel)) rfl, gw_sel (List.mem_of_getElem? (i := 43) (by decide +kernel)) rfl, wi_X9, gw_of (List.mem_of_getElem? (i := 1025) (by decide +kernel)) rfl⟩, by decide +kernel⟩
theorem ok_X9_start : okV "OnChinModel" yX9_start cX9_start 4 none 3 := ⟨⟨gw_of (List.mem_of_getElem? (i := 1003) (by decide +kernel)) rfl, gw_sel (List.mem_of_getElem? (i := 39) (by decide +kernel)) rfl, wi_X9, gw_of (List.mem_of_getElem? (i := 1004) (by decide +kernel)) rfl⟩, by decide +kernel⟩
theorem ok_X9_leansAt : okV "OnChinModel" yX9_leansAt cX9_leansAt 2 (some .int) 1 := ⟨⟨gw_of (List.mem_of_getElem? (i := 1016) (by decide +kernel)) rfl, gw_sel (List.mem_of_getElem? (i := 41) (by decide +kernel)) rfl, wi_X9, gw_of (List.mem_of_getElem? (i := 1017) (by decide +kernel)) rfl⟩, by decide +kernel⟩
theorem ok_X9_fell : okV "OnChinModel" yX9_fell cX9_fell 3 (some .boolean) 1 := ⟨⟨gw_of (List.mem_of_getElem? (i := 1012) (by decide +kernel)) rfl, gw_sel (List.mem_of_getElem? (i := 40) (by decide +kernel)) rfl, wi_X9, gw_of (List.mem_of_getElem? (i := 1013) (by decide +kernel)) rfl⟩, by decide +kernel⟩
theorem ok_X9_minds : okV "OnChinModel" yX9_minds cX9_minds 4 (some .int) 2 := ⟨⟨gw_of (List.mem_of_getElem? (i := 1036) (by decide +kernel)) rfl, gw_sel (List.mem_of_getElem? (i := 46) (by decide +kernel)) rfl, wi_X9, gw_of (List.mem_of_getElem? (i := 1037) (by decide +kernel)) rfl⟩, by decide +kernel⟩
theorem ok_X9_moves : okV "OnChinModel" yX9_moves cX9_moves 8 (some .int) 1 := ⟨⟨gw_of (List.mem_of_getElem? (i := 1032) (by decide +kernel)) rfl, gw_sel (List.mem_of_getElem? (i := 45) (by decide +kernel)) rfl, wi_X9, gw_of (List.mem_of_getElem? (i := 1033) (by decide +kernel)) rfl⟩, by decide +kernel⟩
theorem ok_X9_tick : okV "OnChinModel" yX9_tick cX9_tick 9 none 3 := ⟨⟨gw_of (List.mem_of_getElem? (i := 1028) (by decide +kernel)) rfl, gw_sel (List.mem_of_getElem? (i := 44) (by decide +kernel)) rfl, wi_X9, gw_of (List.mem_of_getElem? (i := 1029) (by decide +kernel)) rfl⟩, by decide +kernel⟩
theorem ok_X9_isX : okS yX9_isX cX9_isX 1 (some .boolean) 1 := ⟨⟨gw_of (List.mem_of_getElem? (i := 992) (by decide +kernel)) rfl, wi_X9, gw_of (List.mem_of_getElem? (i := 993) (by decide +kernel)) rfl⟩, by decide +kernel⟩
theorem ok_X9_isV : okS yX9_isV cX9_isV 1 (some .boolean) 1 := ⟨⟨gw_of (List.mem_of_getElem? (i := 997) (by decide +kernel)) rfl, wi_X9, gw_of (List.mem_of_getElem? (i := 998) (by decide +kernel)) rfl⟩, by decide +kernel⟩
theorem ok_X9_begin : okV "OnChinModel" yX9_begin cX9_begin 4 (some .int) 3 := ⟨⟨gw_of (List.mem_of_getElem? (i := 988) (by decide +kernel)) rfl, gw_of (List.mem_of_getElem? (i := 989) (by decide +kernel)) rfl, wi_X9, gw_of (List.mem_of_getElem? (i := 990) (by decide +kernel)) rfl⟩, by decide +kernel⟩
theorem ok_X9_ticks : okV "OnChinModel" yX9_ticks cX9_ticks 4 (some .int) 1 := ⟨⟨gw_of (List.mem_of_getElem? (i := 1006) (by decide +kernel)) rfl, gw_of (List.mem_of_getElem? (i := 1007) (by decide +kernel)) rfl, wi_X9, gw_of (List.mem_of_getElem? (i := 1008) (by decide +kernel)) rfl⟩, by decide +kernel⟩
theorem ok_X9_now : okV "OnChinModel" yX9_now cX9_now 2 (some .int) 1 := ⟨⟨gw_of (List.mem_of_getElem? (i := 1039) (by decide +kernel)) rfl, gw_of (List.mem_of_getElem? (i := 1040) (by decide +kernel)) rfl, wi_X9, gw_of (List.mem_of_getElem? (i := 1041) (by decide +kernel)) rfl⟩, by decide +kernel⟩
theorem ok_X9_copy : okV "OnChinModel" yX9_copy cX9_copy 4 none 2 := ⟨⟨gw_of (List.mem_of_getElem? (i := 1050) (by decide +kernel)) rfl, gw_sel (List.mem_of_getElem? (i := 47) (by decide +kernel)) rfl, wi_X9, gw_of (List.mem_of_getElem? (i := 1051) (by decide +kernel)) rfl⟩, by decide +kernel⟩
theorem ok_X9_keep : okV "OnChinModel" yX9_keep cX9_keep 2 (some .int) 1 := ⟨⟨gw_of (List.mem_of_getElem? (i := 1045) (by decide +kernel)) rfl, gw_of (List.mem_of_getElem? (i := 1046) (by decide +kernel)) rfl, wi_X9, gw_of (List.mem_of_getElem? (i := 1047) (by decide +kernel)) rfl⟩, by decide +kernel⟩
theorem ok_X9_back : okV "OnChinModel" yX9_back cX9_back 2 (some .int) 1 := ⟨⟨gw_of (List.mem_of_getElem? (i := 1053) (by decide +kernel)) rfl, gw_of (List.mem_of_getElem? (i := 1054) (by decide +kernel)) rfl, wi_X9, gw_of (List.mem_of_getElem? (i := 1055) (by decide +kernel)) rfl⟩, by decide +kernel⟩
theorem ok_X9_lasts : okV "OnChinModel" yX9_lasts cX9_lasts 4 (some .int) 3 := ⟨⟨gw_of (List.mem_of_getElem? (i := 1062) (by decide +kernel)) rfl, gw_sel (List.mem_of_getElem? (i := 48) (by decide +kernel)) rfl, wi_X9, gw_of (List.mem_of_getElem? (i := 1063) (by decide +kernel)) rfl⟩, by decide +kernel⟩
theorem ok_X9_kept : okV "OnChinModel" yX9_kept cX9_kept 4 (some .int) 3 := ⟨⟨gw_of (List.mem_of_getElem? (i := 1057) (by decide +kernel)) rfl, gw_of (List.mem_of_getElem? (i := 1058) (by decide +kernel)) rfl, wi_X9, gw_of (List.mem_of_getElem? (i := 1059) (by decide +kernel)) rfl⟩, by decide +kernel⟩
theorem ok_X9_least : okV "OnChinModel" yX9_least cX9_least 5 (some .int) 1 := ⟨⟨gw_of (List.mem_of_getElem? (i := 1074) (by decide +kernel)) rfl, gw_sel (List.mem_of_getElem? (i := 49) (by decide +kernel)) rfl, wi_X9, gw_of (List.mem_of_getElem? (i := 1075) (by decide +kernel)) rfl⟩, by decide +kernel⟩
theorem ok_X9_isK : okS yX9_isK cX9_isK 1 (some .boolean) 1 := ⟨⟨gw_of (List.mem_of_getElem? (i := 1069) (by decide +kernel)) rfl, wi_X9, gw_of (List.mem_of_getElem? (i := 1070) (by decide +kernel)) rfl⟩, by decide +kernel⟩
theorem ok_X9_steady : okV "OnChinModel" yX9_steady cX9_steady 3 (some .int) 2 := ⟨⟨gw_of (List.mem_of_getElem? (i := 1065) (by decide +kernel)) rfl, gw_of (List.mem_of_getElem? (i := 1066) (by decide +kernel)) rfl, wi_X9, gw_of (List.mem_of_getElem? (i := 1067) (by decide +kernel)) rfl⟩, by decide +kernel⟩
theorem ok_X9_stays : okV "OnChinModel" yX9_stays cX9_stays 4 (some .boolean) 1 := ⟨⟨gw_of (List.mem_of_getElem? (i := 1082) (by decide +kernel)) rfl, gw_sel (List.mem_of_getElem? (i := 50) (by decide +kernel)) rfl, wi_X9, gw_of (List.mem_of_getElem? (i := 1083) (by decide +kernel)) rfl⟩, by decide +kernel⟩
theorem ok_X9_line : okV "OnChinModel" yX9_line cX9_line 5 (some .int) 1 := ⟨⟨gw_of (List.mem_of_getElem? (i := 1077) (by decide +kernel)) rfl, gw_of (List.mem_of_getElem? (i := 1078) (by decide +kernel)) rfl, wi_X9, gw_of (List.mem_of_getElem? (i := 1079) (by decide +kernel)) rfl⟩, by decide +kernel⟩
theorem ok_X9_best : okV "OnChinModel" yX9_best cX9_best 9 (some .int) 3 := ⟨⟨gw_of (List.mem_of_getElem? (i := 1085) (by decide +kernel)) rfl, gw_of (List.mem_of_getElem? (i := 1086) (by decide +kernel)) rfl, wi_X9, gw_of (List.mem_of_getElem? (i := 1087) (by decide +kernel)) rfl⟩, by decide +kernel⟩
theorem ok_X9_divisor : okS yX9_divisor cX9_divisor 5 (some .int) 2 := ⟨⟨gw_of (List.mem_of_getElem? (i := 1100) (by decide +kernel)) rfl, wi_X9, gw_of (List.mem_of_getElem? (i := 1101) (by decide +kernel)) rfl⟩, by decide +kernel⟩
theorem ok_X9_weightOf : okV "OnChinModel" yX9_weightOf cX9_weightOf 10 (some .int) 5 := ⟨⟨gw_of (List.mem_of_getElem? (i := 1097) (by decide +kernel)) rfl, gw_sel (List.mem_of_getElem? (i := 51) (by decide +kernel)) rfl, wi_X9, gw_of (List.mem_of_getElem? (i := 1098) (by decide +kernel)) rfl⟩, by decide +kernel⟩
theorem ok_X9_odds : okV "OnChinModel" yX9_odds cX9_odds 11 (some .int) 6 := ⟨⟨gw_of (List.mem_of_getElem? (i := 1091) (by decide +kernel)) rfl, gw_of (List.mem_of_getElem? (i := 1092) (by decide +kernel)) rfl, wi_X9, gw_of (List.mem_of_getElem? (i := 1093) (by decide +kernel)) rfl⟩, by decide +kernel⟩
theorem ok_X9_stands : okV "OnChinModel" yX9_stands cX9_stands 4 (some .int) 2 := ⟨⟨gw_of (List.mem_of_getElem? (i := 1103) (by decide +kernel)) rfl, gw_of (List.mem_of_getElem? (i := 1104) (by decide +kernel)) rfl, wi_X9, gw_of (List.mem_of_getElem? (i := 1105) (by decide +kernel)) rfl⟩, by decide +kernel⟩
theorem ok_X9_two : okV "OnChinModel" yX9_two cX9_two 9 (some .int) 6 := ⟨⟨gw_of (List.mem_of_getElem? (i := 1107) (by decide +kernel)) rfl, gw_of (List.mem_of_getElem? (i := 1108) (by decide +kernel)) rfl, wi_X9, gw_of (List.mem_of_getElem? (i := 1109) (by decide +kernel)) rfl⟩, by decide +kernel⟩
theorem ok_X9_film : okV "OnChinModel" yX9_film cX9_film 3 (some .int) 2 := ⟨⟨gw_of (List.mem_of_getElem? (i := 1112) (by decide +kernel)) rfl, gw_of (List.mem_of_getElem? (i := 1113) (by decide +kernel)) rfl, wi_X9, gw_of (List.mem_of_getElem? (i := 1114) (by decide +kernel)) rfl⟩, by decide +kernel⟩
theorem ok_X9_wind : okV "OnChinModel" yX9_wind cX9_wind 2 (some .int) 0 := ⟨⟨gw_of (List.mem_of_getElem? (i := 1116) (by decide +kernel)) rfl, gw_of (List.mem_of_getElem? (i := 1117) (by decide +kernel)) rfl, wi_X9, gw_of (List.mem_of_getElem? (i := 1118) (by decide +kernel)) rfl⟩, by decide +kernel⟩
theorem ok_X9_mindsAt : okV "OnChinModel" yX9_mindsAt cX9_mindsAt 4 (some .int) 1 := ⟨⟨gw_of (List.mem_of_getElem? (i := 1129) (by decide +kernel)) rfl, gw_sel (List.mem_of_getElem? (i := 53) (by decide +kernel)) rfl, wi_X9, gw_of (List.mem_of_getElem? (i := 1130) (by decide +kernel)) rfl⟩, by decide +kernel⟩
theorem ok_X9_fitsBy : okV "OnChinModel" yX9_fitsBy cX9_fitsBy 4 (some .boolean) 1 := ⟨⟨gw_of (List.mem_of_getElem? (i := 1125) (by decide +kernel)) rfl, gw_sel (List.mem_of_getElem? (i := 52) (by decide +kernel)) rfl, wi_X9, gw_of (List.mem_of_getElem? (i := 1126) (by decide +kernel)) rfl⟩, by decide +kernel⟩
theorem ok_X9_fits : okV "OnChinModel" yX9_fits cX9_fits 5 (some .int) 1 := ⟨⟨gw_of (List.mem_of_getElem? (i := 1120) (by decide +kernel)) rfl, gw_of (List.mem_of_getElem? (i := 1121) (by decide +kernel)) rfl, wi_X9, gw_of (List.mem_of_getElem? (i := 1122) (by decide +kernel)) rfl⟩, by decide +kernel⟩
theorem ok_X9_next : okV "OnChinModel" yX9_next cX9_next 7 (some .int) 2 := ⟨⟨gw_of (List.mem_of_getElem? (i := 1132) (by decide +kernel)) rfl, gw_of (List.mem_of_getElem? (i := 1133) (by decide +kernel)) rfl, wi_X9, gw_of (List.mem_of_getElem? (i := 1134) (by decide +kernel)) rfl⟩, by decide +kernel⟩
theorem ok_X9_layHolds : okV "OnChinModel" yX9_layHolds cX9_layHolds 3 none 0 := ⟨⟨gw_of (List.mem_of_getElem? (i := 1144) (by decide +kernel)) rfl, gw_sel (List.mem_of_getElem? (i := 54) (by decide +kernel)) rfl, wi_X9, gw_of (List.mem_of_getElem? (i := 1145) (by decide +kernel)) rfl⟩, by decide +kernel⟩
theorem ok_X9_tenthsBy : okV "OnChinModel" yX9_tenthsBy cX9_tenthsBy 8 (some .int) 2 := ⟨⟨gw_of (List.mem_of_getElem? (i := 1148) (by decide +kernel)) rfl, gw_sel (List.mem_of_getElem? (i := 55) (by decide +kernel)) rfl, wi_X9, gw_of (List.mem_of_getElem? (i := 1149) (by decide +kernel)) rfl⟩, by decide +kernel⟩
theorem ok_X9_plan : okV "OnChinModel" yX9_plan cX9_plan 8 (some .int) 2 := ⟨⟨gw_of (List.mem_of_getElem? (i := 1138) (by decide +kernel)) rfl, gw_of (List.mem_of_getElem? (i := 1139) (by decide +kernel)) rfl, wi_X9, gw_of (List.mem_of_getElem? (i := 1140) (by decide +kernel)) rfl⟩, by decide +kernel⟩
theorem ok_X9_isCell : okS yX9_isCell cX9_isCell 1 (some .boolean) 1 := ⟨⟨gw_of (List.mem_of_getElem? (i := 1155) (by decide +kernel)) rfl, wi_X9, gw_of (List.mem_of_getElem? (i := 1156) (by decide +kernel)) rfl⟩, by decide +kernel⟩
theorem ok_X9_room : okV "OnChinModel" yX9_room cX9_room 5 (some .int) 3 := ⟨⟨gw_of (List.mem_of_getElem? (i := 1151) (by decide +kernel)) rfl, gw_of (List.mem_of_getElem? (i := 1152) (by decide +kernel)) rfl, wi_X9, gw_of (List.mem_of_getElem? (i := 1153) (by decide +kernel)) rfl⟩, by decide +kernel⟩
theorem ok_X9_areBeside : okS yX9_areBeside cX9_areBeside 4 (some .boolean) 2 := ⟨⟨gw_of (List.mem_of_getElem? (i := 1164) (by decide +kernel)) rfl, wi_X9, gw_of (List.mem_of_getElem? (i := 1165) (by decide +kernel)) rfl⟩, by decide +kernel⟩
theorem ok_X9_way : okV "OnChinModel" yX9_way cX9_way 13 (some .int) 5 := ⟨⟨gw_of (List.mem_of_getElem? (i := 1160) (by decide +kernel)) rfl, gw_of (List.mem_of_getElem? (i := 1161) (by decide +kernel)) rfl, wi_X9, gw_of (List.mem_of_getElem? (i := 1162) (by decide +kernel)) rfl⟩, by decide +kernel⟩
theorem ok_X9_count : okV "OnChinModel" yX9_count cX9_count 2 (some .int) 1 := ⟨⟨gw_of (List.mem_of_getElem? (i := 1167) (by decide +kernel)) rfl, gw_of (List.mem_of_getElem? (i := 1168) (by decide +kernel)) rfl, wi_X9, gw_of (List.mem_of_getElem? (i := 1169) (by decide +kernel)) rfl⟩, by decide +kernel⟩
theorem ok_J9_abs_0f7a4 : okS yJ9_abs_0f7a4 cJ9_abs_0f7a4 1 (some .int) 1 := ⟨⟨gw_of (List.mem_of_getElem? (i := 536) (by decide +kernel)) rfl, wi_J9, gw_of (List.mem_of_getElem? (i := 537) (by decide +kernel)) rfl⟩, by decide +kernel⟩
theorem ok_J9_max_7cf53 : okS yJ9_max_7cf53 cJ9_max_7cf53 2 (some .int) 2 := ⟨⟨gw_of (List.mem_of_getElem? (i := 477) (by decide +kernel)) rfl, wi_J9, gw_of (List.mem_of_getElem? (i := 478) (by decide +kernel)) rfl⟩, by decide +kernel⟩
theorem ok_J9_min_7cf53 : okS yJ9_min_7cf53 cJ9_min_7cf53 2 (some .int) 2 := ⟨⟨gw_of (List.mem_of_getElem? (i := 335) (by decide +kernel)) rfl, wi_J9, gw_of (List.mem_of_getElem? (i := 336) (by decide +kernel)) rfl⟩, by decide +kernel⟩
theorem ok_J0_length_8abf5 : okV "java/lang/String" yJ0_length_8abf5 cJ0_length_8abf5 1 (some .int) 0 := ⟨⟨gw_of (List.mem_of_getElem? (i := 347) (by decide +kernel)) rfl, gw_of (List.mem_of_getElem? (i := 348) (by decide +kernel)) rfl, wi_J0, gw_of (List.mem_of_getElem? (i := 349) (by decide +kernel)) rfl⟩, by decide +kernel⟩
theorem ok_J0_charAt_5068e : okV "java/lang/String" yJ0_charAt_5068e cJ0_charAt_5068e 2 (some .char) 1 := ⟨⟨gw_of (List.mem_of_getElem? (i := 357) (by decide +kernel)) rfl, gw_of (List.mem_of_getElem? (i := 358) (by decide +kernel)) rfl, wi_J0, gw_of (List.mem_of_getElem? (i := 359) (by decide +kernel)) rfl⟩, by decide +kernel⟩
theorem ok_J0_coder_7d493 : okV "java/lang/String" yJ0_coder_7d493 cJ0_coder_7d493 1 (some .byte) 0 := ⟨⟨gw_of (List.mem_of_getElem? (i := 351) (by decide +kernel)) rfl, gw_of (List.mem_of_getElem? (i := 352) (by decide +kernel)) rfl, wi_J0, gw_of (List.mem_of_getElem? (i := 353) (by decide +kernel)) rfl⟩, by decide +kernel⟩
theorem ok_J0_isLatin1_aae02 : okV "java/lang/String" yJ0_isLatin1_aae02 cJ0_isLatin1_aae02 1 (some .boolean) 0 := ⟨⟨gw_of (List.mem_of_getElem? (i := 361) (by decide +kernel)) rfl, gw_of (List.mem_of_getElem? (i := 362) (by decide +kernel)) rfl, wi_J0, gw_of (List.mem_of_getElem? (i := 363) (by decide +kernel)) rfl⟩, by decide +kernel⟩
theorem ok_J0_checkIndex_df160 : okS yJ0_checkIndex_df160 cJ0_checkIndex_df160 2 none 2 := ⟨⟨gw_of (List.mem_of_getElem? (i := 368) (by decide +kernel)) rfl, wi_J0, gw_of (List.mem_of_getElem? (i := 369) (by decide +kernel)) rfl⟩, by decide +kernel⟩
theorem ok_J1_charAt_3b067 : okS yJ1_charAt_3b067 cJ1_charAt_3b067 2 (some .char) 2 := ⟨⟨gw_of (List.mem_of_getElem? (i := 365) (by decide +kernel)) rfl, wi_J1, gw_of (List.mem_of_getElem? (i := 366) (by decide +kernel)) rfl⟩, by decide +kernel⟩
theorem ok_J2_getChar_3b067 : okS yJ2_getChar_3b067 cJ2_getChar_3b067 2 (some .char) 2 := ⟨⟨gw_of (List.mem_of_getElem? (i := 386) (by decide +kernel)) rfl, wi_J2, gw_of (List.mem_of_getElem? (i := 387) (by decide +kernel)) rfl⟩, by decide +kernel⟩
theorem ok_J2_length_9d52b : okS yJ2_length_9d52b cJ2_length_9d52b 1 (some .int) 1 := ⟨⟨gw_of (List.mem_of_getElem? (i := 382) (by decide +kernel)) rfl, wi_J2, gw_of (List.mem_of_getElem? (i := 383) (by decide +kernel)) rfl⟩, by decide +kernel⟩
theorem ok_J2_charAt_3b067 : okS yJ2_charAt_3b067 cJ2_charAt_3b067 2 (some .char) 2 := ⟨⟨gw_of (List.mem_of_getElem? (i := 376) (by decide +kernel)) rfl, wi_J2, gw_of (List.mem_of_getElem? (i := 377) (by decide +kernel)) rfl⟩, by decide +kernel⟩
theorem ok_J2_checkIndex_2214a : okS yJ2_checkIndex_2214a cJ2_checkIndex_2214a 2 none 2 := ⟨⟨gw_of (List.mem_of_getElem? (i := 379) (by decide +kernel)) rfl, wi_J2, gw_of (List.mem_of_getElem? (i := 380) (by decide +kernel)) rfl⟩, by decide +kernel⟩
theorem ok_J3_checkIndex_8e157 : okS yJ3_checkIndex_8e157 cJ3_checkIndex_8e157 3 (some .int) 3 := ⟨⟨gw_of (List.mem_of_getElem? (i := 373) (by decide +kernel)) rfl, wi_J3, gw_of (List.mem_of_getElem? (i := 374) (by decide +kernel)) rfl⟩, by decide +kernel⟩
theorem ug_X0 : ∀ w ∈ u_ws RX0 TX0 7, w ∈ GW := by
  have h1 : ∀ w ∈ u_ws RX0 TX0 7, w ∈ tables_1 := by decide +kernel
  have h2 : ∀ w ∈ u_ws RX0 TX0 7, goodWord w = true := by decide +kernel
  exact fun w h => gw_of (h1 w h) (h2 w h)
theorem ug_X1 : ∀ w ∈ u_ws RX1 TX1 2, w ∈ GW := by
  have h1 : ∀ w ∈ u_ws RX1 TX1 2, w ∈ tables_1 := by decide +kernel
  have h2 : ∀ w ∈ u_ws RX1 TX1 2, goodWord w = true := by decide +kernel
  exact fun w h => gw_of (h1 w h) (h2 w h)
theorem ug_X2 : ∀ w ∈ u_ws RX2 TX2 10, w ∈ GW := by
  have h1 : ∀ w ∈ u_ws RX2 TX2 10, w ∈ tables_1 := by decide +kernel
  have h2 : ∀ w ∈ u_ws RX2 TX2 10, goodWord w = true := by decide +kernel
  exact fun w h => gw_of (h1 w h) (h2 w h)
theorem ug_X3 : ∀ w ∈ u_ws RX3 TX3 6, w ∈ GW := by
  have h1 : ∀ w ∈ u_ws RX3 TX3 6, w ∈ tables_1 := by decide +kernel
  have h2 : ∀ w ∈ u_ws RX3 TX3 6, goodWord w = true := by decide +kernel
  exact fun w h => gw_of (h1 w h) (h2 w h)
theorem ug_X4 : ∀ w ∈ u_ws RX4 TX4 4, w ∈ GW := by
  have h1 : ∀ w ∈ u_ws RX4 TX4 4, w ∈ tables_1 := by decide +kernel
  have h2 : ∀ w ∈ u_ws RX4 TX4 4, goodWord w = true := by decide +kernel
  exact fun w h => gw_of (h1 w h) (h2 w h)
theorem ug_X5 : ∀ w ∈ u_ws RX5 TX5 11, w ∈ GW := by
  have h1 : ∀ w ∈ u_ws RX5 TX5 11, w ∈ tables_1 := by decide +kernel
  have h2 : ∀ w ∈ u_ws RX5 TX5 11, goodWord w = true := by decide +kernel
  exact fun w h => gw_of (h1 w h) (h2 w h)
theorem ug_X6 : ∀ w ∈ u_ws RX6 TX6 7, w ∈ GW := by
  have h1 : ∀ w ∈ u_ws RX6 TX6 7, w ∈ tables_1 := by decide +kernel
  have h2 : ∀ w ∈ u_ws RX6 TX6 7, goodWord w = true := by decide +kernel
  exact fun w h => gw_of (h1 w h) (h2 w h)
theorem ug_X7 : ∀ w ∈ u_ws RX7 TX7 2, w ∈ GW := by
  have h1 : ∀ w ∈ u_ws RX7 TX7 2, w ∈ tables_1 := by decide +kernel
  have h2 : ∀ w ∈ u_ws RX7 TX7 2, goodWord w = true := by decide +kernel
  exact fun w h => gw_of (h1 w h) (h2 w h)
theorem ug_X8 : ∀ w ∈ u_ws RX8 TX8 8, w ∈ GW := by
  have h1 : ∀ w ∈ u_ws RX8 TX8 8, w ∈ tables_1 := by decide +kernel
  have h2 : ∀ w ∈ u_ws RX8 TX8 8, goodWord w = true := by decide +kernel
  exact fun w h => gw_of (h1 w h) (h2 w h)
theorem ug_X9 : ∀ w ∈ u_ws RX9 TX9 42, w ∈ GW := by
  have h1 : ∀ w ∈ u_ws RX9 TX9 42, w ∈ tables_1 := by decide +kernel
  have h2 : ∀ w ∈ u_ws RX9 TX9 42, goodWord w = true := by decide +kernel
  exact fun w h => gw_of (h1 w h) (h2 w h)
