/-! THE WORDS, BY THEIR PLACES IN THE TABLES; written by wip/whole/gen_tab.py -/
theorem tw0 : Cond.selects RX2 yX2_nextRow yX2_nextRow ∈ zT := zT_i (List.mem_of_getElem? (i := 0) (by decide +kernel)) rfl
theorem tw1 : Cond.selects RX6 yX6_addBlock yX6_addBlock ∈ zT := zT_i (List.mem_of_getElem? (i := 1) (by decide +kernel)) rfl
theorem tw2 : Cond.selects RX6 yX6_addPiece yX6_addPiece ∈ zT := zT_i (List.mem_of_getElem? (i := 2) (by decide +kernel)) rfl
theorem tw3 : Cond.selects RX1 yX1_isWithinOver yX1_isWithinOver ∈ zT := zT_i (List.mem_of_getElem? (i := 3) (by decide +kernel)) rfl
theorem tw4 : Cond.selects RX1 yX1_weightAt yX1_weightAt ∈ zT := zT_i (List.mem_of_getElem? (i := 4) (by decide +kernel)) rfl
theorem tw5 : Cond.selects RX6 yX6_deliver yX6_deliver ∈ zT := zT_i (List.mem_of_getElem? (i := 5) (by decide +kernel)) rfl
theorem tw6 : Cond.selects RX6 yX6_crackBlocks yX6_crackBlocks ∈ zT := zT_i (List.mem_of_getElem? (i := 6) (by decide +kernel)) rfl
theorem tw7 : Cond.selects RX6 yX6_dryBlocks yX6_dryBlocks ∈ zT := zT_i (List.mem_of_getElem? (i := 7) (by decide +kernel)) rfl
theorem tw8 : Cond.selects RX1 yX1_greaterShare yX1_greaterShare ∈ zT := zT_i (List.mem_of_getElem? (i := 8) (by decide +kernel)) rfl
theorem tw9 : Cond.initialized RL ∈ zT := zT_i (List.mem_of_getElem? (i := 9) (by decide +kernel)) rfl
theorem tw10 : Cond.initialized RX7 ∈ zT := zT_i (List.mem_of_getElem? (i := 10) (by decide +kernel)) rfl
theorem tw11 : Cond.initialized RX5 ∈ zT := zT_i (List.mem_of_getElem? (i := 11) (by decide +kernel)) rfl
theorem tw12 : Cond.initialized RX1 ∈ zT := zT_i (List.mem_of_getElem? (i := 12) (by decide +kernel)) rfl
theorem tw13 : Cond.initialized RX6 ∈ zT := zT_i (List.mem_of_getElem? (i := 13) (by decide +kernel)) rfl
theorem tw14 : Cond.initialized RX2 ∈ zT := zT_i (List.mem_of_getElem? (i := 14) (by decide +kernel)) rfl
theorem tw15 : Cond.initialized RX4 ∈ zT := zT_i (List.mem_of_getElem? (i := 15) (by decide +kernel)) rfl
theorem tw16 : Cond.initialized RX3 ∈ zT := zT_i (List.mem_of_getElem? (i := 16) (by decide +kernel)) rfl
theorem tw17 : Cond.initialized RX0 ∈ zT := zT_i (List.mem_of_getElem? (i := 17) (by decide +kernel)) rfl
theorem tw18 : Cond.initialized RJ9 ∈ zT := zT_i (List.mem_of_getElem? (i := 18) (by decide +kernel)) rfl
theorem tw19 : Cond.initialized RJ10 ∈ zT := zT_i (List.mem_of_getElem? (i := 19) (by decide +kernel)) rfl
theorem tw20 : Cond.initialized RJ6 ∈ zT := zT_i (List.mem_of_getElem? (i := 20) (by decide +kernel)) rfl
theorem tw21 : Cond.classLink RL 10 RX7 ∈ zT := zT_i (List.mem_of_getElem? (i := 21) (by decide +kernel)) rfl
theorem tw22 : Cond.instantiable RX7 6 ∈ zT := zT_i (List.mem_of_getElem? (i := 22) (by decide +kernel)) rfl
theorem tw23 : Cond.methodLink RL 120 yX7_init ∈ zT := zT_i (List.mem_of_getElem? (i := 23) (by decide +kernel)) rfl
theorem tw24 : Cond.instanceMethod yX7_init ∈ zT := zT_i (List.mem_of_getElem? (i := 24) (by decide +kernel)) rfl
theorem tw25 : Cond.code yX7_init cX7_init 1 none ∈ zT := zT_i (List.mem_of_getElem? (i := 25) (by decide +kernel)) rfl
theorem tw26 : Cond.methodLink RX7 3 objectInit ∈ zT := zT_i (List.mem_of_getElem? (i := 26) (by decide +kernel)) rfl
theorem tw27 : Cond.instanceMethod objectInit ∈ zT := zT_i (List.mem_of_getElem? (i := 27) (by decide +kernel)) rfl
theorem tw28 : Cond.code objectInit object_method_1_code 1 none ∈ zT := zT_i (List.mem_of_getElem? (i := 28) (by decide +kernel)) rfl
theorem tw29 : Cond.classLink RX7 9 RX5 ∈ zT := zT_i (List.mem_of_getElem? (i := 29) (by decide +kernel)) rfl
theorem tw30 : Cond.instantiable RX5 1 ∈ zT := zT_i (List.mem_of_getElem? (i := 30) (by decide +kernel)) rfl
theorem tw31 : Cond.methodLink RX7 11 yX5_init ∈ zT := zT_i (List.mem_of_getElem? (i := 31) (by decide +kernel)) rfl
theorem tw32 : Cond.instanceMethod yX5_init ∈ zT := zT_i (List.mem_of_getElem? (i := 32) (by decide +kernel)) rfl
theorem tw33 : Cond.code yX5_init cX5_init 2 none ∈ zT := zT_i (List.mem_of_getElem? (i := 33) (by decide +kernel)) rfl
theorem tw34 : Cond.methodLink RX5 3 objectInit ∈ zT := zT_i (List.mem_of_getElem? (i := 34) (by decide +kernel)) rfl
theorem tw35 : Cond.methodLink RX5 15 yX5_setCell ∈ zT := zT_i (List.mem_of_getElem? (i := 35) (by decide +kernel)) rfl
theorem tw36 : Cond.instanceMethod yX5_setCell ∈ zT := zT_i (List.mem_of_getElem? (i := 36) (by decide +kernel)) rfl
theorem tw37 : Cond.selects RX5 yX5_setCell yX5_setCell ∈ zT := zT_i (List.mem_of_getElem? (i := 37) (by decide +kernel)) rfl
theorem tw38 : Cond.code yX5_setCell cX5_setCell 3 none ∈ zT := zT_i (List.mem_of_getElem? (i := 38) (by decide +kernel)) rfl
theorem tw39 : Cond.methodLink RX5 19 yX5_setLorryCell ∈ zT := zT_i (List.mem_of_getElem? (i := 39) (by decide +kernel)) rfl
theorem tw40 : Cond.instanceMethod yX5_setLorryCell ∈ zT := zT_i (List.mem_of_getElem? (i := 40) (by decide +kernel)) rfl
theorem tw41 : Cond.selects RX5 yX5_setLorryCell yX5_setLorryCell ∈ zT := zT_i (List.mem_of_getElem? (i := 41) (by decide +kernel)) rfl
theorem tw42 : Cond.code yX5_setLorryCell cX5_setLorryCell 4 none ∈ zT := zT_i (List.mem_of_getElem? (i := 42) (by decide +kernel)) rfl
theorem tw43 : Cond.fieldLink RX5 9 "QuarryOrders$State" "cells" "[I" ∈ zT := zT_i (List.mem_of_getElem? (i := 43) (by decide +kernel)) rfl
theorem tw47 : Cond.arrayClass .int ∈ zT := zT_i (List.mem_of_getElem? (i := 47) (by decide +kernel)) rfl
theorem tw48 : Cond.classLink RX7 16 RX1 ∈ zT := zT_i (List.mem_of_getElem? (i := 48) (by decide +kernel)) rfl
theorem tw49 : Cond.instantiable RX1 1 ∈ zT := zT_i (List.mem_of_getElem? (i := 49) (by decide +kernel)) rfl
theorem tw50 : Cond.methodLink RX7 18 yX1_init ∈ zT := zT_i (List.mem_of_getElem? (i := 50) (by decide +kernel)) rfl
theorem tw51 : Cond.instanceMethod yX1_init ∈ zT := zT_i (List.mem_of_getElem? (i := 51) (by decide +kernel)) rfl
theorem tw52 : Cond.code yX1_init cX1_init 2 none ∈ zT := zT_i (List.mem_of_getElem? (i := 52) (by decide +kernel)) rfl
theorem tw53 : Cond.methodLink RX1 3 objectInit ∈ zT := zT_i (List.mem_of_getElem? (i := 53) (by decide +kernel)) rfl
theorem tw54 : Cond.fieldLink RX1 9 "QuarryOrders$Facts" "state" "LQuarryOrders$State;" ∈ zT := zT_i (List.mem_of_getElem? (i := 54) (by decide +kernel)) rfl
theorem tw58 : Cond.classLink RX7 25 RX6 ∈ zT := zT_i (List.mem_of_getElem? (i := 58) (by decide +kernel)) rfl
theorem tw59 : Cond.instantiable RX6 2 ∈ zT := zT_i (List.mem_of_getElem? (i := 59) (by decide +kernel)) rfl
theorem tw60 : Cond.methodLink RX7 27 yX6_init ∈ zT := zT_i (List.mem_of_getElem? (i := 60) (by decide +kernel)) rfl
theorem tw61 : Cond.instanceMethod yX6_init ∈ zT := zT_i (List.mem_of_getElem? (i := 61) (by decide +kernel)) rfl
theorem tw62 : Cond.code yX6_init cX6_init 3 none ∈ zT := zT_i (List.mem_of_getElem? (i := 62) (by decide +kernel)) rfl
theorem tw63 : Cond.methodLink RX6 3 objectInit ∈ zT := zT_i (List.mem_of_getElem? (i := 63) (by decide +kernel)) rfl
theorem tw64 : Cond.fieldLink RX6 9 "QuarryOrders$Works" "state" "LQuarryOrders$State;" ∈ zT := zT_i (List.mem_of_getElem? (i := 64) (by decide +kernel)) rfl
theorem tw65 : Cond.fieldLink RX6 15 "QuarryOrders$Works" "facts" "LQuarryOrders$Facts;" ∈ zT := zT_i (List.mem_of_getElem? (i := 65) (by decide +kernel)) rfl
theorem tw71 : Cond.classLink RX7 34 RX2 ∈ zT := zT_i (List.mem_of_getElem? (i := 71) (by decide +kernel)) rfl
theorem tw72 : Cond.instantiable RX2 3 ∈ zT := zT_i (List.mem_of_getElem? (i := 72) (by decide +kernel)) rfl
theorem tw73 : Cond.methodLinkNest RX7 36 yX2_init RX7 ∈ lw_tbl := List.mem_of_getElem? (i := 73) (by decide +kernel)
theorem tw74 : Cond.instanceMethod yX2_init ∈ zT := zT_i (List.mem_of_getElem? (i := 74) (by decide +kernel)) rfl
theorem tw75 : Cond.code yX2_init cX2_init 1 none ∈ zT := zT_i (List.mem_of_getElem? (i := 75) (by decide +kernel)) rfl
theorem tw76 : Cond.methodLink RX2 3 objectInit ∈ zT := zT_i (List.mem_of_getElem? (i := 76) (by decide +kernel)) rfl
theorem tw77 : Cond.classLink RX2 9 "[[I" ∈ zT := zT_i (List.mem_of_getElem? (i := 77) (by decide +kernel)) rfl
theorem tw78 : Cond.arrayOver (.array .int) ∈ lw_tbl := List.mem_of_getElem? (i := 78) (by decide +kernel)
theorem tw79 : Cond.fieldLink RX2 11 "QuarryOrders$History" "rows" "[[I" ∈ zT := zT_i (List.mem_of_getElem? (i := 79) (by decide +kernel)) rfl
theorem tw80 : Cond.fieldLink RX2 16 "QuarryOrders$History" "next" "I" ∈ zT := zT_i (List.mem_of_getElem? (i := 80) (by decide +kernel)) rfl
theorem tw81 : Cond.fieldLink RX2 20 "QuarryOrders$History" "size" "I" ∈ zT := zT_i (List.mem_of_getElem? (i := 81) (by decide +kernel)) rfl
theorem tw89 : Cond.classLink RX7 41 RX4 ∈ zT := zT_i (List.mem_of_getElem? (i := 89) (by decide +kernel)) rfl
theorem tw90 : Cond.instantiable RX4 2 ∈ zT := zT_i (List.mem_of_getElem? (i := 90) (by decide +kernel)) rfl
theorem tw91 : Cond.methodLinkNest RX7 43 yX4_init RX7 ∈ lw_tbl := List.mem_of_getElem? (i := 91) (by decide +kernel)
theorem tw92 : Cond.instanceMethod yX4_init ∈ zT := zT_i (List.mem_of_getElem? (i := 92) (by decide +kernel)) rfl
theorem tw93 : Cond.code yX4_init cX4_init 1 none ∈ zT := zT_i (List.mem_of_getElem? (i := 93) (by decide +kernel)) rfl
theorem tw94 : Cond.methodLink RX4 3 objectInit ∈ zT := zT_i (List.mem_of_getElem? (i := 94) (by decide +kernel)) rfl
theorem tw95 : Cond.classLink RX4 9 "[[I" ∈ zT := zT_i (List.mem_of_getElem? (i := 95) (by decide +kernel)) rfl
theorem tw96 : Cond.fieldLink RX4 11 "QuarryOrders$Slots" "rows" "[[I" ∈ zT := zT_i (List.mem_of_getElem? (i := 96) (by decide +kernel)) rfl
theorem tw97 : Cond.fieldLink RX4 16 "QuarryOrders$Slots" "filled" "[Z" ∈ zT := zT_i (List.mem_of_getElem? (i := 97) (by decide +kernel)) rfl
theorem tw103 : Cond.arrayClass .boolean ∈ zT := zT_i (List.mem_of_getElem? (i := 103) (by decide +kernel)) rfl
theorem tw104 : Cond.classLink RX7 48 RX3 ∈ zT := zT_i (List.mem_of_getElem? (i := 104) (by decide +kernel)) rfl
theorem tw105 : Cond.instantiable RX3 7 ∈ zT := zT_i (List.mem_of_getElem? (i := 105) (by decide +kernel)) rfl
theorem tw106 : Cond.methodLinkNest RX7 50 yX3_init RX7 ∈ lw_tbl := List.mem_of_getElem? (i := 106) (by decide +kernel)
theorem tw107 : Cond.instanceMethod yX3_init ∈ zT := zT_i (List.mem_of_getElem? (i := 107) (by decide +kernel)) rfl
theorem tw108 : Cond.code yX3_init cX3_init 1 none ∈ zT := zT_i (List.mem_of_getElem? (i := 108) (by decide +kernel)) rfl
theorem tw109 : Cond.methodLink RX3 3 objectInit ∈ zT := zT_i (List.mem_of_getElem? (i := 109) (by decide +kernel)) rfl
theorem tw110 : Cond.fieldLink RX3 9 "QuarryOrders$Pad" "signs" "[C" ∈ zT := zT_i (List.mem_of_getElem? (i := 110) (by decide +kernel)) rfl
theorem tw111 : Cond.fieldLink RX3 15 "QuarryOrders$Pad" "length" "I" ∈ zT := zT_i (List.mem_of_getElem? (i := 111) (by decide +kernel)) rfl
theorem tw112 : Cond.fieldLink RX3 19 "QuarryOrders$Pad" "at" "I" ∈ zT := zT_i (List.mem_of_getElem? (i := 112) (by decide +kernel)) rfl
theorem tw113 : Cond.fieldLink RX3 22 "QuarryOrders$Pad" "kind" "I" ∈ zT := zT_i (List.mem_of_getElem? (i := 113) (by decide +kernel)) rfl
theorem tw114 : Cond.fieldLink RX3 25 "QuarryOrders$Pad" "numbers" "[I" ∈ zT := zT_i (List.mem_of_getElem? (i := 114) (by decide +kernel)) rfl
theorem tw115 : Cond.fieldLink RX3 29 "QuarryOrders$Pad" "found" "I" ∈ zT := zT_i (List.mem_of_getElem? (i := 115) (by decide +kernel)) rfl
theorem tw116 : Cond.fieldLink RX3 32 "QuarryOrders$Pad" "negative" "Z" ∈ zT := zT_i (List.mem_of_getElem? (i := 116) (by decide +kernel)) rfl
theorem tw132 : Cond.arrayClass .char ∈ zT := zT_i (List.mem_of_getElem? (i := 132) (by decide +kernel)) rfl
theorem tw133 : Cond.fieldLink RX7 12 "QuarryOrders" "state" "LQuarryOrders$State;" ∈ zT := zT_i (List.mem_of_getElem? (i := 133) (by decide +kernel)) rfl
theorem tw134 : Cond.fieldLink RX7 21 "QuarryOrders" "facts" "LQuarryOrders$Facts;" ∈ zT := zT_i (List.mem_of_getElem? (i := 134) (by decide +kernel)) rfl
theorem tw135 : Cond.fieldLink RX7 30 "QuarryOrders" "works" "LQuarryOrders$Works;" ∈ zT := zT_i (List.mem_of_getElem? (i := 135) (by decide +kernel)) rfl
theorem tw136 : Cond.fieldLink RX7 37 "QuarryOrders" "history" "LQuarryOrders$History;" ∈ zT := zT_i (List.mem_of_getElem? (i := 136) (by decide +kernel)) rfl
theorem tw137 : Cond.fieldLink RX7 44 "QuarryOrders" "slots" "LQuarryOrders$Slots;" ∈ zT := zT_i (List.mem_of_getElem? (i := 137) (by decide +kernel)) rfl
theorem tw138 : Cond.fieldLink RX7 51 "QuarryOrders" "pad" "LQuarryOrders$Pad;" ∈ zT := zT_i (List.mem_of_getElem? (i := 138) (by decide +kernel)) rfl
theorem tw152 : Cond.methodLink RL 9 yX7_count ∈ zT := zT_i (List.mem_of_getElem? (i := 152) (by decide +kernel)) rfl
theorem tw153 : Cond.instanceMethod yX7_count ∈ zT := zT_i (List.mem_of_getElem? (i := 153) (by decide +kernel)) rfl
theorem tw154 : Cond.selects RX7 yX7_count yX7_count ∈ zT := zT_i (List.mem_of_getElem? (i := 154) (by decide +kernel)) rfl
theorem tw155 : Cond.code yX7_count cX7_count 2 (some .int) ∈ zT := zT_i (List.mem_of_getElem? (i := 155) (by decide +kernel)) rfl
theorem tw156 : Cond.methodLink RX7 142 yX5_cell ∈ zT := zT_i (List.mem_of_getElem? (i := 156) (by decide +kernel)) rfl
theorem tw157 : Cond.instanceMethod yX5_cell ∈ zT := zT_i (List.mem_of_getElem? (i := 157) (by decide +kernel)) rfl
theorem tw158 : Cond.selects RX5 yX5_cell yX5_cell ∈ zT := zT_i (List.mem_of_getElem? (i := 158) (by decide +kernel)) rfl
theorem tw159 : Cond.code yX5_cell cX5_cell 2 (some .int) ∈ zT := zT_i (List.mem_of_getElem? (i := 159) (by decide +kernel)) rfl
theorem tw160 : Cond.methodLink RX7 145 yX5_blocksWith ∈ zT := zT_i (List.mem_of_getElem? (i := 160) (by decide +kernel)) rfl
theorem tw161 : Cond.instanceMethod yX5_blocksWith ∈ zT := zT_i (List.mem_of_getElem? (i := 161) (by decide +kernel)) rfl
theorem tw162 : Cond.selects RX5 yX5_blocksWith yX5_blocksWith ∈ zT := zT_i (List.mem_of_getElem? (i := 162) (by decide +kernel)) rfl
theorem tw163 : Cond.code yX5_blocksWith cX5_blocksWith 6 (some .int) ∈ zT := zT_i (List.mem_of_getElem? (i := 163) (by decide +kernel)) rfl
theorem tw164 : Cond.methodLink RX5 23 yX5_cell ∈ zT := zT_i (List.mem_of_getElem? (i := 164) (by decide +kernel)) rfl
theorem tw165 : Cond.methodLink RX5 27 yX5_blockCell ∈ zT := zT_i (List.mem_of_getElem? (i := 165) (by decide +kernel)) rfl
theorem tw166 : Cond.instanceMethod yX5_blockCell ∈ zT := zT_i (List.mem_of_getElem? (i := 166) (by decide +kernel)) rfl
theorem tw167 : Cond.selects RX5 yX5_blockCell yX5_blockCell ∈ zT := zT_i (List.mem_of_getElem? (i := 167) (by decide +kernel)) rfl
theorem tw168 : Cond.code yX5_blockCell cX5_blockCell 4 (some .int) ∈ zT := zT_i (List.mem_of_getElem? (i := 168) (by decide +kernel)) rfl
theorem tw169 : Cond.methodLink RX7 148 yX1_uncutBlocks ∈ zT := zT_i (List.mem_of_getElem? (i := 169) (by decide +kernel)) rfl
theorem tw170 : Cond.instanceMethod yX1_uncutBlocks ∈ zT := zT_i (List.mem_of_getElem? (i := 170) (by decide +kernel)) rfl
theorem tw171 : Cond.selects RX1 yX1_uncutBlocks yX1_uncutBlocks ∈ zT := zT_i (List.mem_of_getElem? (i := 171) (by decide +kernel)) rfl
theorem tw172 : Cond.code yX1_uncutBlocks cX1_uncutBlocks 2 (some .int) ∈ zT := zT_i (List.mem_of_getElem? (i := 172) (by decide +kernel)) rfl
theorem tw173 : Cond.methodLink RX1 15 yX5_cell ∈ zT := zT_i (List.mem_of_getElem? (i := 173) (by decide +kernel)) rfl
theorem tw174 : Cond.methodLink RX1 25 yX5_blocksWith ∈ zT := zT_i (List.mem_of_getElem? (i := 174) (by decide +kernel)) rfl
theorem tw175 : Cond.methodLink RX7 152 yX1_quarriedWeight ∈ zT := zT_i (List.mem_of_getElem? (i := 175) (by decide +kernel)) rfl
theorem tw176 : Cond.instanceMethod yX1_quarriedWeight ∈ zT := zT_i (List.mem_of_getElem? (i := 176) (by decide +kernel)) rfl
theorem tw177 : Cond.selects RX1 yX1_quarriedWeight yX1_quarriedWeight ∈ zT := zT_i (List.mem_of_getElem? (i := 177) (by decide +kernel)) rfl
theorem tw178 : Cond.code yX1_quarriedWeight cX1_quarriedWeight 1 (some .int) ∈ zT := zT_i (List.mem_of_getElem? (i := 178) (by decide +kernel)) rfl
theorem tw179 : Cond.methodLink RX1 32 yX1_weightOf ∈ zT := zT_i (List.mem_of_getElem? (i := 179) (by decide +kernel)) rfl
theorem tw180 : Cond.instanceMethod yX1_weightOf ∈ zT := zT_i (List.mem_of_getElem? (i := 180) (by decide +kernel)) rfl
theorem tw181 : Cond.selects RX1 yX1_weightOf yX1_weightOf ∈ zT := zT_i (List.mem_of_getElem? (i := 181) (by decide +kernel)) rfl
theorem tw182 : Cond.code yX1_weightOf cX1_weightOf 5 (some .int) ∈ zT := zT_i (List.mem_of_getElem? (i := 182) (by decide +kernel)) rfl
theorem tw183 : Cond.methodLink RX1 21 yX5_blockCell ∈ zT := zT_i (List.mem_of_getElem? (i := 183) (by decide +kernel)) rfl
theorem tw184 : Cond.methodLink RX7 155 yX1_uncutWeight ∈ zT := zT_i (List.mem_of_getElem? (i := 184) (by decide +kernel)) rfl
theorem tw185 : Cond.instanceMethod yX1_uncutWeight ∈ zT := zT_i (List.mem_of_getElem? (i := 185) (by decide +kernel)) rfl
theorem tw186 : Cond.selects RX1 yX1_uncutWeight yX1_uncutWeight ∈ zT := zT_i (List.mem_of_getElem? (i := 186) (by decide +kernel)) rfl
theorem tw187 : Cond.code yX1_uncutWeight cX1_uncutWeight 1 (some .int) ∈ zT := zT_i (List.mem_of_getElem? (i := 187) (by decide +kernel)) rfl
theorem tw188 : Cond.methodLink RX1 28 yX1_uncutBlocks ∈ zT := zT_i (List.mem_of_getElem? (i := 188) (by decide +kernel)) rfl
theorem tw189 : Cond.methodLink RX7 158 yX1_lostWeight ∈ zT := zT_i (List.mem_of_getElem? (i := 189) (by decide +kernel)) rfl
theorem tw190 : Cond.instanceMethod yX1_lostWeight ∈ zT := zT_i (List.mem_of_getElem? (i := 190) (by decide +kernel)) rfl
theorem tw191 : Cond.selects RX1 yX1_lostWeight yX1_lostWeight ∈ zT := zT_i (List.mem_of_getElem? (i := 191) (by decide +kernel)) rfl
theorem tw192 : Cond.code yX1_lostWeight cX1_lostWeight 1 (some .int) ∈ zT := zT_i (List.mem_of_getElem? (i := 192) (by decide +kernel)) rfl
theorem tw193 : Cond.methodLink RX1 35 yX1_quarriedWeight ∈ zT := zT_i (List.mem_of_getElem? (i := 193) (by decide +kernel)) rfl
theorem tw194 : Cond.methodLink RX1 38 yX1_uncutWeight ∈ zT := zT_i (List.mem_of_getElem? (i := 194) (by decide +kernel)) rfl
theorem tw195 : Cond.methodLink RX7 161 yX1_weightOf ∈ zT := zT_i (List.mem_of_getElem? (i := 195) (by decide +kernel)) rfl
theorem tw196 : Cond.methodLink RX7 164 yX1_allInvoices ∈ zT := zT_i (List.mem_of_getElem? (i := 196) (by decide +kernel)) rfl
theorem tw197 : Cond.instanceMethod yX1_allInvoices ∈ zT := zT_i (List.mem_of_getElem? (i := 197) (by decide +kernel)) rfl
theorem tw198 : Cond.selects RX1 yX1_allInvoices yX1_allInvoices ∈ zT := zT_i (List.mem_of_getElem? (i := 198) (by decide +kernel)) rfl
theorem tw199 : Cond.code yX1_allInvoices cX1_allInvoices 4 (some .int) ∈ zT := zT_i (List.mem_of_getElem? (i := 199) (by decide +kernel)) rfl
theorem tw200 : Cond.methodLink RX1 41 yX5_orderCell ∈ zT := zT_i (List.mem_of_getElem? (i := 200) (by decide +kernel)) rfl
theorem tw201 : Cond.instanceMethod yX5_orderCell ∈ zT := zT_i (List.mem_of_getElem? (i := 201) (by decide +kernel)) rfl
theorem tw202 : Cond.selects RX5 yX5_orderCell yX5_orderCell ∈ zT := zT_i (List.mem_of_getElem? (i := 202) (by decide +kernel)) rfl
theorem tw203 : Cond.code yX5_orderCell cX5_orderCell 3 (some .int) ∈ zT := zT_i (List.mem_of_getElem? (i := 203) (by decide +kernel)) rfl
theorem tw204 : Cond.methodLink RX7 167 yX3_length ∈ zT := zT_i (List.mem_of_getElem? (i := 204) (by decide +kernel)) rfl
theorem tw205 : Cond.instanceMethod yX3_length ∈ zT := zT_i (List.mem_of_getElem? (i := 205) (by decide +kernel)) rfl
theorem tw206 : Cond.selects RX3 yX3_length yX3_length ∈ zT := zT_i (List.mem_of_getElem? (i := 206) (by decide +kernel)) rfl
theorem tw207 : Cond.code yX3_length cX3_length 1 (some .int) ∈ zT := zT_i (List.mem_of_getElem? (i := 207) (by decide +kernel)) rfl
theorem tw208 : Cond.methodLink RX7 170 yX2_size ∈ zT := zT_i (List.mem_of_getElem? (i := 208) (by decide +kernel)) rfl
theorem tw209 : Cond.instanceMethod yX2_size ∈ zT := zT_i (List.mem_of_getElem? (i := 209) (by decide +kernel)) rfl
theorem tw210 : Cond.selects RX2 yX2_size yX2_size ∈ zT := zT_i (List.mem_of_getElem? (i := 210) (by decide +kernel)) rfl
theorem tw211 : Cond.code yX2_size cX2_size 1 (some .int) ∈ zT := zT_i (List.mem_of_getElem? (i := 211) (by decide +kernel)) rfl
theorem tw212 : Cond.methodLink RL 125 yX7_meanWeight ∈ zT := zT_i (List.mem_of_getElem? (i := 212) (by decide +kernel)) rfl
theorem tw213 : Cond.instanceMethod yX7_meanWeight ∈ zT := zT_i (List.mem_of_getElem? (i := 213) (by decide +kernel)) rfl
theorem tw214 : Cond.selects RX7 yX7_meanWeight yX7_meanWeight ∈ zT := zT_i (List.mem_of_getElem? (i := 214) (by decide +kernel)) rfl
theorem tw215 : Cond.code yX7_meanWeight cX7_meanWeight 2 (some .long) ∈ zT := zT_i (List.mem_of_getElem? (i := 215) (by decide +kernel)) rfl
theorem tw216 : Cond.methodLink RX7 173 yJ6_bitCount_0f7a4 ∈ zT := zT_i (List.mem_of_getElem? (i := 216) (by decide +kernel)) rfl
theorem tw217 : Cond.static yJ6_bitCount_0f7a4 ∈ zT := zT_i (List.mem_of_getElem? (i := 217) (by decide +kernel)) rfl
theorem tw218 : Cond.code yJ6_bitCount_0f7a4 cJ6_bitCount_0f7a4 1 (some .int) ∈ zT := zT_i (List.mem_of_getElem? (i := 218) (by decide +kernel)) rfl
theorem tw219 : Cond.constant RJ6 265 (1431655765) ∈ zT := zT_i (List.mem_of_getElem? (i := 219) (by decide +kernel)) rfl
theorem tw220 : Cond.constant RJ6 266 (858993459) ∈ zT := zT_i (List.mem_of_getElem? (i := 220) (by decide +kernel)) rfl
theorem tw221 : Cond.constant RJ6 267 (252645135) ∈ zT := zT_i (List.mem_of_getElem? (i := 221) (by decide +kernel)) rfl
theorem tw222 : Cond.methodLink RX7 178 yX0_ofDouble ∈ zT := zT_i (List.mem_of_getElem? (i := 222) (by decide +kernel)) rfl
theorem tw223 : Cond.static yX0_ofDouble ∈ zT := zT_i (List.mem_of_getElem? (i := 223) (by decide +kernel)) rfl
theorem tw224 : Cond.code yX0_ofDouble cX0_ofDouble 7 (some .long) ∈ zT := zT_i (List.mem_of_getElem? (i := 224) (by decide +kernel)) rfl
theorem tw225 : Cond.constantLong RX0 10 (1023) ∈ zT := zT_i (List.mem_of_getElem? (i := 225) (by decide +kernel)) rfl
theorem tw226 : Cond.constantDouble RX0 12 (4611686018427387904) ∈ zT := zT_i (List.mem_of_getElem? (i := 226) (by decide +kernel)) rfl
theorem tw227 : Cond.constantDouble RX0 14 (4841369599423283200) ∈ zT := zT_i (List.mem_of_getElem? (i := 227) (by decide +kernel)) rfl
theorem tw228 : Cond.methodLink RL 99 yX7_undo ∈ zT := zT_i (List.mem_of_getElem? (i := 228) (by decide +kernel)) rfl
theorem tw229 : Cond.instanceMethod yX7_undo ∈ zT := zT_i (List.mem_of_getElem? (i := 229) (by decide +kernel)) rfl
theorem tw230 : Cond.selects RX7 yX7_undo yX7_undo ∈ zT := zT_i (List.mem_of_getElem? (i := 230) (by decide +kernel)) rfl
theorem tw231 : Cond.code yX7_undo cX7_undo 1 (some .int) ∈ zT := zT_i (List.mem_of_getElem? (i := 231) (by decide +kernel)) rfl
theorem tw232 : Cond.methodLink RX7 229 yX2_goBack ∈ zT := zT_i (List.mem_of_getElem? (i := 232) (by decide +kernel)) rfl
theorem tw233 : Cond.instanceMethod yX2_goBack ∈ zT := zT_i (List.mem_of_getElem? (i := 233) (by decide +kernel)) rfl
theorem tw234 : Cond.selects RX2 yX2_goBack yX2_goBack ∈ zT := zT_i (List.mem_of_getElem? (i := 234) (by decide +kernel)) rfl
theorem tw235 : Cond.code yX2_goBack cX2_goBack 2 (some .int) ∈ zT := zT_i (List.mem_of_getElem? (i := 235) (by decide +kernel)) rfl
theorem tw236 : Cond.methodLink RX2 23 yX2_nextRow ∈ zT := zT_i (List.mem_of_getElem? (i := 236) (by decide +kernel)) rfl
theorem tw238 : Cond.instanceMethod yX2_nextRow ∈ zT := zT_i (List.mem_of_getElem? (i := 238) (by decide +kernel)) rfl
theorem tw239 : Cond.code yX2_nextRow cX2_nextRow 1 (some (.array .int)) ∈ zT := zT_i (List.mem_of_getElem? (i := 239) (by decide +kernel)) rfl
theorem tw240 : Cond.methodLink RX2 39 yX5_copyFrom ∈ zT := zT_i (List.mem_of_getElem? (i := 240) (by decide +kernel)) rfl
theorem tw241 : Cond.instanceMethod yX5_copyFrom ∈ zT := zT_i (List.mem_of_getElem? (i := 241) (by decide +kernel)) rfl
theorem tw242 : Cond.selects RX5 yX5_copyFrom yX5_copyFrom ∈ zT := zT_i (List.mem_of_getElem? (i := 242) (by decide +kernel)) rfl
theorem tw243 : Cond.code yX5_copyFrom cX5_copyFrom 2 none ∈ zT := zT_i (List.mem_of_getElem? (i := 243) (by decide +kernel)) rfl
theorem tw244 : Cond.methodLinkNest RX5 31 yX7_copyRow RX7 ∈ lw_tbl := List.mem_of_getElem? (i := 244) (by decide +kernel)
theorem tw245 : Cond.static yX7_copyRow ∈ zT := zT_i (List.mem_of_getElem? (i := 245) (by decide +kernel)) rfl
theorem tw246 : Cond.code yX7_copyRow cX7_copyRow 2 none ∈ zT := zT_i (List.mem_of_getElem? (i := 246) (by decide +kernel)) rfl
theorem tw247 : Cond.methodLink RX7 257 ⟨"java/lang/System", "arraycopy", "(Ljava/lang/Object;ILjava/lang/Object;II)V"⟩ ∈ zT := zT_i (List.mem_of_getElem? (i := 247) (by decide +kernel)) rfl
theorem tw248 : Cond.static ⟨"java/lang/System", "arraycopy", "(Ljava/lang/Object;ILjava/lang/Object;II)V"⟩ ∈ zT := zT_i (List.mem_of_getElem? (i := 248) (by decide +kernel)) rfl
theorem tw249 : Cond.native ⟨"java/lang/System", "arraycopy", "(Ljava/lang/Object;ILjava/lang/Object;II)V"⟩ ∈ zT := zT_i (List.mem_of_getElem? (i := 249) (by decide +kernel)) rfl
theorem tw250 : Cond.methodLink RL 129 yL_cell ∈ zT := zT_i (List.mem_of_getElem? (i := 250) (by decide +kernel)) rfl
theorem tw251 : Cond.static yL_cell ∈ zT := zT_i (List.mem_of_getElem? (i := 251) (by decide +kernel)) rfl
theorem tw252 : Cond.code yL_cell cL_cell 2 (some .int) ∈ zT := zT_i (List.mem_of_getElem? (i := 252) (by decide +kernel)) rfl
theorem tw253 : Cond.constant RL 7 (40503) ∈ zT := zT_i (List.mem_of_getElem? (i := 253) (by decide +kernel)) rfl
theorem tw254 : Cond.methodLink RL 15 yL_low ∈ zT := zT_i (List.mem_of_getElem? (i := 254) (by decide +kernel)) rfl
theorem tw255 : Cond.static yL_low ∈ zT := zT_i (List.mem_of_getElem? (i := 255) (by decide +kernel)) rfl
theorem tw256 : Cond.code yL_low cL_low 2 (some .int) ∈ zT := zT_i (List.mem_of_getElem? (i := 256) (by decide +kernel)) rfl
theorem tw257 : Cond.constant RL 8 (2147483647) ∈ zT := zT_i (List.mem_of_getElem? (i := 257) (by decide +kernel)) rfl
theorem tw258 : Cond.methodLink RL 133 yL_change ∈ zT := zT_i (List.mem_of_getElem? (i := 258) (by decide +kernel)) rfl
theorem tw259 : Cond.static yL_change ∈ zT := zT_i (List.mem_of_getElem? (i := 259) (by decide +kernel)) rfl
theorem tw260 : Cond.code yL_change cL_change 6 (some .int) ∈ zT := zT_i (List.mem_of_getElem? (i := 260) (by decide +kernel)) rfl
theorem tw261 : Cond.methodLink RL 21 yX7_quarry ∈ zT := zT_i (List.mem_of_getElem? (i := 261) (by decide +kernel)) rfl
theorem tw262 : Cond.instanceMethod yX7_quarry ∈ zT := zT_i (List.mem_of_getElem? (i := 262) (by decide +kernel)) rfl
theorem tw263 : Cond.selects RX7 yX7_quarry yX7_quarry ∈ zT := zT_i (List.mem_of_getElem? (i := 263) (by decide +kernel)) rfl
theorem tw264 : Cond.code yX7_quarry cX7_quarry 5 (some .int) ∈ zT := zT_i (List.mem_of_getElem? (i := 264) (by decide +kernel)) rfl
theorem tw265 : Cond.methodLink RX7 55 yX2_note ∈ zT := zT_i (List.mem_of_getElem? (i := 265) (by decide +kernel)) rfl
theorem tw266 : Cond.instanceMethod yX2_note ∈ zT := zT_i (List.mem_of_getElem? (i := 266) (by decide +kernel)) rfl
theorem tw267 : Cond.selects RX2 yX2_note yX2_note ∈ zT := zT_i (List.mem_of_getElem? (i := 267) (by decide +kernel)) rfl
theorem tw268 : Cond.code yX2_note cX2_note 2 none ∈ zT := zT_i (List.mem_of_getElem? (i := 268) (by decide +kernel)) rfl
theorem tw269 : Cond.methodLink RX2 27 yX5_copyTo ∈ zT := zT_i (List.mem_of_getElem? (i := 269) (by decide +kernel)) rfl
theorem tw270 : Cond.instanceMethod yX5_copyTo ∈ zT := zT_i (List.mem_of_getElem? (i := 270) (by decide +kernel)) rfl
theorem tw271 : Cond.selects RX5 yX5_copyTo yX5_copyTo ∈ zT := zT_i (List.mem_of_getElem? (i := 271) (by decide +kernel)) rfl
theorem tw272 : Cond.code yX5_copyTo cX5_copyTo 2 none ∈ zT := zT_i (List.mem_of_getElem? (i := 272) (by decide +kernel)) rfl
theorem tw273 : Cond.methodLink RX7 66 yX6_quarryBlock ∈ zT := zT_i (List.mem_of_getElem? (i := 273) (by decide +kernel)) rfl
theorem tw274 : Cond.instanceMethod yX6_quarryBlock ∈ zT := zT_i (List.mem_of_getElem? (i := 274) (by decide +kernel)) rfl
theorem tw275 : Cond.selects RX6 yX6_quarryBlock yX6_quarryBlock ∈ zT := zT_i (List.mem_of_getElem? (i := 275) (by decide +kernel)) rfl
theorem tw276 : Cond.code yX6_quarryBlock cX6_quarryBlock 5 (some .int) ∈ zT := zT_i (List.mem_of_getElem? (i := 276) (by decide +kernel)) rfl
theorem tw277 : Cond.methodLinkNest RX6 36 yX7_isSize RX7 ∈ lw_tbl := List.mem_of_getElem? (i := 277) (by decide +kernel)
theorem tw278 : Cond.static yX7_isSize ∈ zT := zT_i (List.mem_of_getElem? (i := 278) (by decide +kernel)) rfl
theorem tw279 : Cond.code yX7_isSize cX7_isSize 1 (some .boolean) ∈ zT := zT_i (List.mem_of_getElem? (i := 279) (by decide +kernel)) rfl
theorem tw280 : Cond.methodLink RX6 26 yX5_cell ∈ zT := zT_i (List.mem_of_getElem? (i := 280) (by decide +kernel)) rfl
theorem tw281 : Cond.methodLink RX6 40 yX6_addBlock ∈ zT := zT_i (List.mem_of_getElem? (i := 281) (by decide +kernel)) rfl
theorem tw283 : Cond.instanceMethod yX6_addBlock ∈ zT := zT_i (List.mem_of_getElem? (i := 283) (by decide +kernel)) rfl
theorem tw284 : Cond.code yX6_addBlock cX6_addBlock 6 (some .int) ∈ zT := zT_i (List.mem_of_getElem? (i := 284) (by decide +kernel)) rfl
theorem tw285 : Cond.methodLink RX6 32 yX5_setCell ∈ zT := zT_i (List.mem_of_getElem? (i := 285) (by decide +kernel)) rfl
theorem tw286 : Cond.methodLink RX6 44 yX5_setBlockCell ∈ zT := zT_i (List.mem_of_getElem? (i := 286) (by decide +kernel)) rfl
theorem tw287 : Cond.instanceMethod yX5_setBlockCell ∈ zT := zT_i (List.mem_of_getElem? (i := 287) (by decide +kernel)) rfl
theorem tw288 : Cond.selects RX5 yX5_setBlockCell yX5_setBlockCell ∈ zT := zT_i (List.mem_of_getElem? (i := 288) (by decide +kernel)) rfl
theorem tw289 : Cond.code yX5_setBlockCell cX5_setBlockCell 4 none ∈ zT := zT_i (List.mem_of_getElem? (i := 289) (by decide +kernel)) rfl
theorem tw290 : Cond.methodLink RX7 62 yX2_settle ∈ zT := zT_i (List.mem_of_getElem? (i := 290) (by decide +kernel)) rfl
theorem tw291 : Cond.instanceMethod yX2_settle ∈ zT := zT_i (List.mem_of_getElem? (i := 291) (by decide +kernel)) rfl
theorem tw292 : Cond.selects RX2 yX2_settle yX2_settle ∈ zT := zT_i (List.mem_of_getElem? (i := 292) (by decide +kernel)) rfl
theorem tw293 : Cond.code yX2_settle cX2_settle 2 (some .int) ∈ zT := zT_i (List.mem_of_getElem? (i := 293) (by decide +kernel)) rfl
theorem tw294 : Cond.methodLink RX2 33 yJ9_min_7cf53 ∈ zT := zT_i (List.mem_of_getElem? (i := 294) (by decide +kernel)) rfl
theorem tw295 : Cond.static yJ9_min_7cf53 ∈ zT := zT_i (List.mem_of_getElem? (i := 295) (by decide +kernel)) rfl
theorem tw296 : Cond.code yJ9_min_7cf53 cJ9_min_7cf53 2 (some .int) ∈ zT := zT_i (List.mem_of_getElem? (i := 296) (by decide +kernel)) rfl
theorem tw297 : Cond.methodLink RL 25 yX7_cut ∈ zT := zT_i (List.mem_of_getElem? (i := 297) (by decide +kernel)) rfl
theorem tw298 : Cond.instanceMethod yX7_cut ∈ zT := zT_i (List.mem_of_getElem? (i := 298) (by decide +kernel)) rfl
theorem tw299 : Cond.selects RX7 yX7_cut yX7_cut ∈ zT := zT_i (List.mem_of_getElem? (i := 299) (by decide +kernel)) rfl
theorem tw300 : Cond.code yX7_cut cX7_cut 4 (some .int) ∈ zT := zT_i (List.mem_of_getElem? (i := 300) (by decide +kernel)) rfl
theorem tw301 : Cond.methodLink RX7 70 yX6_cutBlock ∈ zT := zT_i (List.mem_of_getElem? (i := 301) (by decide +kernel)) rfl
theorem tw302 : Cond.instanceMethod yX6_cutBlock ∈ zT := zT_i (List.mem_of_getElem? (i := 302) (by decide +kernel)) rfl
theorem tw303 : Cond.selects RX6 yX6_cutBlock yX6_cutBlock ∈ zT := zT_i (List.mem_of_getElem? (i := 303) (by decide +kernel)) rfl
theorem tw304 : Cond.code yX6_cutBlock cX6_cutBlock 7 (some .int) ∈ zT := zT_i (List.mem_of_getElem? (i := 304) (by decide +kernel)) rfl
theorem tw305 : Cond.methodLink RX6 48 yX5_hasBlock ∈ zT := zT_i (List.mem_of_getElem? (i := 305) (by decide +kernel)) rfl
theorem tw306 : Cond.instanceMethod yX5_hasBlock ∈ zT := zT_i (List.mem_of_getElem? (i := 306) (by decide +kernel)) rfl
theorem tw307 : Cond.selects RX5 yX5_hasBlock yX5_hasBlock ∈ zT := zT_i (List.mem_of_getElem? (i := 307) (by decide +kernel)) rfl
theorem tw308 : Cond.code yX5_hasBlock cX5_hasBlock 2 (some .boolean) ∈ zT := zT_i (List.mem_of_getElem? (i := 308) (by decide +kernel)) rfl
theorem tw309 : Cond.methodLink RX6 51 yX5_blockCell ∈ zT := zT_i (List.mem_of_getElem? (i := 309) (by decide +kernel)) rfl
theorem tw310 : Cond.methodLink RX6 55 yX1_mayBeSawn ∈ zT := zT_i (List.mem_of_getElem? (i := 310) (by decide +kernel)) rfl
theorem tw311 : Cond.instanceMethod yX1_mayBeSawn ∈ zT := zT_i (List.mem_of_getElem? (i := 311) (by decide +kernel)) rfl
theorem tw312 : Cond.selects RX1 yX1_mayBeSawn yX1_mayBeSawn ∈ zT := zT_i (List.mem_of_getElem? (i := 312) (by decide +kernel)) rfl
theorem tw313 : Cond.code yX1_mayBeSawn cX1_mayBeSawn 2 (some .boolean) ∈ zT := zT_i (List.mem_of_getElem? (i := 313) (by decide +kernel)) rfl
theorem tw314 : Cond.methodLink RX1 49 yX1_isAtHand ∈ zT := zT_i (List.mem_of_getElem? (i := 314) (by decide +kernel)) rfl
theorem tw315 : Cond.instanceMethod yX1_isAtHand ∈ zT := zT_i (List.mem_of_getElem? (i := 315) (by decide +kernel)) rfl
theorem tw316 : Cond.selects RX1 yX1_isAtHand yX1_isAtHand ∈ zT := zT_i (List.mem_of_getElem? (i := 316) (by decide +kernel)) rfl
theorem tw317 : Cond.code yX1_isAtHand cX1_isAtHand 3 (some .boolean) ∈ zT := zT_i (List.mem_of_getElem? (i := 317) (by decide +kernel)) rfl
theorem tw318 : Cond.methodLink RX6 60 yX6_addPiece ∈ zT := zT_i (List.mem_of_getElem? (i := 318) (by decide +kernel)) rfl
theorem tw320 : Cond.instanceMethod yX6_addPiece ∈ zT := zT_i (List.mem_of_getElem? (i := 320) (by decide +kernel)) rfl
theorem tw321 : Cond.code yX6_addPiece cX6_addPiece 9 (some .int) ∈ zT := zT_i (List.mem_of_getElem? (i := 321) (by decide +kernel)) rfl
theorem tw322 : Cond.methodLink RX6 64 yX1_roofHasRoom ∈ zT := zT_i (List.mem_of_getElem? (i := 322) (by decide +kernel)) rfl
theorem tw323 : Cond.instanceMethod yX1_roofHasRoom ∈ zT := zT_i (List.mem_of_getElem? (i := 323) (by decide +kernel)) rfl
theorem tw324 : Cond.selects RX1 yX1_roofHasRoom yX1_roofHasRoom ∈ zT := zT_i (List.mem_of_getElem? (i := 324) (by decide +kernel)) rfl
theorem tw325 : Cond.code yX1_roofHasRoom cX1_roofHasRoom 1 (some .boolean) ∈ zT := zT_i (List.mem_of_getElem? (i := 325) (by decide +kernel)) rfl
theorem tw326 : Cond.methodLink RX1 44 yJ6_bitCount_0f7a4 ∈ zT := zT_i (List.mem_of_getElem? (i := 326) (by decide +kernel)) rfl
theorem tw327 : Cond.methodLink RL 29 yX7_shelter ∈ zT := zT_i (List.mem_of_getElem? (i := 327) (by decide +kernel)) rfl
theorem tw328 : Cond.instanceMethod yX7_shelter ∈ zT := zT_i (List.mem_of_getElem? (i := 328) (by decide +kernel)) rfl
theorem tw329 : Cond.selects RX7 yX7_shelter yX7_shelter ∈ zT := zT_i (List.mem_of_getElem? (i := 329) (by decide +kernel)) rfl
theorem tw330 : Cond.code yX7_shelter cX7_shelter 2 (some .int) ∈ zT := zT_i (List.mem_of_getElem? (i := 330) (by decide +kernel)) rfl
theorem tw331 : Cond.methodLink RX7 74 yX6_moveBlock ∈ zT := zT_i (List.mem_of_getElem? (i := 331) (by decide +kernel)) rfl
theorem tw332 : Cond.instanceMethod yX6_moveBlock ∈ zT := zT_i (List.mem_of_getElem? (i := 332) (by decide +kernel)) rfl
theorem tw333 : Cond.selects RX6 yX6_moveBlock yX6_moveBlock ∈ zT := zT_i (List.mem_of_getElem? (i := 333) (by decide +kernel)) rfl
theorem tw334 : Cond.code yX6_moveBlock cX6_moveBlock 3 (some .int) ∈ zT := zT_i (List.mem_of_getElem? (i := 334) (by decide +kernel)) rfl
theorem tw335 : Cond.methodLink RX6 68 yX1_isAtHand ∈ zT := zT_i (List.mem_of_getElem? (i := 335) (by decide +kernel)) rfl
theorem tw336 : Cond.methodLink RL 32 yX7_order ∈ zT := zT_i (List.mem_of_getElem? (i := 336) (by decide +kernel)) rfl
theorem tw337 : Cond.instanceMethod yX7_order ∈ zT := zT_i (List.mem_of_getElem? (i := 337) (by decide +kernel)) rfl
theorem tw338 : Cond.selects RX7 yX7_order yX7_order ∈ zT := zT_i (List.mem_of_getElem? (i := 338) (by decide +kernel)) rfl
theorem tw339 : Cond.code yX7_order cX7_order 4 (some .int) ∈ zT := zT_i (List.mem_of_getElem? (i := 339) (by decide +kernel)) rfl
theorem tw340 : Cond.methodLink RX7 77 yX6_takeOrder ∈ zT := zT_i (List.mem_of_getElem? (i := 340) (by decide +kernel)) rfl
theorem tw341 : Cond.instanceMethod yX6_takeOrder ∈ zT := zT_i (List.mem_of_getElem? (i := 341) (by decide +kernel)) rfl
theorem tw342 : Cond.selects RX6 yX6_takeOrder yX6_takeOrder ∈ zT := zT_i (List.mem_of_getElem? (i := 342) (by decide +kernel)) rfl
theorem tw343 : Cond.code yX6_takeOrder cX6_takeOrder 5 (some .int) ∈ zT := zT_i (List.mem_of_getElem? (i := 343) (by decide +kernel)) rfl
theorem tw344 : Cond.methodLinkNest RX6 71 yX7_greatestOf RX7 ∈ lw_tbl := List.mem_of_getElem? (i := 344) (by decide +kernel)
theorem tw345 : Cond.static yX7_greatestOf ∈ zT := zT_i (List.mem_of_getElem? (i := 345) (by decide +kernel)) rfl
theorem tw346 : Cond.code yX7_greatestOf cX7_greatestOf 3 (some .int) ∈ zT := zT_i (List.mem_of_getElem? (i := 346) (by decide +kernel)) rfl
theorem tw347 : Cond.methodLink RX7 243 yJ9_max_7cf53 ∈ zT := zT_i (List.mem_of_getElem? (i := 347) (by decide +kernel)) rfl
theorem tw348 : Cond.static yJ9_max_7cf53 ∈ zT := zT_i (List.mem_of_getElem? (i := 348) (by decide +kernel)) rfl
theorem tw349 : Cond.code yJ9_max_7cf53 cJ9_max_7cf53 2 (some .int) ∈ zT := zT_i (List.mem_of_getElem? (i := 349) (by decide +kernel)) rfl
theorem tw350 : Cond.methodLink RX6 75 yX5_setOrderCell ∈ zT := zT_i (List.mem_of_getElem? (i := 350) (by decide +kernel)) rfl
theorem tw351 : Cond.instanceMethod yX5_setOrderCell ∈ zT := zT_i (List.mem_of_getElem? (i := 351) (by decide +kernel)) rfl
theorem tw352 : Cond.selects RX5 yX5_setOrderCell yX5_setOrderCell ∈ zT := zT_i (List.mem_of_getElem? (i := 352) (by decide +kernel)) rfl
theorem tw353 : Cond.code yX5_setOrderCell cX5_setOrderCell 4 none ∈ zT := zT_i (List.mem_of_getElem? (i := 353) (by decide +kernel)) rfl
theorem tw354 : Cond.methodLinkNest RX6 78 yX7_middleOf RX7 ∈ lw_tbl := List.mem_of_getElem? (i := 354) (by decide +kernel)
theorem tw355 : Cond.static yX7_middleOf ∈ zT := zT_i (List.mem_of_getElem? (i := 355) (by decide +kernel)) rfl
theorem tw356 : Cond.code yX7_middleOf cX7_middleOf 3 (some .int) ∈ zT := zT_i (List.mem_of_getElem? (i := 356) (by decide +kernel)) rfl
theorem tw357 : Cond.methodLink RX7 251 yX7_greatestOf ∈ zT := zT_i (List.mem_of_getElem? (i := 357) (by decide +kernel)) rfl
theorem tw358 : Cond.methodLink RX7 254 yX7_leastOf ∈ zT := zT_i (List.mem_of_getElem? (i := 358) (by decide +kernel)) rfl
theorem tw359 : Cond.static yX7_leastOf ∈ zT := zT_i (List.mem_of_getElem? (i := 359) (by decide +kernel)) rfl
theorem tw360 : Cond.code yX7_leastOf cX7_leastOf 3 (some .int) ∈ zT := zT_i (List.mem_of_getElem? (i := 360) (by decide +kernel)) rfl
theorem tw361 : Cond.methodLink RX7 248 yJ9_min_7cf53 ∈ zT := zT_i (List.mem_of_getElem? (i := 361) (by decide +kernel)) rfl
theorem tw362 : Cond.methodLinkNest RX6 81 yX7_leastOf RX7 ∈ lw_tbl := List.mem_of_getElem? (i := 362) (by decide +kernel)
theorem tw363 : Cond.methodLink RL 35 yX7_of ∈ zT := zT_i (List.mem_of_getElem? (i := 363) (by decide +kernel)) rfl
theorem tw364 : Cond.instanceMethod yX7_of ∈ zT := zT_i (List.mem_of_getElem? (i := 364) (by decide +kernel)) rfl
theorem tw365 : Cond.selects RX7 yX7_of yX7_of ∈ zT := zT_i (List.mem_of_getElem? (i := 365) (by decide +kernel)) rfl
theorem tw366 : Cond.code yX7_of cX7_of 3 (some .int) ∈ zT := zT_i (List.mem_of_getElem? (i := 366) (by decide +kernel)) rfl
theorem tw367 : Cond.methodLink RX7 101 yX5_hasBlock ∈ zT := zT_i (List.mem_of_getElem? (i := 367) (by decide +kernel)) rfl
theorem tw368 : Cond.methodLink RX7 105 yX5_blockCell ∈ zT := zT_i (List.mem_of_getElem? (i := 368) (by decide +kernel)) rfl
theorem tw369 : Cond.methodLink RL 38 yX7_give ∈ zT := zT_i (List.mem_of_getElem? (i := 369) (by decide +kernel)) rfl
theorem tw370 : Cond.instanceMethod yX7_give ∈ zT := zT_i (List.mem_of_getElem? (i := 370) (by decide +kernel)) rfl
theorem tw371 : Cond.selects RX7 yX7_give yX7_give ∈ zT := zT_i (List.mem_of_getElem? (i := 371) (by decide +kernel)) rfl
theorem tw372 : Cond.code yX7_give cX7_give 3 (some .int) ∈ zT := zT_i (List.mem_of_getElem? (i := 372) (by decide +kernel)) rfl
theorem tw373 : Cond.methodLink RX7 80 yX6_giveBlock ∈ zT := zT_i (List.mem_of_getElem? (i := 373) (by decide +kernel)) rfl
theorem tw374 : Cond.instanceMethod yX6_giveBlock ∈ zT := zT_i (List.mem_of_getElem? (i := 374) (by decide +kernel)) rfl
theorem tw375 : Cond.selects RX6 yX6_giveBlock yX6_giveBlock ∈ zT := zT_i (List.mem_of_getElem? (i := 375) (by decide +kernel)) rfl
theorem tw376 : Cond.code yX6_giveBlock cX6_giveBlock 4 (some .int) ∈ zT := zT_i (List.mem_of_getElem? (i := 376) (by decide +kernel)) rfl
theorem tw377 : Cond.methodLink RX6 84 yX5_hasOrder ∈ zT := zT_i (List.mem_of_getElem? (i := 377) (by decide +kernel)) rfl
theorem tw378 : Cond.instanceMethod yX5_hasOrder ∈ zT := zT_i (List.mem_of_getElem? (i := 378) (by decide +kernel)) rfl
theorem tw379 : Cond.selects RX5 yX5_hasOrder yX5_hasOrder ∈ zT := zT_i (List.mem_of_getElem? (i := 379) (by decide +kernel)) rfl
theorem tw380 : Cond.code yX5_hasOrder cX5_hasOrder 2 (some .boolean) ∈ zT := zT_i (List.mem_of_getElem? (i := 380) (by decide +kernel)) rfl
theorem tw381 : Cond.methodLink RX6 87 yX1_surplusToGive ∈ zT := zT_i (List.mem_of_getElem? (i := 381) (by decide +kernel)) rfl
theorem tw382 : Cond.instanceMethod yX1_surplusToGive ∈ zT := zT_i (List.mem_of_getElem? (i := 382) (by decide +kernel)) rfl
theorem tw383 : Cond.selects RX1 yX1_surplusToGive yX1_surplusToGive ∈ zT := zT_i (List.mem_of_getElem? (i := 383) (by decide +kernel)) rfl
theorem tw384 : Cond.code yX1_surplusToGive cX1_surplusToGive 4 (some .int) ∈ zT := zT_i (List.mem_of_getElem? (i := 384) (by decide +kernel)) rfl
theorem tw385 : Cond.methodLink RX1 66 yX1_surplus ∈ zT := zT_i (List.mem_of_getElem? (i := 385) (by decide +kernel)) rfl
theorem tw386 : Cond.instanceMethod yX1_surplus ∈ zT := zT_i (List.mem_of_getElem? (i := 386) (by decide +kernel)) rfl
theorem tw387 : Cond.selects RX1 yX1_surplus yX1_surplus ∈ zT := zT_i (List.mem_of_getElem? (i := 387) (by decide +kernel)) rfl
theorem tw388 : Cond.code yX1_surplus cX1_surplus 9 (some .int) ∈ zT := zT_i (List.mem_of_getElem? (i := 388) (by decide +kernel)) rfl
theorem tw389 : Cond.methodLinkNest RX1 53 yX7_greatestOf RX7 ∈ lw_tbl := List.mem_of_getElem? (i := 389) (by decide +kernel)
theorem tw390 : Cond.methodLinkNest RX1 57 yX7_middleOf RX7 ∈ lw_tbl := List.mem_of_getElem? (i := 390) (by decide +kernel)
theorem tw391 : Cond.methodLinkNest RX1 60 yX7_leastOf RX7 ∈ lw_tbl := List.mem_of_getElem? (i := 391) (by decide +kernel)
theorem tw392 : Cond.methodLink RX1 63 yX1_isWithinOver ∈ zT := zT_i (List.mem_of_getElem? (i := 392) (by decide +kernel)) rfl
theorem tw394 : Cond.instanceMethod yX1_isWithinOver ∈ zT := zT_i (List.mem_of_getElem? (i := 394) (by decide +kernel)) rfl
theorem tw395 : Cond.code yX1_isWithinOver cX1_isWithinOver 2 (some .boolean) ∈ zT := zT_i (List.mem_of_getElem? (i := 395) (by decide +kernel)) rfl
theorem tw396 : Cond.methodLink RL 41 yX7_takeBack ∈ zT := zT_i (List.mem_of_getElem? (i := 396) (by decide +kernel)) rfl
theorem tw397 : Cond.instanceMethod yX7_takeBack ∈ zT := zT_i (List.mem_of_getElem? (i := 397) (by decide +kernel)) rfl
theorem tw398 : Cond.selects RX7 yX7_takeBack yX7_takeBack ∈ zT := zT_i (List.mem_of_getElem? (i := 398) (by decide +kernel)) rfl
theorem tw399 : Cond.code yX7_takeBack cX7_takeBack 2 (some .int) ∈ zT := zT_i (List.mem_of_getElem? (i := 399) (by decide +kernel)) rfl
theorem tw400 : Cond.methodLink RX7 83 yX6_takeBlockAway ∈ zT := zT_i (List.mem_of_getElem? (i := 400) (by decide +kernel)) rfl
theorem tw401 : Cond.instanceMethod yX6_takeBlockAway ∈ zT := zT_i (List.mem_of_getElem? (i := 401) (by decide +kernel)) rfl
theorem tw402 : Cond.selects RX6 yX6_takeBlockAway yX6_takeBlockAway ∈ zT := zT_i (List.mem_of_getElem? (i := 402) (by decide +kernel)) rfl
theorem tw403 : Cond.code yX6_takeBlockAway cX6_takeBlockAway 3 (some .int) ∈ zT := zT_i (List.mem_of_getElem? (i := 403) (by decide +kernel)) rfl
theorem tw404 : Cond.methodLink RX6 90 yX5_orderCell ∈ zT := zT_i (List.mem_of_getElem? (i := 404) (by decide +kernel)) rfl
theorem tw405 : Cond.methodLink RL 44 yX7_limits ∈ zT := zT_i (List.mem_of_getElem? (i := 405) (by decide +kernel)) rfl
theorem tw406 : Cond.instanceMethod yX7_limits ∈ zT := zT_i (List.mem_of_getElem? (i := 406) (by decide +kernel)) rfl
theorem tw407 : Cond.selects RX7 yX7_limits yX7_limits ∈ zT := zT_i (List.mem_of_getElem? (i := 407) (by decide +kernel)) rfl
theorem tw408 : Cond.code yX7_limits cX7_limits 5 (some .int) ∈ zT := zT_i (List.mem_of_getElem? (i := 408) (by decide +kernel)) rfl
theorem tw409 : Cond.methodLink RX7 86 yX6_changeLimits ∈ zT := zT_i (List.mem_of_getElem? (i := 409) (by decide +kernel)) rfl
theorem tw410 : Cond.instanceMethod yX6_changeLimits ∈ zT := zT_i (List.mem_of_getElem? (i := 410) (by decide +kernel)) rfl
theorem tw411 : Cond.selects RX6 yX6_changeLimits yX6_changeLimits ∈ zT := zT_i (List.mem_of_getElem? (i := 411) (by decide +kernel)) rfl
theorem tw412 : Cond.code yX6_changeLimits cX6_changeLimits 5 (some .int) ∈ zT := zT_i (List.mem_of_getElem? (i := 412) (by decide +kernel)) rfl
theorem tw413 : Cond.methodLinkNest RX6 93 yX7_isLorry RX7 ∈ lw_tbl := List.mem_of_getElem? (i := 413) (by decide +kernel)
theorem tw414 : Cond.static yX7_isLorry ∈ zT := zT_i (List.mem_of_getElem? (i := 414) (by decide +kernel)) rfl
theorem tw415 : Cond.code yX7_isLorry cX7_isLorry 1 (some .boolean) ∈ zT := zT_i (List.mem_of_getElem? (i := 415) (by decide +kernel)) rfl
theorem tw416 : Cond.methodLink RX6 96 yX6_isLimit ∈ zT := zT_i (List.mem_of_getElem? (i := 416) (by decide +kernel)) rfl
theorem tw417 : Cond.static yX6_isLimit ∈ zT := zT_i (List.mem_of_getElem? (i := 417) (by decide +kernel)) rfl
theorem tw418 : Cond.code yX6_isLimit cX6_isLimit 1 (some .boolean) ∈ zT := zT_i (List.mem_of_getElem? (i := 418) (by decide +kernel)) rfl
theorem tw419 : Cond.methodLink RX6 99 yX5_setLorryCell ∈ zT := zT_i (List.mem_of_getElem? (i := 419) (by decide +kernel)) rfl
theorem tw420 : Cond.methodLink RL 47 yX7_load ∈ zT := zT_i (List.mem_of_getElem? (i := 420) (by decide +kernel)) rfl
theorem tw421 : Cond.instanceMethod yX7_load ∈ zT := zT_i (List.mem_of_getElem? (i := 421) (by decide +kernel)) rfl
theorem tw422 : Cond.selects RX7 yX7_load yX7_load ∈ zT := zT_i (List.mem_of_getElem? (i := 422) (by decide +kernel)) rfl
theorem tw423 : Cond.code yX7_load cX7_load 4 (some .int) ∈ zT := zT_i (List.mem_of_getElem? (i := 423) (by decide +kernel)) rfl
theorem tw424 : Cond.methodLink RX7 89 yX6_loadBlock ∈ zT := zT_i (List.mem_of_getElem? (i := 424) (by decide +kernel)) rfl
theorem tw425 : Cond.instanceMethod yX6_loadBlock ∈ zT := zT_i (List.mem_of_getElem? (i := 425) (by decide +kernel)) rfl
theorem tw426 : Cond.selects RX6 yX6_loadBlock yX6_loadBlock ∈ zT := zT_i (List.mem_of_getElem? (i := 426) (by decide +kernel)) rfl
theorem tw427 : Cond.code yX6_loadBlock cX6_loadBlock 4 (some .int) ∈ zT := zT_i (List.mem_of_getElem? (i := 427) (by decide +kernel)) rfl
theorem tw428 : Cond.methodLink RX6 102 yX1_isFree ∈ zT := zT_i (List.mem_of_getElem? (i := 428) (by decide +kernel)) rfl
theorem tw429 : Cond.instanceMethod yX1_isFree ∈ zT := zT_i (List.mem_of_getElem? (i := 429) (by decide +kernel)) rfl
theorem tw430 : Cond.selects RX1 yX1_isFree yX1_isFree ∈ zT := zT_i (List.mem_of_getElem? (i := 430) (by decide +kernel)) rfl
theorem tw431 : Cond.code yX1_isFree cX1_isFree 3 (some .boolean) ∈ zT := zT_i (List.mem_of_getElem? (i := 431) (by decide +kernel)) rfl
theorem tw432 : Cond.methodLink RX6 106 yX1_loadOf ∈ zT := zT_i (List.mem_of_getElem? (i := 432) (by decide +kernel)) rfl
theorem tw433 : Cond.instanceMethod yX1_loadOf ∈ zT := zT_i (List.mem_of_getElem? (i := 433) (by decide +kernel)) rfl
theorem tw434 : Cond.selects RX1 yX1_loadOf yX1_loadOf ∈ zT := zT_i (List.mem_of_getElem? (i := 434) (by decide +kernel)) rfl
theorem tw435 : Cond.code yX1_loadOf cX1_loadOf 2 (some .int) ∈ zT := zT_i (List.mem_of_getElem? (i := 435) (by decide +kernel)) rfl
theorem tw436 : Cond.methodLink RX1 73 yX1_blocksOn ∈ zT := zT_i (List.mem_of_getElem? (i := 436) (by decide +kernel)) rfl
theorem tw437 : Cond.instanceMethod yX1_blocksOn ∈ zT := zT_i (List.mem_of_getElem? (i := 437) (by decide +kernel)) rfl
theorem tw438 : Cond.selects RX1 yX1_blocksOn yX1_blocksOn ∈ zT := zT_i (List.mem_of_getElem? (i := 438) (by decide +kernel)) rfl
theorem tw439 : Cond.code yX1_blocksOn cX1_blocksOn 4 (some .int) ∈ zT := zT_i (List.mem_of_getElem? (i := 439) (by decide +kernel)) rfl
theorem tw440 : Cond.methodLink RL 50 yX7_unload ∈ zT := zT_i (List.mem_of_getElem? (i := 440) (by decide +kernel)) rfl
theorem tw441 : Cond.instanceMethod yX7_unload ∈ zT := zT_i (List.mem_of_getElem? (i := 441) (by decide +kernel)) rfl
theorem tw442 : Cond.selects RX7 yX7_unload yX7_unload ∈ zT := zT_i (List.mem_of_getElem? (i := 442) (by decide +kernel)) rfl
theorem tw443 : Cond.code yX7_unload cX7_unload 2 (some .int) ∈ zT := zT_i (List.mem_of_getElem? (i := 443) (by decide +kernel)) rfl
theorem tw444 : Cond.methodLink RX7 92 yX6_unloadBlock ∈ zT := zT_i (List.mem_of_getElem? (i := 444) (by decide +kernel)) rfl
theorem tw445 : Cond.instanceMethod yX6_unloadBlock ∈ zT := zT_i (List.mem_of_getElem? (i := 445) (by decide +kernel)) rfl
theorem tw446 : Cond.selects RX6 yX6_unloadBlock yX6_unloadBlock ∈ zT := zT_i (List.mem_of_getElem? (i := 446) (by decide +kernel)) rfl
theorem tw447 : Cond.code yX6_unloadBlock cX6_unloadBlock 3 (some .int) ∈ zT := zT_i (List.mem_of_getElem? (i := 447) (by decide +kernel)) rfl
theorem tw448 : Cond.methodLink RL 53 yX7_leave ∈ zT := zT_i (List.mem_of_getElem? (i := 448) (by decide +kernel)) rfl
theorem tw449 : Cond.instanceMethod yX7_leave ∈ zT := zT_i (List.mem_of_getElem? (i := 449) (by decide +kernel)) rfl
theorem tw450 : Cond.selects RX7 yX7_leave yX7_leave ∈ zT := zT_i (List.mem_of_getElem? (i := 450) (by decide +kernel)) rfl
theorem tw451 : Cond.code yX7_leave cX7_leave 2 (some .int) ∈ zT := zT_i (List.mem_of_getElem? (i := 451) (by decide +kernel)) rfl
theorem tw452 : Cond.methodLink RX7 95 yX6_sendLorry ∈ zT := zT_i (List.mem_of_getElem? (i := 452) (by decide +kernel)) rfl
theorem tw453 : Cond.instanceMethod yX6_sendLorry ∈ zT := zT_i (List.mem_of_getElem? (i := 453) (by decide +kernel)) rfl
theorem tw454 : Cond.selects RX6 yX6_sendLorry yX6_sendLorry ∈ zT := zT_i (List.mem_of_getElem? (i := 454) (by decide +kernel)) rfl
theorem tw455 : Cond.code yX6_sendLorry cX6_sendLorry 5 (some .int) ∈ zT := zT_i (List.mem_of_getElem? (i := 455) (by decide +kernel)) rfl
theorem tw456 : Cond.methodLink RX6 109 yX1_reasonToStay ∈ zT := zT_i (List.mem_of_getElem? (i := 456) (by decide +kernel)) rfl
theorem tw457 : Cond.instanceMethod yX1_reasonToStay ∈ zT := zT_i (List.mem_of_getElem? (i := 457) (by decide +kernel)) rfl
theorem tw458 : Cond.selects RX1 yX1_reasonToStay yX1_reasonToStay ∈ zT := zT_i (List.mem_of_getElem? (i := 458) (by decide +kernel)) rfl
theorem tw459 : Cond.code yX1_reasonToStay cX1_reasonToStay 3 (some .int) ∈ zT := zT_i (List.mem_of_getElem? (i := 459) (by decide +kernel)) rfl
theorem tw460 : Cond.methodLink RX1 81 yX5_lorryCell ∈ zT := zT_i (List.mem_of_getElem? (i := 460) (by decide +kernel)) rfl
theorem tw461 : Cond.instanceMethod yX5_lorryCell ∈ zT := zT_i (List.mem_of_getElem? (i := 461) (by decide +kernel)) rfl
theorem tw462 : Cond.selects RX5 yX5_lorryCell yX5_lorryCell ∈ zT := zT_i (List.mem_of_getElem? (i := 462) (by decide +kernel)) rfl
theorem tw463 : Cond.code yX5_lorryCell cX5_lorryCell 3 (some .int) ∈ zT := zT_i (List.mem_of_getElem? (i := 463) (by decide +kernel)) rfl
theorem tw464 : Cond.methodLink RX1 84 yX1_front ∈ zT := zT_i (List.mem_of_getElem? (i := 464) (by decide +kernel)) rfl
theorem tw465 : Cond.instanceMethod yX1_front ∈ zT := zT_i (List.mem_of_getElem? (i := 465) (by decide +kernel)) rfl
theorem tw466 : Cond.selects RX1 yX1_front yX1_front ∈ zT := zT_i (List.mem_of_getElem? (i := 466) (by decide +kernel)) rfl
theorem tw467 : Cond.code yX1_front cX1_front 6 (some .float) ∈ zT := zT_i (List.mem_of_getElem? (i := 467) (by decide +kernel)) rfl
theorem tw468 : Cond.methodLink RX1 76 yX1_weightAt ∈ zT := zT_i (List.mem_of_getElem? (i := 468) (by decide +kernel)) rfl
theorem tw470 : Cond.instanceMethod yX1_weightAt ∈ zT := zT_i (List.mem_of_getElem? (i := 470) (by decide +kernel)) rfl
theorem tw471 : Cond.code yX1_weightAt cX1_weightAt 8 (some .float) ∈ zT := zT_i (List.mem_of_getElem? (i := 471) (by decide +kernel)) rfl
theorem tw472 : Cond.constantFloat RX1 80 (1082130432) ∈ zT := zT_i (List.mem_of_getElem? (i := 472) (by decide +kernel)) rfl
theorem tw473 : Cond.methodLink RX1 88 yX1_rear ∈ zT := zT_i (List.mem_of_getElem? (i := 473) (by decide +kernel)) rfl
theorem tw474 : Cond.instanceMethod yX1_rear ∈ zT := zT_i (List.mem_of_getElem? (i := 474) (by decide +kernel)) rfl
theorem tw475 : Cond.selects RX1 yX1_rear yX1_rear ∈ zT := zT_i (List.mem_of_getElem? (i := 475) (by decide +kernel)) rfl
theorem tw476 : Cond.code yX1_rear cX1_rear 6 (some .float) ∈ zT := zT_i (List.mem_of_getElem? (i := 476) (by decide +kernel)) rfl
theorem tw477 : Cond.methodLink RX6 112 yX1_blocksOn ∈ zT := zT_i (List.mem_of_getElem? (i := 477) (by decide +kernel)) rfl
theorem tw478 : Cond.methodLink RX6 115 yX6_deliver ∈ zT := zT_i (List.mem_of_getElem? (i := 478) (by decide +kernel)) rfl
theorem tw480 : Cond.instanceMethod yX6_deliver ∈ zT := zT_i (List.mem_of_getElem? (i := 480) (by decide +kernel)) rfl
theorem tw481 : Cond.code yX6_deliver cX6_deliver 4 (some .int) ∈ zT := zT_i (List.mem_of_getElem? (i := 481) (by decide +kernel)) rfl
theorem tw482 : Cond.methodLink RX6 118 yX5_lorryCell ∈ zT := zT_i (List.mem_of_getElem? (i := 482) (by decide +kernel)) rfl
theorem tw483 : Cond.methodLink RL 56 yX7_night ∈ zT := zT_i (List.mem_of_getElem? (i := 483) (by decide +kernel)) rfl
theorem tw484 : Cond.instanceMethod yX7_night ∈ zT := zT_i (List.mem_of_getElem? (i := 484) (by decide +kernel)) rfl
theorem tw485 : Cond.selects RX7 yX7_night yX7_night ∈ zT := zT_i (List.mem_of_getElem? (i := 485) (by decide +kernel)) rfl
theorem tw486 : Cond.code yX7_night cX7_night 2 (some .int) ∈ zT := zT_i (List.mem_of_getElem? (i := 486) (by decide +kernel)) rfl
theorem tw487 : Cond.methodLink RX7 98 yX6_passNight ∈ zT := zT_i (List.mem_of_getElem? (i := 487) (by decide +kernel)) rfl
theorem tw488 : Cond.instanceMethod yX6_passNight ∈ zT := zT_i (List.mem_of_getElem? (i := 488) (by decide +kernel)) rfl
theorem tw489 : Cond.selects RX6 yX6_passNight yX6_passNight ∈ zT := zT_i (List.mem_of_getElem? (i := 489) (by decide +kernel)) rfl
theorem tw490 : Cond.code yX6_passNight cX6_passNight 5 (some .int) ∈ zT := zT_i (List.mem_of_getElem? (i := 490) (by decide +kernel)) rfl
theorem tw491 : Cond.methodLink RX6 121 yX6_crackBlocks ∈ zT := zT_i (List.mem_of_getElem? (i := 491) (by decide +kernel)) rfl
theorem tw493 : Cond.instanceMethod yX6_crackBlocks ∈ zT := zT_i (List.mem_of_getElem? (i := 493) (by decide +kernel)) rfl
theorem tw494 : Cond.code yX6_crackBlocks cX6_crackBlocks 3 (some .int) ∈ zT := zT_i (List.mem_of_getElem? (i := 494) (by decide +kernel)) rfl
theorem tw495 : Cond.methodLink RX6 128 yX1_blocksForFrost ∈ zT := zT_i (List.mem_of_getElem? (i := 495) (by decide +kernel)) rfl
theorem tw496 : Cond.instanceMethod yX1_blocksForFrost ∈ zT := zT_i (List.mem_of_getElem? (i := 496) (by decide +kernel)) rfl
theorem tw497 : Cond.selects RX1 yX1_blocksForFrost yX1_blocksForFrost ∈ zT := zT_i (List.mem_of_getElem? (i := 497) (by decide +kernel)) rfl
theorem tw498 : Cond.code yX1_blocksForFrost cX1_blocksForFrost 1 (some .int) ∈ zT := zT_i (List.mem_of_getElem? (i := 498) (by decide +kernel)) rfl
theorem tw499 : Cond.methodLink RX6 131 yX5_blocksWith ∈ zT := zT_i (List.mem_of_getElem? (i := 499) (by decide +kernel)) rfl
theorem tw500 : Cond.methodLink RX6 134 yJ6_bitCount_0f7a4 ∈ zT := zT_i (List.mem_of_getElem? (i := 500) (by decide +kernel)) rfl
theorem tw501 : Cond.methodLink RX6 125 yX6_dryBlocks ∈ zT := zT_i (List.mem_of_getElem? (i := 501) (by decide +kernel)) rfl
theorem tw503 : Cond.instanceMethod yX6_dryBlocks ∈ zT := zT_i (List.mem_of_getElem? (i := 503) (by decide +kernel)) rfl
theorem tw504 : Cond.code yX6_dryBlocks cX6_dryBlocks 5 none ∈ zT := zT_i (List.mem_of_getElem? (i := 504) (by decide +kernel)) rfl
theorem tw505 : Cond.methodLink RL 59 yX7_set ∈ zT := zT_i (List.mem_of_getElem? (i := 505) (by decide +kernel)) rfl
theorem tw506 : Cond.instanceMethod yX7_set ∈ zT := zT_i (List.mem_of_getElem? (i := 506) (by decide +kernel)) rfl
theorem tw507 : Cond.selects RX7 yX7_set yX7_set ∈ zT := zT_i (List.mem_of_getElem? (i := 507) (by decide +kernel)) rfl
theorem tw508 : Cond.code yX7_set cX7_set 3 (some .int) ∈ zT := zT_i (List.mem_of_getElem? (i := 508) (by decide +kernel)) rfl
theorem tw509 : Cond.methodLink RX7 58 yX6_changeSetting ∈ zT := zT_i (List.mem_of_getElem? (i := 509) (by decide +kernel)) rfl
theorem tw510 : Cond.instanceMethod yX6_changeSetting ∈ zT := zT_i (List.mem_of_getElem? (i := 510) (by decide +kernel)) rfl
theorem tw511 : Cond.selects RX6 yX6_changeSetting yX6_changeSetting ∈ zT := zT_i (List.mem_of_getElem? (i := 511) (by decide +kernel)) rfl
theorem tw512 : Cond.code yX6_changeSetting cX6_changeSetting 4 (some .int) ∈ zT := zT_i (List.mem_of_getElem? (i := 512) (by decide +kernel)) rfl
theorem tw513 : Cond.fieldLinkNest RX6 19 "QuarryOrders" "LEAST_SETTING" "[I" "QuarryOrders" ∈ lw_tbl := List.mem_of_getElem? (i := 513) (by decide +kernel)
theorem tw514 : Cond.laysStatic "QuarryOrders" "LEAST_SETTING" "[I" ∈ lw_tbl := List.mem_of_getElem? (i := 514) (by decide +kernel)
theorem tw515 : Cond.fieldLinkNest RX6 23 "QuarryOrders" "MOST_SETTING" "[I" "QuarryOrders" ∈ lw_tbl := List.mem_of_getElem? (i := 515) (by decide +kernel)
theorem tw516 : Cond.laysStatic "QuarryOrders" "MOST_SETTING" "[I" ∈ lw_tbl := List.mem_of_getElem? (i := 516) (by decide +kernel)
theorem tw517 : Cond.methodLink RL 121 yL_holds ∈ zT := zT_i (List.mem_of_getElem? (i := 517) (by decide +kernel)) rfl
theorem tw518 : Cond.static yL_holds ∈ zT := zT_i (List.mem_of_getElem? (i := 518) (by decide +kernel)) rfl
theorem tw519 : Cond.code yL_holds cL_holds 6 (some .boolean) ∈ zT := zT_i (List.mem_of_getElem? (i := 519) (by decide +kernel)) rfl
theorem tw520 : Cond.methodLink RL 86 yL_isBlock ∈ zT := zT_i (List.mem_of_getElem? (i := 520) (by decide +kernel)) rfl
theorem tw521 : Cond.static yL_isBlock ∈ zT := zT_i (List.mem_of_getElem? (i := 521) (by decide +kernel)) rfl
theorem tw522 : Cond.code yL_isBlock cL_isBlock 6 (some .boolean) ∈ zT := zT_i (List.mem_of_getElem? (i := 522) (by decide +kernel)) rfl
theorem tw523 : Cond.methodLink RL 62 yX7_ofLorry ∈ zT := zT_i (List.mem_of_getElem? (i := 523) (by decide +kernel)) rfl
theorem tw524 : Cond.instanceMethod yX7_ofLorry ∈ zT := zT_i (List.mem_of_getElem? (i := 524) (by decide +kernel)) rfl
theorem tw525 : Cond.selects RX7 yX7_ofLorry yX7_ofLorry ∈ zT := zT_i (List.mem_of_getElem? (i := 525) (by decide +kernel)) rfl
theorem tw526 : Cond.code yX7_ofLorry cX7_ofLorry 3 (some .int) ∈ zT := zT_i (List.mem_of_getElem? (i := 526) (by decide +kernel)) rfl
theorem tw527 : Cond.methodLink RX7 117 yX7_isLorry ∈ zT := zT_i (List.mem_of_getElem? (i := 527) (by decide +kernel)) rfl
theorem tw528 : Cond.methodLink RX7 120 yX1_loadOf ∈ zT := zT_i (List.mem_of_getElem? (i := 528) (by decide +kernel)) rfl
theorem tw529 : Cond.methodLink RX7 123 yX1_front ∈ zT := zT_i (List.mem_of_getElem? (i := 529) (by decide +kernel)) rfl
theorem tw530 : Cond.methodLink RX7 127 yX0_ofFloat ∈ zT := zT_i (List.mem_of_getElem? (i := 530) (by decide +kernel)) rfl
theorem tw531 : Cond.static yX0_ofFloat ∈ zT := zT_i (List.mem_of_getElem? (i := 531) (by decide +kernel)) rfl
theorem tw532 : Cond.code yX0_ofFloat cX0_ofFloat 4 (some .int) ∈ zT := zT_i (List.mem_of_getElem? (i := 532) (by decide +kernel)) rfl
theorem tw533 : Cond.constantFloat RX0 9 (1258291200) ∈ zT := zT_i (List.mem_of_getElem? (i := 533) (by decide +kernel)) rfl
theorem tw534 : Cond.methodLink RX7 133 yX1_rear ∈ zT := zT_i (List.mem_of_getElem? (i := 534) (by decide +kernel)) rfl
theorem tw535 : Cond.methodLink RX7 136 yX1_blocksOn ∈ zT := zT_i (List.mem_of_getElem? (i := 535) (by decide +kernel)) rfl
theorem tw536 : Cond.methodLink RX7 139 yX5_lorryCell ∈ zT := zT_i (List.mem_of_getElem? (i := 536) (by decide +kernel)) rfl
theorem tw537 : Cond.methodLink RL 65 yX7_ofOrder ∈ zT := zT_i (List.mem_of_getElem? (i := 537) (by decide +kernel)) rfl
theorem tw538 : Cond.instanceMethod yX7_ofOrder ∈ zT := zT_i (List.mem_of_getElem? (i := 538) (by decide +kernel)) rfl
theorem tw539 : Cond.selects RX7 yX7_ofOrder yX7_ofOrder ∈ zT := zT_i (List.mem_of_getElem? (i := 539) (by decide +kernel)) rfl
theorem tw540 : Cond.code yX7_ofOrder cX7_ofOrder 3 (some .int) ∈ zT := zT_i (List.mem_of_getElem? (i := 540) (by decide +kernel)) rfl
theorem tw541 : Cond.methodLink RX7 108 yX5_hasOrder ∈ zT := zT_i (List.mem_of_getElem? (i := 541) (by decide +kernel)) rfl
theorem tw542 : Cond.methodLink RX7 111 yX1_blocksToGive ∈ zT := zT_i (List.mem_of_getElem? (i := 542) (by decide +kernel)) rfl
theorem tw543 : Cond.instanceMethod yX1_blocksToGive ∈ zT := zT_i (List.mem_of_getElem? (i := 543) (by decide +kernel)) rfl
theorem tw544 : Cond.selects RX1 yX1_blocksToGive yX1_blocksToGive ∈ zT := zT_i (List.mem_of_getElem? (i := 544) (by decide +kernel)) rfl
theorem tw545 : Cond.code yX1_blocksToGive cX1_blocksToGive 5 (some .int) ∈ zT := zT_i (List.mem_of_getElem? (i := 545) (by decide +kernel)) rfl
theorem tw546 : Cond.methodLink RX1 70 yX1_surplusToGive ∈ zT := zT_i (List.mem_of_getElem? (i := 546) (by decide +kernel)) rfl
theorem tw547 : Cond.methodLink RX7 114 yX5_orderCell ∈ zT := zT_i (List.mem_of_getElem? (i := 547) (by decide +kernel)) rfl
theorem tw548 : Cond.methodLink RL 68 yX7_ifFrost ∈ zT := zT_i (List.mem_of_getElem? (i := 548) (by decide +kernel)) rfl
theorem tw549 : Cond.instanceMethod yX7_ifFrost ∈ zT := zT_i (List.mem_of_getElem? (i := 549) (by decide +kernel)) rfl
theorem tw550 : Cond.selects RX7 yX7_ifFrost yX7_ifFrost ∈ zT := zT_i (List.mem_of_getElem? (i := 550) (by decide +kernel)) rfl
theorem tw551 : Cond.code yX7_ifFrost cX7_ifFrost 1 (some .int) ∈ zT := zT_i (List.mem_of_getElem? (i := 551) (by decide +kernel)) rfl
theorem tw552 : Cond.methodLink RX7 194 yX1_blocksForFrost ∈ zT := zT_i (List.mem_of_getElem? (i := 552) (by decide +kernel)) rfl
theorem tw553 : Cond.methodLink RL 90 yL_isOrder ∈ zT := zT_i (List.mem_of_getElem? (i := 553) (by decide +kernel)) rfl
theorem tw554 : Cond.static yL_isOrder ∈ zT := zT_i (List.mem_of_getElem? (i := 554) (by decide +kernel)) rfl
theorem tw555 : Cond.code yL_isOrder cL_isOrder 10 (some .boolean) ∈ zT := zT_i (List.mem_of_getElem? (i := 555) (by decide +kernel)) rfl
theorem tw556 : Cond.methodLink RL 72 yX7_bestBlock ∈ zT := zT_i (List.mem_of_getElem? (i := 556) (by decide +kernel)) rfl
theorem tw557 : Cond.instanceMethod yX7_bestBlock ∈ zT := zT_i (List.mem_of_getElem? (i := 557) (by decide +kernel)) rfl
theorem tw558 : Cond.selects RX7 yX7_bestBlock yX7_bestBlock ∈ zT := zT_i (List.mem_of_getElem? (i := 558) (by decide +kernel)) rfl
theorem tw559 : Cond.code yX7_bestBlock cX7_bestBlock 2 (some .int) ∈ zT := zT_i (List.mem_of_getElem? (i := 559) (by decide +kernel)) rfl
theorem tw560 : Cond.methodLink RX7 185 yX1_nearestBlock ∈ zT := zT_i (List.mem_of_getElem? (i := 560) (by decide +kernel)) rfl
theorem tw561 : Cond.instanceMethod yX1_nearestBlock ∈ zT := zT_i (List.mem_of_getElem? (i := 561) (by decide +kernel)) rfl
theorem tw562 : Cond.selects RX1 yX1_nearestBlock yX1_nearestBlock ∈ zT := zT_i (List.mem_of_getElem? (i := 562) (by decide +kernel)) rfl
theorem tw563 : Cond.code yX1_nearestBlock cX1_nearestBlock 7 (some .int) ∈ zT := zT_i (List.mem_of_getElem? (i := 563) (by decide +kernel)) rfl
theorem tw564 : Cond.methodLink RL 93 yL_isLorry ∈ zT := zT_i (List.mem_of_getElem? (i := 564) (by decide +kernel)) rfl
theorem tw565 : Cond.static yL_isLorry ∈ zT := zT_i (List.mem_of_getElem? (i := 565) (by decide +kernel)) rfl
theorem tw566 : Cond.code yL_isLorry cL_isLorry 8 (some .boolean) ∈ zT := zT_i (List.mem_of_getElem? (i := 566) (by decide +kernel)) rfl
theorem tw567 : Cond.methodLink RL 76 yL_axle ∈ zT := zT_i (List.mem_of_getElem? (i := 567) (by decide +kernel)) rfl
theorem tw568 : Cond.static yL_axle ∈ zT := zT_i (List.mem_of_getElem? (i := 568) (by decide +kernel)) rfl
theorem tw569 : Cond.code yL_axle cL_axle 7 (some .int) ∈ zT := zT_i (List.mem_of_getElem? (i := 569) (by decide +kernel)) rfl
theorem tw570 : Cond.methodLink RL 80 yL_bitsOf ∈ zT := zT_i (List.mem_of_getElem? (i := 570) (by decide +kernel)) rfl
theorem tw571 : Cond.static yL_bitsOf ∈ zT := zT_i (List.mem_of_getElem? (i := 571) (by decide +kernel)) rfl
theorem tw572 : Cond.code yL_bitsOf cL_bitsOf 2 (some .int) ∈ zT := zT_i (List.mem_of_getElem? (i := 572) (by decide +kernel)) rfl
theorem tw573 : Cond.constant RL 75 (8388607) ∈ zT := zT_i (List.mem_of_getElem? (i := 573) (by decide +kernel)) rfl
theorem tw574 : Cond.methodLink RL 83 yX7_why ∈ zT := zT_i (List.mem_of_getElem? (i := 574) (by decide +kernel)) rfl
theorem tw575 : Cond.instanceMethod yX7_why ∈ zT := zT_i (List.mem_of_getElem? (i := 575) (by decide +kernel)) rfl
theorem tw576 : Cond.selects RX7 yX7_why yX7_why ∈ zT := zT_i (List.mem_of_getElem? (i := 576) (by decide +kernel)) rfl
theorem tw577 : Cond.code yX7_why cX7_why 2 (some .int) ∈ zT := zT_i (List.mem_of_getElem? (i := 577) (by decide +kernel)) rfl
theorem tw578 : Cond.methodLink RX7 182 yX1_reasonToStay ∈ zT := zT_i (List.mem_of_getElem? (i := 578) (by decide +kernel)) rfl
theorem tw579 : Cond.methodLink RL 96 yL_bits ∈ zT := zT_i (List.mem_of_getElem? (i := 579) (by decide +kernel)) rfl
theorem tw580 : Cond.static yL_bits ∈ zT := zT_i (List.mem_of_getElem? (i := 580) (by decide +kernel)) rfl
theorem tw581 : Cond.code yL_bits cL_bits 3 (some .int) ∈ zT := zT_i (List.mem_of_getElem? (i := 581) (by decide +kernel)) rfl
theorem tw582 : Cond.methodLink RL 137 yL_tries ∈ zT := zT_i (List.mem_of_getElem? (i := 582) (by decide +kernel)) rfl
theorem tw583 : Cond.static yL_tries ∈ zT := zT_i (List.mem_of_getElem? (i := 583) (by decide +kernel)) rfl
theorem tw584 : Cond.code yL_tries cL_tries 17 (some .boolean) ∈ zT := zT_i (List.mem_of_getElem? (i := 584) (by decide +kernel)) rfl
theorem tw585 : Cond.methodLink RL 102 yX7_fittingCut ∈ zT := zT_i (List.mem_of_getElem? (i := 585) (by decide +kernel)) rfl
theorem tw586 : Cond.instanceMethod yX7_fittingCut ∈ zT := zT_i (List.mem_of_getElem? (i := 586) (by decide +kernel)) rfl
theorem tw587 : Cond.selects RX7 yX7_fittingCut yX7_fittingCut ∈ zT := zT_i (List.mem_of_getElem? (i := 587) (by decide +kernel)) rfl
theorem tw588 : Cond.code yX7_fittingCut cX7_fittingCut 6 (some .int) ∈ zT := zT_i (List.mem_of_getElem? (i := 588) (by decide +kernel)) rfl
theorem tw589 : Cond.methodLink RX7 188 yX1_mayBeSawn ∈ zT := zT_i (List.mem_of_getElem? (i := 589) (by decide +kernel)) rfl
theorem tw590 : Cond.methodLink RX7 191 yX1_fittingLength ∈ zT := zT_i (List.mem_of_getElem? (i := 590) (by decide +kernel)) rfl
theorem tw591 : Cond.instanceMethod yX1_fittingLength ∈ zT := zT_i (List.mem_of_getElem? (i := 591) (by decide +kernel)) rfl
theorem tw592 : Cond.selects RX1 yX1_fittingLength yX1_fittingLength ∈ zT := zT_i (List.mem_of_getElem? (i := 592) (by decide +kernel)) rfl
theorem tw593 : Cond.code yX1_fittingLength cX1_fittingLength 10 (some .int) ∈ zT := zT_i (List.mem_of_getElem? (i := 593) (by decide +kernel)) rfl
theorem tw594 : Cond.methodLink RL 105 yX7_bestPlace ∈ zT := zT_i (List.mem_of_getElem? (i := 594) (by decide +kernel)) rfl
theorem tw595 : Cond.instanceMethod yX7_bestPlace ∈ zT := zT_i (List.mem_of_getElem? (i := 595) (by decide +kernel)) rfl
theorem tw596 : Cond.selects RX7 yX7_bestPlace yX7_bestPlace ∈ zT := zT_i (List.mem_of_getElem? (i := 596) (by decide +kernel)) rfl
theorem tw597 : Cond.code yX7_bestPlace cX7_bestPlace 3 (some .int) ∈ zT := zT_i (List.mem_of_getElem? (i := 597) (by decide +kernel)) rfl
theorem tw598 : Cond.methodLink RX7 197 yX1_isAtHand ∈ zT := zT_i (List.mem_of_getElem? (i := 598) (by decide +kernel)) rfl
theorem tw599 : Cond.methodLink RX7 200 yX1_easiestPlace ∈ zT := zT_i (List.mem_of_getElem? (i := 599) (by decide +kernel)) rfl
theorem tw600 : Cond.instanceMethod yX1_easiestPlace ∈ zT := zT_i (List.mem_of_getElem? (i := 600) (by decide +kernel)) rfl
theorem tw601 : Cond.selects RX1 yX1_easiestPlace yX1_easiestPlace ∈ zT := zT_i (List.mem_of_getElem? (i := 601) (by decide +kernel)) rfl
theorem tw602 : Cond.code yX1_easiestPlace cX1_easiestPlace 8 (some .int) ∈ zT := zT_i (List.mem_of_getElem? (i := 602) (by decide +kernel)) rfl
theorem tw603 : Cond.methodLink RX1 95 yX1_isFree ∈ zT := zT_i (List.mem_of_getElem? (i := 603) (by decide +kernel)) rfl
theorem tw604 : Cond.methodLink RX1 99 yX1_greaterShare ∈ zT := zT_i (List.mem_of_getElem? (i := 604) (by decide +kernel)) rfl
theorem tw606 : Cond.instanceMethod yX1_greaterShare ∈ zT := zT_i (List.mem_of_getElem? (i := 606) (by decide +kernel)) rfl
theorem tw607 : Cond.code yX1_greaterShare cX1_greaterShare 6 (some .float) ∈ zT := zT_i (List.mem_of_getElem? (i := 607) (by decide +kernel)) rfl
theorem tw608 : Cond.methodLink RX1 91 yX1_shareOf ∈ zT := zT_i (List.mem_of_getElem? (i := 608) (by decide +kernel)) rfl
theorem tw609 : Cond.static yX1_shareOf ∈ zT := zT_i (List.mem_of_getElem? (i := 609) (by decide +kernel)) rfl
theorem tw610 : Cond.code yX1_shareOf cX1_shareOf 2 (some .float) ∈ zT := zT_i (List.mem_of_getElem? (i := 610) (by decide +kernel)) rfl
theorem tw611 : Cond.methodLink RL 108 yL_share ∈ zT := zT_i (List.mem_of_getElem? (i := 611) (by decide +kernel)) rfl
theorem tw612 : Cond.static yL_share ∈ zT := zT_i (List.mem_of_getElem? (i := 612) (by decide +kernel)) rfl
theorem tw613 : Cond.code yL_share cL_share 9 (some .long) ∈ zT := zT_i (List.mem_of_getElem? (i := 613) (by decide +kernel)) rfl
theorem tw614 : Cond.constantLong RL 116 (-1) ∈ zT := zT_i (List.mem_of_getElem? (i := 614) (by decide +kernel)) rfl
theorem tw615 : Cond.constantLong RL 118 (250000) ∈ zT := zT_i (List.mem_of_getElem? (i := 615) (by decide +kernel)) rfl
theorem tw616 : Cond.constantLong RL 112 (1000000) ∈ zT := zT_i (List.mem_of_getElem? (i := 616) (by decide +kernel)) rfl
theorem tw617 : Cond.constantLong RL 114 (2) ∈ zT := zT_i (List.mem_of_getElem? (i := 617) (by decide +kernel)) rfl
theorem mi_X7_init : zMI yX7_init cX7_init 1 0 := ⟨⟨tw24, tw10, tw25, rfl⟩, by decide +kernel⟩
theorem mi_X5_init : zMI yX5_init cX5_init 2 0 := ⟨⟨tw32, tw11, tw33, rfl⟩, by decide +kernel⟩
theorem mv_X5_setCell : zMV yX5_setCell RX5 cX5_setCell 3 none 2 := ⟨⟨tw36, tw37, tw11, tw38⟩, by decide +kernel⟩
theorem mv_X5_setLorryCell : zMV yX5_setLorryCell RX5 cX5_setLorryCell 4 none 3 := ⟨⟨tw40, tw41, tw11, tw42⟩, by decide +kernel⟩
theorem mi_X1_init : zMI yX1_init cX1_init 2 1 := ⟨⟨tw51, tw12, tw52, rfl⟩, by decide +kernel⟩
theorem mi_X6_init : zMI yX6_init cX6_init 3 2 := ⟨⟨tw61, tw13, tw62, rfl⟩, by decide +kernel⟩
theorem mi_X2_init : zMI yX2_init cX2_init 1 0 := ⟨⟨tw74, tw14, tw75, rfl⟩, by decide +kernel⟩
theorem mi_X4_init : zMI yX4_init cX4_init 1 0 := ⟨⟨tw92, tw15, tw93, rfl⟩, by decide +kernel⟩
theorem mi_X3_init : zMI yX3_init cX3_init 1 0 := ⟨⟨tw107, tw16, tw108, rfl⟩, by decide +kernel⟩
theorem mv_X7_count : zMV yX7_count RX7 cX7_count 2 (some .int) 1 := ⟨⟨tw153, tw154, tw10, tw155⟩, by decide +kernel⟩
theorem mv_X5_cell : zMV yX5_cell RX5 cX5_cell 2 (some .int) 1 := ⟨⟨tw157, tw158, tw11, tw159⟩, by decide +kernel⟩
theorem mv_X5_blocksWith : zMV yX5_blocksWith RX5 cX5_blocksWith 6 (some .int) 2 := ⟨⟨tw161, tw162, tw11, tw163⟩, by decide +kernel⟩
theorem mv_X5_blockCell : zMV yX5_blockCell RX5 cX5_blockCell 4 (some .int) 2 := ⟨⟨tw166, tw167, tw11, tw168⟩, by decide +kernel⟩
theorem mv_X1_uncutBlocks : zMV yX1_uncutBlocks RX1 cX1_uncutBlocks 2 (some .int) 0 := ⟨⟨tw170, tw171, tw12, tw172⟩, by decide +kernel⟩
theorem mv_X1_quarriedWeight : zMV yX1_quarriedWeight RX1 cX1_quarriedWeight 1 (some .int) 0 := ⟨⟨tw176, tw177, tw12, tw178⟩, by decide +kernel⟩
theorem mv_X1_weightOf : zMV yX1_weightOf RX1 cX1_weightOf 5 (some .int) 1 := ⟨⟨tw180, tw181, tw12, tw182⟩, by decide +kernel⟩
theorem mv_X1_uncutWeight : zMV yX1_uncutWeight RX1 cX1_uncutWeight 1 (some .int) 0 := ⟨⟨tw185, tw186, tw12, tw187⟩, by decide +kernel⟩
theorem mv_X1_lostWeight : zMV yX1_lostWeight RX1 cX1_lostWeight 1 (some .int) 0 := ⟨⟨tw190, tw191, tw12, tw192⟩, by decide +kernel⟩
theorem mv_X1_allInvoices : zMV yX1_allInvoices RX1 cX1_allInvoices 4 (some .int) 0 := ⟨⟨tw197, tw198, tw12, tw199⟩, by decide +kernel⟩
theorem mv_X5_orderCell : zMV yX5_orderCell RX5 cX5_orderCell 3 (some .int) 2 := ⟨⟨tw201, tw202, tw11, tw203⟩, by decide +kernel⟩
theorem mv_X3_length : zMV yX3_length RX3 cX3_length 1 (some .int) 0 := ⟨⟨tw205, tw206, tw16, tw207⟩, by decide +kernel⟩
theorem mv_X2_size : zMV yX2_size RX2 cX2_size 1 (some .int) 0 := ⟨⟨tw209, tw210, tw14, tw211⟩, by decide +kernel⟩
theorem mv_X7_meanWeight : zMV yX7_meanWeight RX7 cX7_meanWeight 2 (some .long) 0 := ⟨⟨tw213, tw214, tw10, tw215⟩, by decide +kernel⟩
theorem ms_J6_bitCount_0f7a4 : zMS yJ6_bitCount_0f7a4 cJ6_bitCount_0f7a4 1 (some .int) 1 := ⟨⟨tw217, tw20, tw218⟩, by decide +kernel⟩
theorem ms_X0_ofDouble : zMS yX0_ofDouble cX0_ofDouble 7 (some .long) 1 := ⟨⟨tw223, tw17, tw224⟩, by decide +kernel⟩
theorem mv_X7_undo : zMV yX7_undo RX7 cX7_undo 1 (some .int) 0 := ⟨⟨tw229, tw230, tw10, tw231⟩, by decide +kernel⟩
theorem mv_X2_goBack : zMV yX2_goBack RX2 cX2_goBack 2 (some .int) 1 := ⟨⟨tw233, tw234, tw14, tw235⟩, by decide +kernel⟩
theorem mv_X2_nextRow : zMV yX2_nextRow RX2 cX2_nextRow 1 (some (.array .int)) 0 := ⟨⟨tw238, tw0, tw14, tw239⟩, by decide +kernel⟩
theorem mv_X5_copyFrom : zMV yX5_copyFrom RX5 cX5_copyFrom 2 none 1 := ⟨⟨tw241, tw242, tw11, tw243⟩, by decide +kernel⟩
theorem ms_X7_copyRow : zMS yX7_copyRow cX7_copyRow 2 none 2 := ⟨⟨tw245, tw10, tw246⟩, by decide +kernel⟩
theorem ms_L_cell : zMS yL_cell cL_cell 2 (some .int) 2 := ⟨⟨tw251, tw9, tw252⟩, by decide +kernel⟩
theorem ms_L_low : zMS yL_low cL_low 2 (some .int) 2 := ⟨⟨tw255, tw9, tw256⟩, by decide +kernel⟩
theorem ms_L_change : zMS yL_change cL_change 6 (some .int) 4 := ⟨⟨tw259, tw9, tw260⟩, by decide +kernel⟩
theorem mv_X7_quarry : zMV yX7_quarry RX7 cX7_quarry 5 (some .int) 4 := ⟨⟨tw262, tw263, tw10, tw264⟩, by decide +kernel⟩
theorem mv_X2_note : zMV yX2_note RX2 cX2_note 2 none 1 := ⟨⟨tw266, tw267, tw14, tw268⟩, by decide +kernel⟩
theorem mv_X5_copyTo : zMV yX5_copyTo RX5 cX5_copyTo 2 none 1 := ⟨⟨tw270, tw271, tw11, tw272⟩, by decide +kernel⟩
theorem mv_X6_quarryBlock : zMV yX6_quarryBlock RX6 cX6_quarryBlock 5 (some .int) 4 := ⟨⟨tw274, tw275, tw13, tw276⟩, by decide +kernel⟩
theorem ms_X7_isSize : zMS yX7_isSize cX7_isSize 1 (some .boolean) 1 := ⟨⟨tw278, tw10, tw279⟩, by decide +kernel⟩
theorem mv_X6_addBlock : zMV yX6_addBlock RX6 cX6_addBlock 6 (some .int) 4 := ⟨⟨tw283, tw1, tw13, tw284⟩, by decide +kernel⟩
theorem mv_X5_setBlockCell : zMV yX5_setBlockCell RX5 cX5_setBlockCell 4 none 3 := ⟨⟨tw287, tw288, tw11, tw289⟩, by decide +kernel⟩
theorem mv_X2_settle : zMV yX2_settle RX2 cX2_settle 2 (some .int) 1 := ⟨⟨tw291, tw292, tw14, tw293⟩, by decide +kernel⟩
theorem ms_J9_min_7cf53 : zMS yJ9_min_7cf53 cJ9_min_7cf53 2 (some .int) 2 := ⟨⟨tw295, tw18, tw296⟩, by decide +kernel⟩
theorem mv_X7_cut : zMV yX7_cut RX7 cX7_cut 4 (some .int) 3 := ⟨⟨tw298, tw299, tw10, tw300⟩, by decide +kernel⟩
theorem mv_X6_cutBlock : zMV yX6_cutBlock RX6 cX6_cutBlock 7 (some .int) 3 := ⟨⟨tw302, tw303, tw13, tw304⟩, by decide +kernel⟩
theorem mv_X5_hasBlock : zMV yX5_hasBlock RX5 cX5_hasBlock 2 (some .boolean) 1 := ⟨⟨tw306, tw307, tw11, tw308⟩, by decide +kernel⟩
theorem mv_X1_mayBeSawn : zMV yX1_mayBeSawn RX1 cX1_mayBeSawn 2 (some .boolean) 1 := ⟨⟨tw311, tw312, tw12, tw313⟩, by decide +kernel⟩
theorem mv_X1_isAtHand : zMV yX1_isAtHand RX1 cX1_isAtHand 3 (some .boolean) 1 := ⟨⟨tw315, tw316, tw12, tw317⟩, by decide +kernel⟩
theorem mv_X6_addPiece : zMV yX6_addPiece RX6 cX6_addPiece 9 (some .int) 4 := ⟨⟨tw320, tw2, tw13, tw321⟩, by decide +kernel⟩
theorem mv_X1_roofHasRoom : zMV yX1_roofHasRoom RX1 cX1_roofHasRoom 1 (some .boolean) 0 := ⟨⟨tw323, tw324, tw12, tw325⟩, by decide +kernel⟩
theorem mv_X7_shelter : zMV yX7_shelter RX7 cX7_shelter 2 (some .int) 1 := ⟨⟨tw328, tw329, tw10, tw330⟩, by decide +kernel⟩
theorem mv_X6_moveBlock : zMV yX6_moveBlock RX6 cX6_moveBlock 3 (some .int) 1 := ⟨⟨tw332, tw333, tw13, tw334⟩, by decide +kernel⟩
theorem mv_X7_order : zMV yX7_order RX7 cX7_order 4 (some .int) 3 := ⟨⟨tw337, tw338, tw10, tw339⟩, by decide +kernel⟩
theorem mv_X6_takeOrder : zMV yX6_takeOrder RX6 cX6_takeOrder 5 (some .int) 3 := ⟨⟨tw341, tw342, tw13, tw343⟩, by decide +kernel⟩
theorem ms_X7_greatestOf : zMS yX7_greatestOf cX7_greatestOf 3 (some .int) 3 := ⟨⟨tw345, tw10, tw346⟩, by decide +kernel⟩
theorem ms_J9_max_7cf53 : zMS yJ9_max_7cf53 cJ9_max_7cf53 2 (some .int) 2 := ⟨⟨tw348, tw18, tw349⟩, by decide +kernel⟩
theorem mv_X5_setOrderCell : zMV yX5_setOrderCell RX5 cX5_setOrderCell 4 none 3 := ⟨⟨tw351, tw352, tw11, tw353⟩, by decide +kernel⟩
theorem ms_X7_middleOf : zMS yX7_middleOf cX7_middleOf 3 (some .int) 3 := ⟨⟨tw355, tw10, tw356⟩, by decide +kernel⟩
theorem ms_X7_leastOf : zMS yX7_leastOf cX7_leastOf 3 (some .int) 3 := ⟨⟨tw359, tw10, tw360⟩, by decide +kernel⟩
theorem mv_X7_of : zMV yX7_of RX7 cX7_of 3 (some .int) 2 := ⟨⟨tw364, tw365, tw10, tw366⟩, by decide +kernel⟩
theorem mv_X7_give : zMV yX7_give RX7 cX7_give 3 (some .int) 2 := ⟨⟨tw370, tw371, tw10, tw372⟩, by decide +kernel⟩
theorem mv_X6_giveBlock : zMV yX6_giveBlock RX6 cX6_giveBlock 4 (some .int) 2 := ⟨⟨tw374, tw375, tw13, tw376⟩, by decide +kernel⟩
theorem mv_X5_hasOrder : zMV yX5_hasOrder RX5 cX5_hasOrder 2 (some .boolean) 1 := ⟨⟨tw378, tw379, tw11, tw380⟩, by decide +kernel⟩
theorem mv_X1_surplusToGive : zMV yX1_surplusToGive RX1 cX1_surplusToGive 4 (some .int) 2 := ⟨⟨tw382, tw383, tw12, tw384⟩, by decide +kernel⟩
theorem mv_X1_surplus : zMV yX1_surplus RX1 cX1_surplus 9 (some .int) 4 := ⟨⟨tw386, tw387, tw12, tw388⟩, by decide +kernel⟩
theorem mv_X1_isWithinOver : zMV yX1_isWithinOver RX1 cX1_isWithinOver 2 (some .boolean) 1 := ⟨⟨tw394, tw3, tw12, tw395⟩, by decide +kernel⟩
theorem mv_X7_takeBack : zMV yX7_takeBack RX7 cX7_takeBack 2 (some .int) 1 := ⟨⟨tw397, tw398, tw10, tw399⟩, by decide +kernel⟩
theorem mv_X6_takeBlockAway : zMV yX6_takeBlockAway RX6 cX6_takeBlockAway 3 (some .int) 1 := ⟨⟨tw401, tw402, tw13, tw403⟩, by decide +kernel⟩
theorem mv_X7_limits : zMV yX7_limits RX7 cX7_limits 5 (some .int) 4 := ⟨⟨tw406, tw407, tw10, tw408⟩, by decide +kernel⟩
theorem mv_X6_changeLimits : zMV yX6_changeLimits RX6 cX6_changeLimits 5 (some .int) 4 := ⟨⟨tw410, tw411, tw13, tw412⟩, by decide +kernel⟩
theorem ms_X7_isLorry : zMS yX7_isLorry cX7_isLorry 1 (some .boolean) 1 := ⟨⟨tw414, tw10, tw415⟩, by decide +kernel⟩
theorem ms_X6_isLimit : zMS yX6_isLimit cX6_isLimit 1 (some .boolean) 1 := ⟨⟨tw417, tw13, tw418⟩, by decide +kernel⟩
theorem mv_X7_load : zMV yX7_load RX7 cX7_load 4 (some .int) 3 := ⟨⟨tw421, tw422, tw10, tw423⟩, by decide +kernel⟩
theorem mv_X6_loadBlock : zMV yX6_loadBlock RX6 cX6_loadBlock 4 (some .int) 3 := ⟨⟨tw425, tw426, tw13, tw427⟩, by decide +kernel⟩
theorem mv_X1_isFree : zMV yX1_isFree RX1 cX1_isFree 3 (some .boolean) 2 := ⟨⟨tw429, tw430, tw12, tw431⟩, by decide +kernel⟩
theorem mv_X1_loadOf : zMV yX1_loadOf RX1 cX1_loadOf 2 (some .int) 1 := ⟨⟨tw433, tw434, tw12, tw435⟩, by decide +kernel⟩
theorem mv_X1_blocksOn : zMV yX1_blocksOn RX1 cX1_blocksOn 4 (some .int) 1 := ⟨⟨tw437, tw438, tw12, tw439⟩, by decide +kernel⟩
theorem mv_X7_unload : zMV yX7_unload RX7 cX7_unload 2 (some .int) 1 := ⟨⟨tw441, tw442, tw10, tw443⟩, by decide +kernel⟩
theorem mv_X6_unloadBlock : zMV yX6_unloadBlock RX6 cX6_unloadBlock 3 (some .int) 1 := ⟨⟨tw445, tw446, tw13, tw447⟩, by decide +kernel⟩
theorem mv_X7_leave : zMV yX7_leave RX7 cX7_leave 2 (some .int) 1 := ⟨⟨tw449, tw450, tw10, tw451⟩, by decide +kernel⟩
theorem mv_X6_sendLorry : zMV yX6_sendLorry RX6 cX6_sendLorry 5 (some .int) 1 := ⟨⟨tw453, tw454, tw13, tw455⟩, by decide +kernel⟩
theorem mv_X1_reasonToStay : zMV yX1_reasonToStay RX1 cX1_reasonToStay 3 (some .int) 1 := ⟨⟨tw457, tw458, tw12, tw459⟩, by decide +kernel⟩
theorem mv_X5_lorryCell : zMV yX5_lorryCell RX5 cX5_lorryCell 3 (some .int) 2 := ⟨⟨tw461, tw462, tw11, tw463⟩, by decide +kernel⟩
theorem mv_X1_front : zMV yX1_front RX1 cX1_front 6 (some .float) 3 := ⟨⟨tw465, tw466, tw12, tw467⟩, by decide +kernel⟩
theorem mv_X1_weightAt : zMV yX1_weightAt RX1 cX1_weightAt 8 (some .float) 4 := ⟨⟨tw470, tw4, tw12, tw471⟩, by decide +kernel⟩
theorem mv_X1_rear : zMV yX1_rear RX1 cX1_rear 6 (some .float) 3 := ⟨⟨tw474, tw475, tw12, tw476⟩, by decide +kernel⟩
theorem mv_X6_deliver : zMV yX6_deliver RX6 cX6_deliver 4 (some .int) 1 := ⟨⟨tw480, tw5, tw13, tw481⟩, by decide +kernel⟩
theorem mv_X7_night : zMV yX7_night RX7 cX7_night 2 (some .int) 1 := ⟨⟨tw484, tw485, tw10, tw486⟩, by decide +kernel⟩
theorem mv_X6_passNight : zMV yX6_passNight RX6 cX6_passNight 5 (some .int) 1 := ⟨⟨tw488, tw489, tw13, tw490⟩, by decide +kernel⟩
theorem mv_X6_crackBlocks : zMV yX6_crackBlocks RX6 cX6_crackBlocks 3 (some .int) 0 := ⟨⟨tw493, tw6, tw13, tw494⟩, by decide +kernel⟩
theorem mv_X1_blocksForFrost : zMV yX1_blocksForFrost RX1 cX1_blocksForFrost 1 (some .int) 0 := ⟨⟨tw496, tw497, tw12, tw498⟩, by decide +kernel⟩
theorem mv_X6_dryBlocks : zMV yX6_dryBlocks RX6 cX6_dryBlocks 5 none 0 := ⟨⟨tw503, tw7, tw13, tw504⟩, by decide +kernel⟩
theorem mv_X7_set : zMV yX7_set RX7 cX7_set 3 (some .int) 2 := ⟨⟨tw506, tw507, tw10, tw508⟩, by decide +kernel⟩
theorem mv_X6_changeSetting : zMV yX6_changeSetting RX6 cX6_changeSetting 4 (some .int) 2 := ⟨⟨tw510, tw511, tw13, tw512⟩, by decide +kernel⟩
theorem ms_L_holds : zMS yL_holds cL_holds 6 (some .boolean) 1 := ⟨⟨tw518, tw9, tw519⟩, by decide +kernel⟩
theorem ms_L_isBlock : zMS yL_isBlock cL_isBlock 6 (some .boolean) 2 := ⟨⟨tw521, tw9, tw522⟩, by decide +kernel⟩
theorem mv_X7_ofLorry : zMV yX7_ofLorry RX7 cX7_ofLorry 3 (some .int) 2 := ⟨⟨tw524, tw525, tw10, tw526⟩, by decide +kernel⟩
theorem ms_X0_ofFloat : zMS yX0_ofFloat cX0_ofFloat 4 (some .int) 1 := ⟨⟨tw531, tw17, tw532⟩, by decide +kernel⟩
theorem mv_X7_ofOrder : zMV yX7_ofOrder RX7 cX7_ofOrder 3 (some .int) 2 := ⟨⟨tw538, tw539, tw10, tw540⟩, by decide +kernel⟩
theorem mv_X1_blocksToGive : zMV yX1_blocksToGive RX1 cX1_blocksToGive 5 (some .int) 1 := ⟨⟨tw543, tw544, tw12, tw545⟩, by decide +kernel⟩
theorem mv_X7_ifFrost : zMV yX7_ifFrost RX7 cX7_ifFrost 1 (some .int) 0 := ⟨⟨tw549, tw550, tw10, tw551⟩, by decide +kernel⟩
theorem ms_L_isOrder : zMS yL_isOrder cL_isOrder 10 (some .boolean) 2 := ⟨⟨tw554, tw9, tw555⟩, by decide +kernel⟩
theorem mv_X7_bestBlock : zMV yX7_bestBlock RX7 cX7_bestBlock 2 (some .int) 1 := ⟨⟨tw557, tw558, tw10, tw559⟩, by decide +kernel⟩
theorem mv_X1_nearestBlock : zMV yX1_nearestBlock RX1 cX1_nearestBlock 7 (some .int) 1 := ⟨⟨tw561, tw562, tw12, tw563⟩, by decide +kernel⟩
theorem ms_L_isLorry : zMS yL_isLorry cL_isLorry 8 (some .boolean) 2 := ⟨⟨tw565, tw9, tw566⟩, by decide +kernel⟩
theorem ms_L_axle : zMS yL_axle cL_axle 7 (some .int) 3 := ⟨⟨tw568, tw9, tw569⟩, by decide +kernel⟩
theorem ms_L_bitsOf : zMS yL_bitsOf cL_bitsOf 2 (some .int) 1 := ⟨⟨tw571, tw9, tw572⟩, by decide +kernel⟩
theorem mv_X7_why : zMV yX7_why RX7 cX7_why 2 (some .int) 1 := ⟨⟨tw575, tw576, tw10, tw577⟩, by decide +kernel⟩
theorem ms_L_bits : zMS yL_bits cL_bits 3 (some .int) 1 := ⟨⟨tw580, tw9, tw581⟩, by decide +kernel⟩
theorem ms_L_tries : zMS yL_tries cL_tries 17 (some .boolean) 2 := ⟨⟨tw583, tw9, tw584⟩, by decide +kernel⟩
theorem mv_X7_fittingCut : zMV yX7_fittingCut RX7 cX7_fittingCut 6 (some .int) 3 := ⟨⟨tw586, tw587, tw10, tw588⟩, by decide +kernel⟩
theorem mv_X1_fittingLength : zMV yX1_fittingLength RX1 cX1_fittingLength 10 (some .int) 3 := ⟨⟨tw591, tw592, tw12, tw593⟩, by decide +kernel⟩
theorem mv_X7_bestPlace : zMV yX7_bestPlace RX7 cX7_bestPlace 3 (some .int) 2 := ⟨⟨tw595, tw596, tw10, tw597⟩, by decide +kernel⟩
theorem mv_X1_easiestPlace : zMV yX1_easiestPlace RX1 cX1_easiestPlace 8 (some .int) 2 := ⟨⟨tw600, tw601, tw12, tw602⟩, by decide +kernel⟩
theorem mv_X1_greaterShare : zMV yX1_greaterShare RX1 cX1_greaterShare 6 (some .float) 3 := ⟨⟨tw606, tw8, tw12, tw607⟩, by decide +kernel⟩
theorem ms_X1_shareOf : zMS yX1_shareOf cX1_shareOf 2 (some .float) 2 := ⟨⟨tw609, tw12, tw610⟩, by decide +kernel⟩
theorem ms_L_share : zMS yL_share cL_share 9 (some .long) 4 := ⟨⟨tw612, tw9, tw613⟩, by decide +kernel⟩
theorem zin_X0 : ∀ w ∈ wsX00, w ∈ zT := by decide +kernel
theorem zin_X1 : ∀ w ∈ wsX10, w ∈ zT := by decide +kernel
theorem zin_X2 : ∀ w ∈ wsX20, w ∈ zT := by decide +kernel
theorem zin_X3 : ∀ w ∈ wsX30, w ∈ zT := by decide +kernel
theorem zin_X4 : ∀ w ∈ wsX40, w ∈ zT := by decide +kernel
theorem zin_X5 : ∀ w ∈ wsX50, w ∈ zT := by decide +kernel
theorem zin_X6 : ∀ w ∈ wsX60, w ∈ zT := by decide +kernel
theorem zin_X7 : ∀ w ∈ wsX70, w ∈ zT := by decide +kernel
theorem zin_X8 : ∀ w ∈ wsX80, w ∈ zT := by decide +kernel
/-- links of private members of nest mates: facts of the tables that warm machines keep -/
def zNw (U : State) : Prop := va_Nw (Cond.methodLinkNest RX7 36 yX2_init RX7) U ∧ va_Nw (Cond.methodLinkNest RX7 43 yX4_init RX7) U ∧ va_Nw (Cond.methodLinkNest RX7 50 yX3_init RX7) U ∧ va_Nw (Cond.methodLinkNest RX5 31 yX7_copyRow RX7) U ∧ va_Nw (Cond.methodLinkNest RX6 36 yX7_isSize RX7) U ∧ va_Nw (Cond.methodLinkNest RX6 71 yX7_greatestOf RX7) U ∧ va_Nw (Cond.methodLinkNest RX6 78 yX7_middleOf RX7) U ∧ va_Nw (Cond.methodLinkNest RX6 81 yX7_leastOf RX7) U ∧ va_Nw (Cond.methodLinkNest RX1 53 yX7_greatestOf RX7) U ∧ va_Nw (Cond.methodLinkNest RX1 57 yX7_middleOf RX7) U ∧ va_Nw (Cond.methodLinkNest RX1 60 yX7_leastOf RX7) U ∧ va_Nw (Cond.methodLinkNest RX6 93 yX7_isLorry RX7) U ∧ va_Nw (Cond.fieldLinkNest RX6 19 "QuarryOrders" "LEAST_SETTING" "[I" "QuarryOrders") U ∧ va_Nw (Cond.fieldLinkNest RX6 23 "QuarryOrders" "MOST_SETTING" "[I" "QuarryOrders") U
theorem zNw.warm {s U : State} (hW : s.WarmedH U.vm) (h : zNw s) : zNw U := ⟨va_Nw.warmM hW h.1, va_Nw.warmM hW h.2.1, va_Nw.warmM hW h.2.2.1, va_Nw.warmM hW h.2.2.2.1, va_Nw.warmM hW h.2.2.2.2.1, va_Nw.warmM hW h.2.2.2.2.2.1, va_Nw.warmM hW h.2.2.2.2.2.2.1, va_Nw.warmM hW h.2.2.2.2.2.2.2.1, va_Nw.warmM hW h.2.2.2.2.2.2.2.2.1, va_Nw.warmM hW h.2.2.2.2.2.2.2.2.2.1, va_Nw.warmM hW h.2.2.2.2.2.2.2.2.2.2.1, va_Nw.warmM hW h.2.2.2.2.2.2.2.2.2.2.2.1, va_Nw.warmF hW h.2.2.2.2.2.2.2.2.2.2.2.2.1, va_Nw.warmF hW h.2.2.2.2.2.2.2.2.2.2.2.2.2⟩
theorem zNw.same {u U : State} (hv : u.vm = U.vm) (h : zNw u) : zNw U := ⟨va_Nw.same rfl hv h.1, va_Nw.same rfl hv h.2.1, va_Nw.same rfl hv h.2.2.1, va_Nw.same rfl hv h.2.2.2.1, va_Nw.same rfl hv h.2.2.2.2.1, va_Nw.same rfl hv h.2.2.2.2.2.1, va_Nw.same rfl hv h.2.2.2.2.2.2.1, va_Nw.same rfl hv h.2.2.2.2.2.2.2.1, va_Nw.same rfl hv h.2.2.2.2.2.2.2.2.1, va_Nw.same rfl hv h.2.2.2.2.2.2.2.2.2.1, va_Nw.same rfl hv h.2.2.2.2.2.2.2.2.2.2.1, va_Nw.same rfl hv h.2.2.2.2.2.2.2.2.2.2.2.1, va_Nw.same rfl hv h.2.2.2.2.2.2.2.2.2.2.2.2.1, va_Nw.same rfl hv h.2.2.2.2.2.2.2.2.2.2.2.2.2⟩
theorem zNw.of {A : Array Value} {s : State} (hts : ∀ w ∈ lw_tbl, w.before A s = true) : zNw s := ⟨va_Nw.of rfl (hts _ tw73), va_Nw.of rfl (hts _ tw91), va_Nw.of rfl (hts _ tw106), va_Nw.of rfl (hts _ tw244), va_Nw.of rfl (hts _ tw277), va_Nw.of rfl (hts _ tw344), va_Nw.of rfl (hts _ tw354), va_Nw.of rfl (hts _ tw362), va_Nw.of rfl (hts _ tw389), va_Nw.of rfl (hts _ tw390), va_Nw.of rfl (hts _ tw391), va_Nw.of rfl (hts _ tw413), va_Nw.of rfl (hts _ tw513), va_Nw.of rfl (hts _ tw515)⟩
theorem nw73 {s : State} (h : zNw s) : va_Nw (Cond.methodLinkNest RX7 36 yX2_init RX7) s := h.1
theorem nw91 {s : State} (h : zNw s) : va_Nw (Cond.methodLinkNest RX7 43 yX4_init RX7) s := h.2.1
theorem nw106 {s : State} (h : zNw s) : va_Nw (Cond.methodLinkNest RX7 50 yX3_init RX7) s := h.2.2.1
theorem nw244 {s : State} (h : zNw s) : va_Nw (Cond.methodLinkNest RX5 31 yX7_copyRow RX7) s := h.2.2.2.1
theorem nw277 {s : State} (h : zNw s) : va_Nw (Cond.methodLinkNest RX6 36 yX7_isSize RX7) s := h.2.2.2.2.1
theorem nw344 {s : State} (h : zNw s) : va_Nw (Cond.methodLinkNest RX6 71 yX7_greatestOf RX7) s := h.2.2.2.2.2.1
theorem nw354 {s : State} (h : zNw s) : va_Nw (Cond.methodLinkNest RX6 78 yX7_middleOf RX7) s := h.2.2.2.2.2.2.1
theorem nw362 {s : State} (h : zNw s) : va_Nw (Cond.methodLinkNest RX6 81 yX7_leastOf RX7) s := h.2.2.2.2.2.2.2.1
theorem nw389 {s : State} (h : zNw s) : va_Nw (Cond.methodLinkNest RX1 53 yX7_greatestOf RX7) s := h.2.2.2.2.2.2.2.2.1
theorem nw390 {s : State} (h : zNw s) : va_Nw (Cond.methodLinkNest RX1 57 yX7_middleOf RX7) s := h.2.2.2.2.2.2.2.2.2.1
theorem nw391 {s : State} (h : zNw s) : va_Nw (Cond.methodLinkNest RX1 60 yX7_leastOf RX7) s := h.2.2.2.2.2.2.2.2.2.2.1
theorem nw413 {s : State} (h : zNw s) : va_Nw (Cond.methodLinkNest RX6 93 yX7_isLorry RX7) s := h.2.2.2.2.2.2.2.2.2.2.2.1
theorem nw513 {s : State} (h : zNw s) : va_Nw (Cond.fieldLinkNest RX6 19 "QuarryOrders" "LEAST_SETTING" "[I" "QuarryOrders") s := h.2.2.2.2.2.2.2.2.2.2.2.2.1
theorem nw515 {s : State} (h : zNw s) : va_Nw (Cond.fieldLinkNest RX6 23 "QuarryOrders" "MOST_SETTING" "[I" "QuarryOrders") s := h.2.2.2.2.2.2.2.2.2.2.2.2.2
def zK (D : va_G) (tys : List (ClassId × FieldType)) (U : State) : Prop := va_K D vwCl tys U ∧ zNw U
theorem zK.warm {D : va_G} {tys : List (ClassId × FieldType)} {s U : State} (hW : s.WarmedH U.vm) (h : zK D tys s) : zK D tys U := ⟨va_K.moved hW.alike h.1, h.2.warm hW⟩
theorem zK.frame {D : va_G} {tys : List (ClassId × FieldType)} {U : State} {g : JFrame} {mk : MethodId} {a : Array Value} (h : zK D tys U) : zK D tys (U.calling g mk a) := ⟨va_K.moved (u := U) (U := U.calling g mk a) (Vm.Alike.refl U.vm) h.1, h.2.same rfl⟩
