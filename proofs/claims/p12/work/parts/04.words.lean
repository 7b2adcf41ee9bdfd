theorem t_0 : Cond.initialized RL ∈ gT := gT_tab (List.mem_of_getElem? (i := 0) (by decide +kernel)) rfl
theorem t_1 : Cond.initialized RX6 ∈ gT := gT_tab (List.mem_of_getElem? (i := 1) (by decide +kernel)) rfl
theorem t_2 : Cond.initialized RX3 ∈ gT := gT_tab (List.mem_of_getElem? (i := 2) (by decide +kernel)) rfl
theorem t_3 : Cond.initialized RX5 ∈ gT := gT_tab (List.mem_of_getElem? (i := 3) (by decide +kernel)) rfl
theorem t_4 : Cond.initialized RX4 ∈ gT := gT_tab (List.mem_of_getElem? (i := 4) (by decide +kernel)) rfl
theorem t_5 : Cond.initialized RX0 ∈ gT := gT_tab (List.mem_of_getElem? (i := 5) (by decide +kernel)) rfl
theorem t_6 : Cond.initialized RX2 ∈ gT := gT_tab (List.mem_of_getElem? (i := 6) (by decide +kernel)) rfl
theorem t_7 : Cond.initialized RX1 ∈ gT := gT_tab (List.mem_of_getElem? (i := 7) (by decide +kernel)) rfl
theorem t_8 : Cond.initialized RX7 ∈ gT := gT_tab (List.mem_of_getElem? (i := 8) (by decide +kernel)) rfl
theorem t_9 : Cond.initialized RJ9 ∈ gT := gT_tab (List.mem_of_getElem? (i := 9) (by decide +kernel)) rfl
theorem t_10 : Cond.initialized RJ7 ∈ gT := gT_tab (List.mem_of_getElem? (i := 10) (by decide +kernel)) rfl
theorem t_11 : Cond.initialized RJ6 ∈ gT := gT_tab (List.mem_of_getElem? (i := 11) (by decide +kernel)) rfl
theorem t_12 : Cond.classLink RL 7 RX6 ∈ gT := gT_tab (List.mem_of_getElem? (i := 12) (by decide +kernel)) rfl
theorem t_13 : Cond.instantiable RX6 10 ∈ gT := gT_tab (List.mem_of_getElem? (i := 13) (by decide +kernel)) rfl
theorem t_14 : Cond.methodLink RL 9 yX6_init ∈ gT := gT_tab (List.mem_of_getElem? (i := 14) (by decide +kernel)) rfl
theorem t_15 : Cond.instanceMethod yX6_init ∈ gT := gT_tab (List.mem_of_getElem? (i := 15) (by decide +kernel)) rfl
theorem t_16 : Cond.code yX6_init cX6_init 1 none ∈ gT := gT_tab (List.mem_of_getElem? (i := 16) (by decide +kernel)) rfl
theorem t_17 : Cond.methodLink RX6 1 objectInit ∈ gT := gT_tab (List.mem_of_getElem? (i := 17) (by decide +kernel)) rfl
theorem t_18 : Cond.instanceMethod objectInit ∈ gT := gT_tab (List.mem_of_getElem? (i := 18) (by decide +kernel)) rfl
theorem t_19 : Cond.code objectInit ⟨#[0xb1]⟩ 1 none ∈ gT := gT_tab (List.mem_of_getElem? (i := 19) (by decide +kernel)) rfl
theorem t_20 : Cond.classLink RX6 7 RX3 ∈ gT := gT_tab (List.mem_of_getElem? (i := 20) (by decide +kernel)) rfl
theorem t_21 : Cond.instantiable RX3 2 ∈ gT := gT_tab (List.mem_of_getElem? (i := 21) (by decide +kernel)) rfl
theorem t_23 : Cond.instanceMethod yX3_init ∈ gT := gT_tab (List.mem_of_getElem? (i := 23) (by decide +kernel)) rfl
theorem t_24 : Cond.code yX3_init cX3_init 1 none ∈ gT := gT_tab (List.mem_of_getElem? (i := 24) (by decide +kernel)) rfl
theorem t_25 : Cond.methodLink RX3 3 objectInit ∈ gT := gT_tab (List.mem_of_getElem? (i := 25) (by decide +kernel)) rfl
theorem t_26 : Cond.fieldLink RX3 9 "GrownGraphs$Page" "codes" "[I" ∈ gT := gT_tab (List.mem_of_getElem? (i := 26) (by decide +kernel)) rfl
theorem t_27 : Cond.fieldLink RX6 198 "GrownGraphs$Page" "codes" "[I" ∈ gT := gT_tab (List.mem_of_getElem? (i := 27) (by decide +kernel)) rfl
theorem t_28 : Cond.fieldLink RX3 15 "GrownGraphs$Page" "size" "I" ∈ gT := gT_tab (List.mem_of_getElem? (i := 28) (by decide +kernel)) rfl
theorem t_29 : Cond.fieldLink RX6 63 "GrownGraphs$Page" "size" "I" ∈ gT := gT_tab (List.mem_of_getElem? (i := 29) (by decide +kernel)) rfl
theorem t_35 : Cond.arrayClass .int ∈ gT := gT_tab (List.mem_of_getElem? (i := 35) (by decide +kernel)) rfl
theorem t_36 : Cond.classLink RX6 16 RX5 ∈ gT := gT_tab (List.mem_of_getElem? (i := 36) (by decide +kernel)) rfl
theorem t_37 : Cond.instantiable RX5 2 ∈ gT := gT_tab (List.mem_of_getElem? (i := 37) (by decide +kernel)) rfl
theorem t_38 : Cond.methodLink RX6 18 yX5_init ∈ gT := gT_tab (List.mem_of_getElem? (i := 38) (by decide +kernel)) rfl
theorem t_39 : Cond.instanceMethod yX5_init ∈ gT := gT_tab (List.mem_of_getElem? (i := 39) (by decide +kernel)) rfl
theorem t_40 : Cond.code yX5_init cX5_init 2 none ∈ gT := gT_tab (List.mem_of_getElem? (i := 40) (by decide +kernel)) rfl
theorem t_41 : Cond.methodLink RX5 3 objectInit ∈ gT := gT_tab (List.mem_of_getElem? (i := 41) (by decide +kernel)) rfl
theorem t_42 : Cond.classLink RX5 9 RX4 ∈ gT := gT_tab (List.mem_of_getElem? (i := 42) (by decide +kernel)) rfl
theorem t_44 : Cond.instantiable RX4 5 ∈ gT := gT_tab (List.mem_of_getElem? (i := 44) (by decide +kernel)) rfl
theorem t_46 : Cond.instanceMethod yX4_init ∈ gT := gT_tab (List.mem_of_getElem? (i := 46) (by decide +kernel)) rfl
theorem t_47 : Cond.code yX4_init cX4_init 1 none ∈ gT := gT_tab (List.mem_of_getElem? (i := 47) (by decide +kernel)) rfl
theorem t_48 : Cond.methodLink RX4 3 objectInit ∈ gT := gT_tab (List.mem_of_getElem? (i := 48) (by decide +kernel)) rfl
theorem t_49 : Cond.classLink RX4 15 RX0 ∈ gT := gT_tab (List.mem_of_getElem? (i := 49) (by decide +kernel)) rfl
theorem t_50 : Cond.instantiable RX0 5 ∈ gT := gT_tab (List.mem_of_getElem? (i := 50) (by decide +kernel)) rfl
theorem t_51 : Cond.methodLink RX4 17 yX0_init ∈ gT := gT_tab (List.mem_of_getElem? (i := 51) (by decide +kernel)) rfl
theorem t_52 : Cond.instanceMethod yX0_init ∈ gT := gT_tab (List.mem_of_getElem? (i := 52) (by decide +kernel)) rfl
theorem t_53 : Cond.code yX0_init cX0_init 2 none ∈ gT := gT_tab (List.mem_of_getElem? (i := 53) (by decide +kernel)) rfl
theorem t_54 : Cond.methodLink RX0 3 objectInit ∈ gT := gT_tab (List.mem_of_getElem? (i := 54) (by decide +kernel)) rfl
theorem t_55 : Cond.fieldLink RX0 18 "GrownGraphs$Figure" "letters" "[I" ∈ gT := gT_tab (List.mem_of_getElem? (i := 55) (by decide +kernel)) rfl
theorem t_56 : Cond.fieldLink RX4 48 "GrownGraphs$Figure" "letters" "[I" ∈ gT := gT_tab (List.mem_of_getElem? (i := 56) (by decide +kernel)) rfl
theorem t_57 : Cond.fieldLink RX6 132 "GrownGraphs$Figure" "letters" "[I" ∈ gT := gT_tab (List.mem_of_getElem? (i := 57) (by decide +kernel)) rfl
theorem t_58 : Cond.fieldLink RX0 22 "GrownGraphs$Figure" "from" "[I" ∈ gT := gT_tab (List.mem_of_getElem? (i := 58) (by decide +kernel)) rfl
theorem t_59 : Cond.fieldLink RX2 96 "GrownGraphs$Figure" "from" "[I" ∈ gT := gT_tab (List.mem_of_getElem? (i := 59) (by decide +kernel)) rfl
theorem t_60 : Cond.fieldLink RX0 25 "GrownGraphs$Figure" "to" "[I" ∈ gT := gT_tab (List.mem_of_getElem? (i := 60) (by decide +kernel)) rfl
theorem t_61 : Cond.fieldLink RX2 99 "GrownGraphs$Figure" "to" "[I" ∈ gT := gT_tab (List.mem_of_getElem? (i := 61) (by decide +kernel)) rfl
theorem t_62 : Cond.fieldLink RX0 9 "GrownGraphs$Figure" "size" "I" ∈ gT := gT_tab (List.mem_of_getElem? (i := 62) (by decide +kernel)) rfl
theorem t_63 : Cond.fieldLink RX2 18 "GrownGraphs$Figure" "size" "I" ∈ gT := gT_tab (List.mem_of_getElem? (i := 63) (by decide +kernel)) rfl
theorem t_64 : Cond.fieldLink RX6 102 "GrownGraphs$Figure" "size" "I" ∈ gT := gT_tab (List.mem_of_getElem? (i := 64) (by decide +kernel)) rfl
theorem t_65 : Cond.fieldLink RX0 15 "GrownGraphs$Figure" "nodes" "I" ∈ gT := gT_tab (List.mem_of_getElem? (i := 65) (by decide +kernel)) rfl
theorem t_66 : Cond.fieldLink RX2 35 "GrownGraphs$Figure" "nodes" "I" ∈ gT := gT_tab (List.mem_of_getElem? (i := 66) (by decide +kernel)) rfl
theorem t_67 : Cond.fieldLink RX6 115 "GrownGraphs$Figure" "nodes" "I" ∈ gT := gT_tab (List.mem_of_getElem? (i := 67) (by decide +kernel)) rfl
theorem t_79 : Cond.fieldLink RX4 9 "GrownGraphs$Rule" "open" "I" ∈ gT := gT_tab (List.mem_of_getElem? (i := 79) (by decide +kernel)) rfl
theorem t_80 : Cond.fieldLink RX2 65 "GrownGraphs$Rule" "open" "I" ∈ gT := gT_tab (List.mem_of_getElem? (i := 80) (by decide +kernel)) rfl
theorem t_81 : Cond.fieldLink RX6 107 "GrownGraphs$Rule" "open" "I" ∈ gT := gT_tab (List.mem_of_getElem? (i := 81) (by decide +kernel)) rfl
theorem t_82 : Cond.fieldLink RX1 102 "GrownGraphs$Rule" "open" "I" ∈ gT := gT_tab (List.mem_of_getElem? (i := 82) (by decide +kernel)) rfl
theorem t_83 : Cond.fieldLink RX4 20 "GrownGraphs$Rule" "body" "LGrownGraphs$Figure;" ∈ gT := gT_tab (List.mem_of_getElem? (i := 83) (by decide +kernel)) rfl
theorem t_84 : Cond.fieldLink RX2 59 "GrownGraphs$Rule" "body" "LGrownGraphs$Figure;" ∈ gT := gT_tab (List.mem_of_getElem? (i := 84) (by decide +kernel)) rfl
theorem t_85 : Cond.fieldLink RX6 112 "GrownGraphs$Rule" "body" "LGrownGraphs$Figure;" ∈ gT := gT_tab (List.mem_of_getElem? (i := 85) (by decide +kernel)) rfl
theorem t_86 : Cond.fieldLink RX4 24 "GrownGraphs$Rule" "slots" "[I" ∈ gT := gT_tab (List.mem_of_getElem? (i := 86) (by decide +kernel)) rfl
theorem t_87 : Cond.fieldLink RX2 93 "GrownGraphs$Rule" "slots" "[I" ∈ gT := gT_tab (List.mem_of_getElem? (i := 87) (by decide +kernel)) rfl
theorem t_88 : Cond.fieldLink RX1 83 "GrownGraphs$Rule" "slots" "[I" ∈ gT := gT_tab (List.mem_of_getElem? (i := 88) (by decide +kernel)) rfl
theorem t_89 : Cond.fieldLink RX4 28 "GrownGraphs$Rule" "ways" "[I" ∈ gT := gT_tab (List.mem_of_getElem? (i := 89) (by decide +kernel)) rfl
theorem t_90 : Cond.fieldLink RX4 31 "GrownGraphs$Rule" "hues" "[I" ∈ gT := gT_tab (List.mem_of_getElem? (i := 90) (by decide +kernel)) rfl
theorem t_102 : Cond.fieldLink RX5 11 "GrownGraphs$RuleBook" "rules" "[LGrownGraphs$Rule;" ∈ gT := gT_tab (List.mem_of_getElem? (i := 102) (by decide +kernel)) rfl
theorem t_103 : Cond.fieldLink RX1 66 "GrownGraphs$RuleBook" "rules" "[LGrownGraphs$Rule;" ∈ gT := gT_tab (List.mem_of_getElem? (i := 103) (by decide +kernel)) rfl
theorem t_104 : Cond.fieldLink RX2 55 "GrownGraphs$RuleBook" "rules" "[LGrownGraphs$Rule;" ∈ gT := gT_tab (List.mem_of_getElem? (i := 104) (by decide +kernel)) rfl
theorem t_105 : Cond.fieldLink RX6 103 "GrownGraphs$RuleBook" "rules" "[LGrownGraphs$Rule;" ∈ gT := gT_tab (List.mem_of_getElem? (i := 105) (by decide +kernel)) rfl
theorem t_106 : Cond.fieldLink RX5 17 "GrownGraphs$RuleBook" "size" "I" ∈ gT := gT_tab (List.mem_of_getElem? (i := 106) (by decide +kernel)) rfl
theorem t_107 : Cond.fieldLink RX6 80 "GrownGraphs$RuleBook" "size" "I" ∈ gT := gT_tab (List.mem_of_getElem? (i := 107) (by decide +kernel)) rfl
theorem t_108 : Cond.fieldLink RX1 60 "GrownGraphs$RuleBook" "size" "I" ∈ gT := gT_tab (List.mem_of_getElem? (i := 108) (by decide +kernel)) rfl
theorem t_109 : Cond.fieldLink RX2 52 "GrownGraphs$RuleBook" "size" "I" ∈ gT := gT_tab (List.mem_of_getElem? (i := 109) (by decide +kernel)) rfl
theorem t_115 : Cond.classLink RX6 23 RX0 ∈ gT := gT_tab (List.mem_of_getElem? (i := 115) (by decide +kernel)) rfl
theorem t_116 : Cond.methodLink RX6 25 yX0_init ∈ gT := gT_tab (List.mem_of_getElem? (i := 116) (by decide +kernel)) rfl
theorem t_117 : Cond.classLink RX6 32 RX2 ∈ gT := gT_tab (List.mem_of_getElem? (i := 117) (by decide +kernel)) rfl
theorem t_118 : Cond.instantiable RX2 2 ∈ gT := gT_tab (List.mem_of_getElem? (i := 118) (by decide +kernel)) rfl
theorem t_120 : Cond.instanceMethod yX2_init ∈ gT := gT_tab (List.mem_of_getElem? (i := 120) (by decide +kernel)) rfl
theorem t_121 : Cond.code yX2_init cX2_init 1 none ∈ gT := gT_tab (List.mem_of_getElem? (i := 121) (by decide +kernel)) rfl
theorem t_122 : Cond.methodLink RX2 3 objectInit ∈ gT := gT_tab (List.mem_of_getElem? (i := 122) (by decide +kernel)) rfl
theorem t_123 : Cond.fieldLink RX2 11 "GrownGraphs$Origins" "steps" "[I" ∈ gT := gT_tab (List.mem_of_getElem? (i := 123) (by decide +kernel)) rfl
theorem t_124 : Cond.fieldLink RX2 15 "GrownGraphs$Origins" "stand" "[I" ∈ gT := gT_tab (List.mem_of_getElem? (i := 124) (by decide +kernel)) rfl
theorem t_130 : Cond.classLink RX6 39 RX1 ∈ gT := gT_tab (List.mem_of_getElem? (i := 130) (by decide +kernel)) rfl
theorem t_131 : Cond.instantiable RX1 5 ∈ gT := gT_tab (List.mem_of_getElem? (i := 131) (by decide +kernel)) rfl
theorem t_133 : Cond.instanceMethod yX1_init ∈ gT := gT_tab (List.mem_of_getElem? (i := 133) (by decide +kernel)) rfl
theorem t_134 : Cond.code yX1_init cX1_init 1 none ∈ gT := gT_tab (List.mem_of_getElem? (i := 134) (by decide +kernel)) rfl
theorem t_135 : Cond.methodLink RX1 3 objectInit ∈ gT := gT_tab (List.mem_of_getElem? (i := 135) (by decide +kernel)) rfl
theorem t_136 : Cond.fieldLink RX1 11 "GrownGraphs$Lights" "steps" "[J" ∈ gT := gT_tab (List.mem_of_getElem? (i := 136) (by decide +kernel)) rfl
theorem t_137 : Cond.fieldLink RX1 15 "GrownGraphs$Lights" "firsts" "[I" ∈ gT := gT_tab (List.mem_of_getElem? (i := 137) (by decide +kernel)) rfl
theorem t_138 : Cond.fieldLink RX1 19 "GrownGraphs$Lights" "settled" "[Z" ∈ gT := gT_tab (List.mem_of_getElem? (i := 138) (by decide +kernel)) rfl
theorem t_139 : Cond.fieldLink RX1 23 "GrownGraphs$Lights" "settledKinds" "[I" ∈ gT := gT_tab (List.mem_of_getElem? (i := 139) (by decide +kernel)) rfl
theorem t_140 : Cond.fieldLink RX1 26 "GrownGraphs$Lights" "settledCount" "[I" ∈ gT := gT_tab (List.mem_of_getElem? (i := 140) (by decide +kernel)) rfl
theorem t_152 : Cond.arrayClass .long ∈ gT := gT_tab (List.mem_of_getElem? (i := 152) (by decide +kernel)) rfl
theorem t_153 : Cond.arrayClass .boolean ∈ gT := gT_tab (List.mem_of_getElem? (i := 153) (by decide +kernel)) rfl
theorem t_154 : Cond.fieldLink RX6 10 "GrownGraphs" "page" "LGrownGraphs$Page;" ∈ gT := gT_tab (List.mem_of_getElem? (i := 154) (by decide +kernel)) rfl
theorem t_155 : Cond.fieldLink RX6 19 "GrownGraphs" "book" "LGrownGraphs$RuleBook;" ∈ gT := gT_tab (List.mem_of_getElem? (i := 155) (by decide +kernel)) rfl
theorem t_156 : Cond.fieldLink RX6 28 "GrownGraphs" "figure" "LGrownGraphs$Figure;" ∈ gT := gT_tab (List.mem_of_getElem? (i := 156) (by decide +kernel)) rfl
theorem t_157 : Cond.fieldLink RX6 35 "GrownGraphs" "origins" "LGrownGraphs$Origins;" ∈ gT := gT_tab (List.mem_of_getElem? (i := 157) (by decide +kernel)) rfl
theorem t_158 : Cond.fieldLink RX6 42 "GrownGraphs" "lights" "LGrownGraphs$Lights;" ∈ gT := gT_tab (List.mem_of_getElem? (i := 158) (by decide +kernel)) rfl
theorem t_159 : Cond.fieldLink RX6 46 "GrownGraphs" "originsStand" "Z" ∈ gT := gT_tab (List.mem_of_getElem? (i := 159) (by decide +kernel)) rfl
theorem t_160 : Cond.fieldLink RX6 50 "GrownGraphs" "lightsStand" "Z" ∈ gT := gT_tab (List.mem_of_getElem? (i := 160) (by decide +kernel)) rfl
theorem t_161 : Cond.fieldLink RX6 53 "GrownGraphs" "stepsSinceBegin" "I" ∈ gT := gT_tab (List.mem_of_getElem? (i := 161) (by decide +kernel)) rfl
theorem t_162 : Cond.fieldLink RX6 57 "GrownGraphs" "stepsEver" "I" ∈ gT := gT_tab (List.mem_of_getElem? (i := 162) (by decide +kernel)) rfl
theorem t_163 : Cond.fieldLink RX6 60 "GrownGraphs" "graphsEver" "I" ∈ gT := gT_tab (List.mem_of_getElem? (i := 163) (by decide +kernel)) rfl
theorem t_185 : Cond.methodLink RL 13 yX6_letter ∈ gT := gT_tab (List.mem_of_getElem? (i := 185) (by decide +kernel)) rfl
theorem t_186 : Cond.instanceMethod yX6_letter ∈ gT := gT_tab (List.mem_of_getElem? (i := 186) (by decide +kernel)) rfl
theorem t_187 : Cond.selects RX6 yX6_letter yX6_letter ∈ gT := gT_tab (List.mem_of_getElem? (i := 187) (by decide +kernel)) rfl
theorem t_188 : Cond.code yX6_letter cX6_letter 2 (some .int) ∈ gT := gT_tab (List.mem_of_getElem? (i := 188) (by decide +kernel)) rfl
theorem t_189 : Cond.methodLink RX6 66 yX3_write ∈ gT := gT_tab (List.mem_of_getElem? (i := 189) (by decide +kernel)) rfl
theorem t_190 : Cond.instanceMethod yX3_write ∈ gT := gT_tab (List.mem_of_getElem? (i := 190) (by decide +kernel)) rfl
theorem t_191 : Cond.selects RX3 yX3_write yX3_write ∈ gT := gT_tab (List.mem_of_getElem? (i := 191) (by decide +kernel)) rfl
theorem t_192 : Cond.code yX3_write cX3_write 2 none ∈ gT := gT_tab (List.mem_of_getElem? (i := 192) (by decide +kernel)) rfl
theorem t_193 : Cond.methodLink RL 18 yX6_blank ∈ gT := gT_tab (List.mem_of_getElem? (i := 193) (by decide +kernel)) rfl
theorem t_194 : Cond.instanceMethod yX6_blank ∈ gT := gT_tab (List.mem_of_getElem? (i := 194) (by decide +kernel)) rfl
theorem t_195 : Cond.selects RX6 yX6_blank yX6_blank ∈ gT := gT_tab (List.mem_of_getElem? (i := 195) (by decide +kernel)) rfl
theorem t_196 : Cond.code yX6_blank cX6_blank 2 (some .int) ∈ gT := gT_tab (List.mem_of_getElem? (i := 196) (by decide +kernel)) rfl
theorem t_197 : Cond.methodLink RX6 69 yX3_clear ∈ gT := gT_tab (List.mem_of_getElem? (i := 197) (by decide +kernel)) rfl
theorem t_198 : Cond.instanceMethod yX3_clear ∈ gT := gT_tab (List.mem_of_getElem? (i := 198) (by decide +kernel)) rfl
theorem t_199 : Cond.selects RX3 yX3_clear yX3_clear ∈ gT := gT_tab (List.mem_of_getElem? (i := 199) (by decide +kernel)) rfl
theorem t_200 : Cond.code yX3_clear cX3_clear 1 none ∈ gT := gT_tab (List.mem_of_getElem? (i := 200) (by decide +kernel)) rfl
theorem t_201 : Cond.methodLink RL 23 yX6_fault ∈ gT := gT_tab (List.mem_of_getElem? (i := 201) (by decide +kernel)) rfl
theorem t_202 : Cond.instanceMethod yX6_fault ∈ gT := gT_tab (List.mem_of_getElem? (i := 202) (by decide +kernel)) rfl
theorem t_203 : Cond.selects RX6 yX6_fault yX6_fault ∈ gT := gT_tab (List.mem_of_getElem? (i := 203) (by decide +kernel)) rfl
theorem t_204 : Cond.code yX6_fault cX6_fault 2 (some .int) ∈ gT := gT_tab (List.mem_of_getElem? (i := 204) (by decide +kernel)) rfl
theorem t_205 : Cond.methodLink RX6 72 yX3_firstFault ∈ gT := gT_tab (List.mem_of_getElem? (i := 205) (by decide +kernel)) rfl
theorem t_206 : Cond.instanceMethod yX3_firstFault ∈ gT := gT_tab (List.mem_of_getElem? (i := 206) (by decide +kernel)) rfl
theorem t_207 : Cond.selects RX3 yX3_firstFault yX3_firstFault ∈ gT := gT_tab (List.mem_of_getElem? (i := 207) (by decide +kernel)) rfl
theorem t_208 : Cond.code yX3_firstFault cX3_firstFault 6 (some .int) ∈ gT := gT_tab (List.mem_of_getElem? (i := 208) (by decide +kernel)) rfl
theorem t_209 : Cond.methodLink RX3 19 yX3_fitsHead ∈ gT := gT_tab (List.mem_of_getElem? (i := 209) (by decide +kernel)) rfl
theorem t_211 : Cond.instanceMethod yX3_fitsHead ∈ gT := gT_tab (List.mem_of_getElem? (i := 211) (by decide +kernel)) rfl
theorem t_212 : Cond.code yX3_fitsHead cX3_fitsHead 2 (some .boolean) ∈ gT := gT_tab (List.mem_of_getElem? (i := 212) (by decide +kernel)) rfl
theorem t_213 : Cond.methodLink RX3 27 yX3_letterOf ∈ gT := gT_tab (List.mem_of_getElem? (i := 213) (by decide +kernel)) rfl
theorem t_214 : Cond.static yX3_letterOf ∈ gT := gT_tab (List.mem_of_getElem? (i := 214) (by decide +kernel)) rfl
theorem t_215 : Cond.code yX3_letterOf cX3_letterOf 1 (some .int) ∈ gT := gT_tab (List.mem_of_getElem? (i := 215) (by decide +kernel)) rfl
theorem t_217 : Cond.static yX6_isOpen ∈ gT := gT_tab (List.mem_of_getElem? (i := 217) (by decide +kernel)) rfl
theorem t_218 : Cond.code yX6_isOpen cX6_isOpen 1 (some .boolean) ∈ gT := gT_tab (List.mem_of_getElem? (i := 218) (by decide +kernel)) rfl
theorem t_219 : Cond.methodLink RX3 23 yX3_fitsEdge ∈ gT := gT_tab (List.mem_of_getElem? (i := 219) (by decide +kernel)) rfl
theorem t_221 : Cond.instanceMethod yX3_fitsEdge ∈ gT := gT_tab (List.mem_of_getElem? (i := 221) (by decide +kernel)) rfl
theorem t_222 : Cond.code yX3_fitsEdge cX3_fitsEdge 6 (some .boolean) ∈ gT := gT_tab (List.mem_of_getElem? (i := 222) (by decide +kernel)) rfl
theorem t_223 : Cond.methodLink RL 28 yX6_rule ∈ gT := gT_tab (List.mem_of_getElem? (i := 223) (by decide +kernel)) rfl
theorem t_224 : Cond.instanceMethod yX6_rule ∈ gT := gT_tab (List.mem_of_getElem? (i := 224) (by decide +kernel)) rfl
theorem t_225 : Cond.selects RX6 yX6_rule yX6_rule ∈ gT := gT_tab (List.mem_of_getElem? (i := 225) (by decide +kernel)) rfl
theorem t_226 : Cond.code yX6_rule cX6_rule 1 (some .int) ∈ gT := gT_tab (List.mem_of_getElem? (i := 226) (by decide +kernel)) rfl
theorem t_227 : Cond.methodLink RX6 76 yX3_isRule ∈ gT := gT_tab (List.mem_of_getElem? (i := 227) (by decide +kernel)) rfl
theorem t_228 : Cond.instanceMethod yX3_isRule ∈ gT := gT_tab (List.mem_of_getElem? (i := 228) (by decide +kernel)) rfl
theorem t_229 : Cond.selects RX3 yX3_isRule yX3_isRule ∈ gT := gT_tab (List.mem_of_getElem? (i := 229) (by decide +kernel)) rfl
theorem t_230 : Cond.code yX3_isRule cX3_isRule 1 (some .boolean) ∈ gT := gT_tab (List.mem_of_getElem? (i := 230) (by decide +kernel)) rfl
theorem t_231 : Cond.methodLink RX3 34 yX3_isWhole ∈ gT := gT_tab (List.mem_of_getElem? (i := 231) (by decide +kernel)) rfl
theorem t_233 : Cond.instanceMethod yX3_isWhole ∈ gT := gT_tab (List.mem_of_getElem? (i := 233) (by decide +kernel)) rfl
theorem t_234 : Cond.code yX3_isWhole cX3_isWhole 2 (some .boolean) ∈ gT := gT_tab (List.mem_of_getElem? (i := 234) (by decide +kernel)) rfl
theorem t_235 : Cond.methodLink RX3 37 yX3_firstFault ∈ gT := gT_tab (List.mem_of_getElem? (i := 235) (by decide +kernel)) rfl
theorem t_236 : Cond.methodLink RX3 41 yX3_names ∈ gT := gT_tab (List.mem_of_getElem? (i := 236) (by decide +kernel)) rfl
theorem t_238 : Cond.instanceMethod yX3_names ∈ gT := gT_tab (List.mem_of_getElem? (i := 238) (by decide +kernel)) rfl
theorem t_239 : Cond.code yX3_names cX3_names 3 (some .boolean) ∈ gT := gT_tab (List.mem_of_getElem? (i := 239) (by decide +kernel)) rfl
theorem t_240 : Cond.methodLink RX3 44 yX3_namesNoGap ∈ gT := gT_tab (List.mem_of_getElem? (i := 240) (by decide +kernel)) rfl
theorem t_242 : Cond.instanceMethod yX3_namesNoGap ∈ gT := gT_tab (List.mem_of_getElem? (i := 242) (by decide +kernel)) rfl
theorem t_243 : Cond.code yX3_namesNoGap cX3_namesNoGap 2 (some .boolean) ∈ gT := gT_tab (List.mem_of_getElem? (i := 243) (by decide +kernel)) rfl
theorem t_244 : Cond.methodLink RX6 81 yX5_add ∈ gT := gT_tab (List.mem_of_getElem? (i := 244) (by decide +kernel)) rfl
theorem t_245 : Cond.instanceMethod yX5_add ∈ gT := gT_tab (List.mem_of_getElem? (i := 245) (by decide +kernel)) rfl
theorem t_246 : Cond.selects RX5 yX5_add yX5_add ∈ gT := gT_tab (List.mem_of_getElem? (i := 246) (by decide +kernel)) rfl
theorem t_247 : Cond.code yX5_add cX5_add 2 none ∈ gT := gT_tab (List.mem_of_getElem? (i := 247) (by decide +kernel)) rfl
theorem t_248 : Cond.methodLink RX5 22 yX4_read ∈ gT := gT_tab (List.mem_of_getElem? (i := 248) (by decide +kernel)) rfl
theorem t_249 : Cond.instanceMethod yX4_read ∈ gT := gT_tab (List.mem_of_getElem? (i := 249) (by decide +kernel)) rfl
theorem t_250 : Cond.selects RX4 yX4_read yX4_read ∈ gT := gT_tab (List.mem_of_getElem? (i := 250) (by decide +kernel)) rfl
theorem t_251 : Cond.code yX4_read cX4_read 3 none ∈ gT := gT_tab (List.mem_of_getElem? (i := 251) (by decide +kernel)) rfl
theorem t_252 : Cond.methodLink RX4 34 yX3_openLetter ∈ gT := gT_tab (List.mem_of_getElem? (i := 252) (by decide +kernel)) rfl
theorem t_253 : Cond.instanceMethod yX3_openLetter ∈ gT := gT_tab (List.mem_of_getElem? (i := 253) (by decide +kernel)) rfl
theorem t_254 : Cond.selects RX3 yX3_openLetter yX3_openLetter ∈ gT := gT_tab (List.mem_of_getElem? (i := 254) (by decide +kernel)) rfl
theorem t_255 : Cond.code yX3_openLetter cX3_openLetter 1 (some .int) ∈ gT := gT_tab (List.mem_of_getElem? (i := 255) (by decide +kernel)) rfl
theorem t_256 : Cond.methodLink RX3 48 yJ9_max_7cf53 ∈ gT := gT_tab (List.mem_of_getElem? (i := 256) (by decide +kernel)) rfl
theorem t_257 : Cond.static yJ9_max_7cf53 ∈ gT := gT_tab (List.mem_of_getElem? (i := 257) (by decide +kernel)) rfl
theorem t_258 : Cond.code yJ9_max_7cf53 cJ9_max_7cf53 2 (some .int) ∈ gT := gT_tab (List.mem_of_getElem? (i := 258) (by decide +kernel)) rfl
theorem t_259 : Cond.methodLink RX4 40 yX3_copyRule ∈ gT := gT_tab (List.mem_of_getElem? (i := 259) (by decide +kernel)) rfl
theorem t_260 : Cond.instanceMethod yX3_copyRule ∈ gT := gT_tab (List.mem_of_getElem? (i := 260) (by decide +kernel)) rfl
theorem t_261 : Cond.selects RX3 yX3_copyRule yX3_copyRule ∈ gT := gT_tab (List.mem_of_getElem? (i := 261) (by decide +kernel)) rfl
theorem t_262 : Cond.code yX3_copyRule cX3_copyRule 2 none ∈ gT := gT_tab (List.mem_of_getElem? (i := 262) (by decide +kernel)) rfl
theorem t_263 : Cond.methodLink RX3 54 yX3_copyEdges ∈ gT := gT_tab (List.mem_of_getElem? (i := 263) (by decide +kernel)) rfl
theorem t_265 : Cond.instanceMethod yX3_copyEdges ∈ gT := gT_tab (List.mem_of_getElem? (i := 265) (by decide +kernel)) rfl
theorem t_266 : Cond.code yX3_copyEdges cX3_copyEdges 5 none ∈ gT := gT_tab (List.mem_of_getElem? (i := 266) (by decide +kernel)) rfl
theorem t_267 : Cond.methodLink RX3 58 yX0_clear ∈ gT := gT_tab (List.mem_of_getElem? (i := 267) (by decide +kernel)) rfl
theorem t_268 : Cond.instanceMethod yX0_clear ∈ gT := gT_tab (List.mem_of_getElem? (i := 268) (by decide +kernel)) rfl
theorem t_269 : Cond.selects RX0 yX0_clear yX0_clear ∈ gT := gT_tab (List.mem_of_getElem? (i := 269) (by decide +kernel)) rfl
theorem t_270 : Cond.code yX0_clear cX0_clear 2 none ∈ gT := gT_tab (List.mem_of_getElem? (i := 270) (by decide +kernel)) rfl
theorem t_271 : Cond.methodLink RX3 64 yX0_append ∈ gT := gT_tab (List.mem_of_getElem? (i := 271) (by decide +kernel)) rfl
theorem t_272 : Cond.instanceMethod yX0_append ∈ gT := gT_tab (List.mem_of_getElem? (i := 272) (by decide +kernel)) rfl
theorem t_273 : Cond.selects RX0 yX0_append yX0_append ∈ gT := gT_tab (List.mem_of_getElem? (i := 273) (by decide +kernel)) rfl
theorem t_274 : Cond.code yX0_append cX0_append 4 none ∈ gT := gT_tab (List.mem_of_getElem? (i := 274) (by decide +kernel)) rfl
theorem t_275 : Cond.methodLink RX0 28 yX0_put ∈ gT := gT_tab (List.mem_of_getElem? (i := 275) (by decide +kernel)) rfl
theorem t_277 : Cond.instanceMethod yX0_put ∈ gT := gT_tab (List.mem_of_getElem? (i := 277) (by decide +kernel)) rfl
theorem t_278 : Cond.code yX0_put cX0_put 5 none ∈ gT := gT_tab (List.mem_of_getElem? (i := 278) (by decide +kernel)) rfl
theorem t_279 : Cond.methodLink RX4 44 yX0_has ∈ gT := gT_tab (List.mem_of_getElem? (i := 279) (by decide +kernel)) rfl
theorem t_280 : Cond.instanceMethod yX0_has ∈ gT := gT_tab (List.mem_of_getElem? (i := 280) (by decide +kernel)) rfl
theorem t_281 : Cond.selects RX0 yX0_has yX0_has ∈ gT := gT_tab (List.mem_of_getElem? (i := 281) (by decide +kernel)) rfl
theorem t_282 : Cond.code yX0_has cX0_has 2 (some .boolean) ∈ gT := gT_tab (List.mem_of_getElem? (i := 282) (by decide +kernel)) rfl
theorem t_283 : Cond.methodLink RX4 51 yX0_waysOf ∈ gT := gT_tab (List.mem_of_getElem? (i := 283) (by decide +kernel)) rfl
theorem t_284 : Cond.instanceMethod yX0_waysOf ∈ gT := gT_tab (List.mem_of_getElem? (i := 284) (by decide +kernel)) rfl
theorem t_285 : Cond.selects RX0 yX0_waysOf yX0_waysOf ∈ gT := gT_tab (List.mem_of_getElem? (i := 285) (by decide +kernel)) rfl
theorem t_286 : Cond.code yX0_waysOf cX0_waysOf 2 (some .int) ∈ gT := gT_tab (List.mem_of_getElem? (i := 286) (by decide +kernel)) rfl
theorem t_287 : Cond.methodLink RX0 57 yX0_comes ∈ gT := gT_tab (List.mem_of_getElem? (i := 287) (by decide +kernel)) rfl
theorem t_289 : Cond.instanceMethod yX0_comes ∈ gT := gT_tab (List.mem_of_getElem? (i := 289) (by decide +kernel)) rfl
theorem t_290 : Cond.code yX0_comes cX0_comes 8 (some .boolean) ∈ gT := gT_tab (List.mem_of_getElem? (i := 290) (by decide +kernel)) rfl
theorem t_291 : Cond.methodLink RX4 55 yX0_huesOf ∈ gT := gT_tab (List.mem_of_getElem? (i := 291) (by decide +kernel)) rfl
theorem t_292 : Cond.instanceMethod yX0_huesOf ∈ gT := gT_tab (List.mem_of_getElem? (i := 292) (by decide +kernel)) rfl
theorem t_293 : Cond.selects RX0 yX0_huesOf yX0_huesOf ∈ gT := gT_tab (List.mem_of_getElem? (i := 293) (by decide +kernel)) rfl
theorem t_294 : Cond.code yX0_huesOf cX0_huesOf 4 (some .int) ∈ gT := gT_tab (List.mem_of_getElem? (i := 294) (by decide +kernel)) rfl
theorem t_295 : Cond.methodLink RX0 61 yX0_allows ∈ gT := gT_tab (List.mem_of_getElem? (i := 295) (by decide +kernel)) rfl
theorem t_297 : Cond.instanceMethod yX0_allows ∈ gT := gT_tab (List.mem_of_getElem? (i := 297) (by decide +kernel)) rfl
theorem t_298 : Cond.code yX0_allows cX0_allows 5 (some .boolean) ∈ gT := gT_tab (List.mem_of_getElem? (i := 298) (by decide +kernel)) rfl
theorem t_299 : Cond.methodLink RL 32 yX6_drop ∈ gT := gT_tab (List.mem_of_getElem? (i := 299) (by decide +kernel)) rfl
theorem t_300 : Cond.instanceMethod yX6_drop ∈ gT := gT_tab (List.mem_of_getElem? (i := 300) (by decide +kernel)) rfl
theorem t_301 : Cond.selects RX6 yX6_drop yX6_drop ∈ gT := gT_tab (List.mem_of_getElem? (i := 301) (by decide +kernel)) rfl
theorem t_302 : Cond.code yX6_drop cX6_drop 2 (some .int) ∈ gT := gT_tab (List.mem_of_getElem? (i := 302) (by decide +kernel)) rfl
theorem t_303 : Cond.methodLink RX6 85 yX5_has ∈ gT := gT_tab (List.mem_of_getElem? (i := 303) (by decide +kernel)) rfl
theorem t_304 : Cond.instanceMethod yX5_has ∈ gT := gT_tab (List.mem_of_getElem? (i := 304) (by decide +kernel)) rfl
theorem t_305 : Cond.selects RX5 yX5_has yX5_has ∈ gT := gT_tab (List.mem_of_getElem? (i := 305) (by decide +kernel)) rfl
theorem t_306 : Cond.code yX5_has cX5_has 2 (some .boolean) ∈ gT := gT_tab (List.mem_of_getElem? (i := 306) (by decide +kernel)) rfl
theorem t_307 : Cond.methodLink RX6 89 yX5_remove ∈ gT := gT_tab (List.mem_of_getElem? (i := 307) (by decide +kernel)) rfl
theorem t_308 : Cond.instanceMethod yX5_remove ∈ gT := gT_tab (List.mem_of_getElem? (i := 308) (by decide +kernel)) rfl
theorem t_309 : Cond.selects RX5 yX5_remove yX5_remove ∈ gT := gT_tab (List.mem_of_getElem? (i := 309) (by decide +kernel)) rfl
theorem t_310 : Cond.code yX5_remove cX5_remove 4 none ∈ gT := gT_tab (List.mem_of_getElem? (i := 310) (by decide +kernel)) rfl
theorem t_311 : Cond.methodLink RX5 26 yX5_has ∈ gT := gT_tab (List.mem_of_getElem? (i := 311) (by decide +kernel)) rfl
theorem t_312 : Cond.methodLink RL 36 yX6_graph ∈ gT := gT_tab (List.mem_of_getElem? (i := 312) (by decide +kernel)) rfl
theorem t_313 : Cond.instanceMethod yX6_graph ∈ gT := gT_tab (List.mem_of_getElem? (i := 313) (by decide +kernel)) rfl
theorem t_314 : Cond.selects RX6 yX6_graph yX6_graph ∈ gT := gT_tab (List.mem_of_getElem? (i := 314) (by decide +kernel)) rfl
theorem t_315 : Cond.code yX6_graph cX6_graph 1 (some .int) ∈ gT := gT_tab (List.mem_of_getElem? (i := 315) (by decide +kernel)) rfl
theorem t_316 : Cond.methodLink RX6 92 yX3_isGraph ∈ gT := gT_tab (List.mem_of_getElem? (i := 316) (by decide +kernel)) rfl
theorem t_317 : Cond.instanceMethod yX3_isGraph ∈ gT := gT_tab (List.mem_of_getElem? (i := 317) (by decide +kernel)) rfl
theorem t_318 : Cond.selects RX3 yX3_isGraph yX3_isGraph ∈ gT := gT_tab (List.mem_of_getElem? (i := 318) (by decide +kernel)) rfl
theorem t_319 : Cond.code yX3_isGraph cX3_isGraph 1 (some .boolean) ∈ gT := gT_tab (List.mem_of_getElem? (i := 319) (by decide +kernel)) rfl
theorem t_320 : Cond.methodLink RX6 95 yX3_copyGraph ∈ gT := gT_tab (List.mem_of_getElem? (i := 320) (by decide +kernel)) rfl
theorem t_321 : Cond.instanceMethod yX3_copyGraph ∈ gT := gT_tab (List.mem_of_getElem? (i := 321) (by decide +kernel)) rfl
theorem t_322 : Cond.selects RX3 yX3_copyGraph yX3_copyGraph ∈ gT := gT_tab (List.mem_of_getElem? (i := 322) (by decide +kernel)) rfl
theorem t_323 : Cond.code yX3_copyGraph cX3_copyGraph 2 none ∈ gT := gT_tab (List.mem_of_getElem? (i := 323) (by decide +kernel)) rfl
theorem t_324 : Cond.methodLink RX6 99 yX6_noteNewGraph ∈ gT := gT_tab (List.mem_of_getElem? (i := 324) (by decide +kernel)) rfl
theorem t_326 : Cond.instanceMethod yX6_noteNewGraph ∈ gT := gT_tab (List.mem_of_getElem? (i := 326) (by decide +kernel)) rfl
theorem t_327 : Cond.code yX6_noteNewGraph cX6_noteNewGraph 1 none ∈ gT := gT_tab (List.mem_of_getElem? (i := 327) (by decide +kernel)) rfl
theorem t_328 : Cond.methodLink RL 40 yX6_of ∈ gT := gT_tab (List.mem_of_getElem? (i := 328) (by decide +kernel)) rfl
theorem t_329 : Cond.instanceMethod yX6_of ∈ gT := gT_tab (List.mem_of_getElem? (i := 329) (by decide +kernel)) rfl
theorem t_330 : Cond.selects RX6 yX6_of yX6_of ∈ gT := gT_tab (List.mem_of_getElem? (i := 330) (by decide +kernel)) rfl
theorem t_331 : Cond.code yX6_of cX6_of 4 (some .int) ∈ gT := gT_tab (List.mem_of_getElem? (i := 331) (by decide +kernel)) rfl
theorem t_332 : Cond.methodLink RX6 118 yX0_has ∈ gT := gT_tab (List.mem_of_getElem? (i := 332) (by decide +kernel)) rfl
theorem t_333 : Cond.methodLink RX6 119 yX0_told ∈ gT := gT_tab (List.mem_of_getElem? (i := 333) (by decide +kernel)) rfl
theorem t_334 : Cond.instanceMethod yX0_told ∈ gT := gT_tab (List.mem_of_getElem? (i := 334) (by decide +kernel)) rfl
theorem t_335 : Cond.selects RX0 yX0_told yX0_told ∈ gT := gT_tab (List.mem_of_getElem? (i := 335) (by decide +kernel)) rfl
theorem t_336 : Cond.code yX0_told cX0_told 2 (some .int) ∈ gT := gT_tab (List.mem_of_getElem? (i := 336) (by decide +kernel)) rfl
theorem t_337 : Cond.methodLink RL 45 yX6_begin ∈ gT := gT_tab (List.mem_of_getElem? (i := 337) (by decide +kernel)) rfl
theorem t_338 : Cond.instanceMethod yX6_begin ∈ gT := gT_tab (List.mem_of_getElem? (i := 338) (by decide +kernel)) rfl
theorem t_339 : Cond.selects RX6 yX6_begin yX6_begin ∈ gT := gT_tab (List.mem_of_getElem? (i := 339) (by decide +kernel)) rfl
theorem t_340 : Cond.code yX6_begin cX6_begin 2 (some .int) ∈ gT := gT_tab (List.mem_of_getElem? (i := 340) (by decide +kernel)) rfl
theorem t_341 : Cond.methodLink RX6 123 yX6_isOpen ∈ gT := gT_tab (List.mem_of_getElem? (i := 341) (by decide +kernel)) rfl
theorem t_342 : Cond.methodLink RX6 126 yX0_clear ∈ gT := gT_tab (List.mem_of_getElem? (i := 342) (by decide +kernel)) rfl
theorem t_343 : Cond.methodLink RX6 128 yX0_append ∈ gT := gT_tab (List.mem_of_getElem? (i := 343) (by decide +kernel)) rfl
theorem t_344 : Cond.methodLink RL 49 yX6_step ∈ gT := gT_tab (List.mem_of_getElem? (i := 344) (by decide +kernel)) rfl
theorem t_345 : Cond.instanceMethod yX6_step ∈ gT := gT_tab (List.mem_of_getElem? (i := 345) (by decide +kernel)) rfl
theorem t_346 : Cond.selects RX6 yX6_step yX6_step ∈ gT := gT_tab (List.mem_of_getElem? (i := 346) (by decide +kernel)) rfl
theorem t_347 : Cond.code yX6_step cX6_step 4 (some .int) ∈ gT := gT_tab (List.mem_of_getElem? (i := 347) (by decide +kernel)) rfl
theorem t_348 : Cond.methodLink RX6 136 yX0_replace ∈ gT := gT_tab (List.mem_of_getElem? (i := 348) (by decide +kernel)) rfl
theorem t_349 : Cond.instanceMethod yX0_replace ∈ gT := gT_tab (List.mem_of_getElem? (i := 349) (by decide +kernel)) rfl
theorem t_350 : Cond.selects RX0 yX0_replace yX0_replace ∈ gT := gT_tab (List.mem_of_getElem? (i := 350) (by decide +kernel)) rfl
theorem t_351 : Cond.code yX0_replace cX0_replace 7 none ∈ gT := gT_tab (List.mem_of_getElem? (i := 351) (by decide +kernel)) rfl
theorem t_352 : Cond.methodLink RX0 40 yX0_has ∈ gT := gT_tab (List.mem_of_getElem? (i := 352) (by decide +kernel)) rfl
theorem t_353 : Cond.methodLink RX0 43 yX0_nodeFor ∈ gT := gT_tab (List.mem_of_getElem? (i := 353) (by decide +kernel)) rfl
theorem t_355 : Cond.instanceMethod yX0_nodeFor ∈ gT := gT_tab (List.mem_of_getElem? (i := 355) (by decide +kernel)) rfl
theorem t_356 : Cond.code yX0_nodeFor cX0_nodeFor 4 (some .int) ∈ gT := gT_tab (List.mem_of_getElem? (i := 356) (by decide +kernel)) rfl
theorem t_357 : Cond.methodLink RL 53 yX6_edge ∈ gT := gT_tab (List.mem_of_getElem? (i := 357) (by decide +kernel)) rfl
theorem t_358 : Cond.instanceMethod yX6_edge ∈ gT := gT_tab (List.mem_of_getElem? (i := 358) (by decide +kernel)) rfl
theorem t_359 : Cond.selects RX6 yX6_edge yX6_edge ∈ gT := gT_tab (List.mem_of_getElem? (i := 359) (by decide +kernel)) rfl
theorem t_360 : Cond.code yX6_edge cX6_edge 2 (some .int) ∈ gT := gT_tab (List.mem_of_getElem? (i := 360) (by decide +kernel)) rfl
theorem t_361 : Cond.methodLink RL 57 yX6_kind ∈ gT := gT_tab (List.mem_of_getElem? (i := 361) (by decide +kernel)) rfl
theorem t_362 : Cond.instanceMethod yX6_kind ∈ gT := gT_tab (List.mem_of_getElem? (i := 362) (by decide +kernel)) rfl
theorem t_363 : Cond.selects RX6 yX6_kind yX6_kind ∈ gT := gT_tab (List.mem_of_getElem? (i := 363) (by decide +kernel)) rfl
theorem t_364 : Cond.code yX6_kind cX6_kind 1 (some .int) ∈ gT := gT_tab (List.mem_of_getElem? (i := 364) (by decide +kernel)) rfl
theorem t_365 : Cond.methodLink RX6 140 yX0_isDone ∈ gT := gT_tab (List.mem_of_getElem? (i := 365) (by decide +kernel)) rfl
theorem t_366 : Cond.instanceMethod yX0_isDone ∈ gT := gT_tab (List.mem_of_getElem? (i := 366) (by decide +kernel)) rfl
theorem t_367 : Cond.selects RX0 yX0_isDone yX0_isDone ∈ gT := gT_tab (List.mem_of_getElem? (i := 367) (by decide +kernel)) rfl
theorem t_368 : Cond.code yX0_isDone cX0_isDone 1 (some .boolean) ∈ gT := gT_tab (List.mem_of_getElem? (i := 368) (by decide +kernel)) rfl
theorem t_369 : Cond.methodLink RX0 36 yX0_openEdges ∈ gT := gT_tab (List.mem_of_getElem? (i := 369) (by decide +kernel)) rfl
theorem t_370 : Cond.instanceMethod yX0_openEdges ∈ gT := gT_tab (List.mem_of_getElem? (i := 370) (by decide +kernel)) rfl
theorem t_371 : Cond.selects RX0 yX0_openEdges yX0_openEdges ∈ gT := gT_tab (List.mem_of_getElem? (i := 371) (by decide +kernel)) rfl
theorem t_372 : Cond.code yX0_openEdges cX0_openEdges 3 (some .int) ∈ gT := gT_tab (List.mem_of_getElem? (i := 372) (by decide +kernel)) rfl
theorem t_374 : Cond.methodLink RX6 143 yX0_ownKind ∈ gT := gT_tab (List.mem_of_getElem? (i := 374) (by decide +kernel)) rfl
theorem t_375 : Cond.instanceMethod yX0_ownKind ∈ gT := gT_tab (List.mem_of_getElem? (i := 375) (by decide +kernel)) rfl
theorem t_376 : Cond.selects RX0 yX0_ownKind yX0_ownKind ∈ gT := gT_tab (List.mem_of_getElem? (i := 376) (by decide +kernel)) rfl
theorem t_377 : Cond.code yX0_ownKind cX0_ownKind 5 (some .int) ∈ gT := gT_tab (List.mem_of_getElem? (i := 377) (by decide +kernel)) rfl
theorem t_378 : Cond.methodLink RX0 51 yX0_waysOf ∈ gT := gT_tab (List.mem_of_getElem? (i := 378) (by decide +kernel)) rfl
theorem t_379 : Cond.methodLink RX0 54 yX0_huesOf ∈ gT := gT_tab (List.mem_of_getElem? (i := 379) (by decide +kernel)) rfl
theorem t_380 : Cond.methodLink RL 61 yX6_fewest ∈ gT := gT_tab (List.mem_of_getElem? (i := 380) (by decide +kernel)) rfl
theorem t_381 : Cond.instanceMethod yX6_fewest ∈ gT := gT_tab (List.mem_of_getElem? (i := 381) (by decide +kernel)) rfl
theorem t_382 : Cond.selects RX6 yX6_fewest yX6_fewest ∈ gT := gT_tab (List.mem_of_getElem? (i := 382) (by decide +kernel)) rfl
theorem t_383 : Cond.code yX6_fewest cX6_fewest 3 (some .int) ∈ gT := gT_tab (List.mem_of_getElem? (i := 383) (by decide +kernel)) rfl
theorem t_384 : Cond.methodLink RX6 147 yX2_find ∈ gT := gT_tab (List.mem_of_getElem? (i := 384) (by decide +kernel)) rfl
theorem t_385 : Cond.instanceMethod yX2_find ∈ gT := gT_tab (List.mem_of_getElem? (i := 385) (by decide +kernel)) rfl
theorem t_386 : Cond.selects RX2 yX2_find yX2_find ∈ gT := gT_tab (List.mem_of_getElem? (i := 386) (by decide +kernel)) rfl
theorem t_387 : Cond.code yX2_find cX2_find 6 none ∈ gT := gT_tab (List.mem_of_getElem? (i := 387) (by decide +kernel)) rfl
theorem t_388 : Cond.constant RX2 28 (536870912) ∈ gT := gT_tab (List.mem_of_getElem? (i := 388) (by decide +kernel)) rfl
theorem t_389 : Cond.methodLink RX2 29 yJ7_fill_53178 ∈ gT := gT_tab (List.mem_of_getElem? (i := 389) (by decide +kernel)) rfl
theorem t_390 : Cond.static yJ7_fill_53178 ∈ gT := gT_tab (List.mem_of_getElem? (i := 390) (by decide +kernel)) rfl
theorem t_391 : Cond.code yJ7_fill_53178 cJ7_fill_53178 4 none ∈ gT := gT_tab (List.mem_of_getElem? (i := 391) (by decide +kernel)) rfl
theorem t_392 : Cond.methodLink RX2 38 yX2_improve ∈ gT := gT_tab (List.mem_of_getElem? (i := 392) (by decide +kernel)) rfl
theorem t_394 : Cond.instanceMethod yX2_improve ∈ gT := gT_tab (List.mem_of_getElem? (i := 394) (by decide +kernel)) rfl
theorem t_395 : Cond.code yX2_improve cX2_improve 11 (some .boolean) ∈ gT := gT_tab (List.mem_of_getElem? (i := 395) (by decide +kernel)) rfl
theorem t_396 : Cond.methodLink RX2 42 yJ6_bitCount_0f7a4 ∈ gT := gT_tab (List.mem_of_getElem? (i := 396) (by decide +kernel)) rfl
theorem t_397 : Cond.static yJ6_bitCount_0f7a4 ∈ gT := gT_tab (List.mem_of_getElem? (i := 397) (by decide +kernel)) rfl
theorem t_398 : Cond.code yJ6_bitCount_0f7a4 cJ6_bitCount_0f7a4 1 (some .int) ∈ gT := gT_tab (List.mem_of_getElem? (i := 398) (by decide +kernel)) rfl
theorem t_399 : Cond.constant RJ6 265 (1431655765) ∈ gT := gT_tab (List.mem_of_getElem? (i := 399) (by decide +kernel)) rfl
theorem t_400 : Cond.constant RJ6 266 (858993459) ∈ gT := gT_tab (List.mem_of_getElem? (i := 400) (by decide +kernel)) rfl
theorem t_401 : Cond.constant RJ6 267 (252645135) ∈ gT := gT_tab (List.mem_of_getElem? (i := 401) (by decide +kernel)) rfl
theorem t_402 : Cond.methodLink RX2 48 yX0_isPart ∈ gT := gT_tab (List.mem_of_getElem? (i := 402) (by decide +kernel)) rfl
theorem t_403 : Cond.instanceMethod yX0_isPart ∈ gT := gT_tab (List.mem_of_getElem? (i := 403) (by decide +kernel)) rfl
theorem t_404 : Cond.selects RX0 yX0_isPart yX0_isPart ∈ gT := gT_tab (List.mem_of_getElem? (i := 404) (by decide +kernel)) rfl
theorem t_405 : Cond.code yX0_isPart cX0_isPart 7 (some .boolean) ∈ gT := gT_tab (List.mem_of_getElem? (i := 405) (by decide +kernel)) rfl
theorem t_406 : Cond.methodLink RX0 47 yX0_nodesOf ∈ gT := gT_tab (List.mem_of_getElem? (i := 406) (by decide +kernel)) rfl
theorem t_408 : Cond.instanceMethod yX0_nodesOf ∈ gT := gT_tab (List.mem_of_getElem? (i := 408) (by decide +kernel)) rfl
theorem t_409 : Cond.code yX0_nodesOf cX0_nodesOf 4 (some .int) ∈ gT := gT_tab (List.mem_of_getElem? (i := 409) (by decide +kernel)) rfl
theorem t_410 : Cond.methodLink RX2 24 yX2_at ∈ gT := gT_tab (List.mem_of_getElem? (i := 410) (by decide +kernel)) rfl
theorem t_411 : Cond.static yX2_at ∈ gT := gT_tab (List.mem_of_getElem? (i := 411) (by decide +kernel)) rfl
theorem t_412 : Cond.code yX2_at cX2_at 4 (some .int) ∈ gT := gT_tab (List.mem_of_getElem? (i := 412) (by decide +kernel)) rfl
theorem t_413 : Cond.methodLink RX2 68 yX2_byRule ∈ gT := gT_tab (List.mem_of_getElem? (i := 413) (by decide +kernel)) rfl
theorem t_415 : Cond.instanceMethod yX2_byRule ∈ gT := gT_tab (List.mem_of_getElem? (i := 415) (by decide +kernel)) rfl
theorem t_416 : Cond.code yX2_byRule cX2_byRule 10 (some .int) ∈ gT := gT_tab (List.mem_of_getElem? (i := 416) (by decide +kernel)) rfl
theorem t_417 : Cond.methodLink RX2 76 yX2_standsApart ∈ gT := gT_tab (List.mem_of_getElem? (i := 417) (by decide +kernel)) rfl
theorem t_419 : Cond.instanceMethod yX2_standsApart ∈ gT := gT_tab (List.mem_of_getElem? (i := 419) (by decide +kernel)) rfl
theorem t_420 : Cond.code yX2_standsApart cX2_standsApart 4 (some .boolean) ∈ gT := gT_tab (List.mem_of_getElem? (i := 420) (by decide +kernel)) rfl
theorem t_421 : Cond.methodLink RX2 80 yX2_bySplit ∈ gT := gT_tab (List.mem_of_getElem? (i := 421) (by decide +kernel)) rfl
theorem t_423 : Cond.instanceMethod yX2_bySplit ∈ gT := gT_tab (List.mem_of_getElem? (i := 423) (by decide +kernel)) rfl
theorem t_424 : Cond.code yX2_bySplit cX2_bySplit 10 (some .int) ∈ gT := gT_tab (List.mem_of_getElem? (i := 424) (by decide +kernel)) rfl
theorem t_425 : Cond.methodLink RX2 89 yX2_bySlot ∈ gT := gT_tab (List.mem_of_getElem? (i := 425) (by decide +kernel)) rfl
theorem t_427 : Cond.instanceMethod yX2_bySlot ∈ gT := gT_tab (List.mem_of_getElem? (i := 427) (by decide +kernel)) rfl
theorem t_428 : Cond.code yX2_bySlot cX2_bySlot 8 (some .int) ∈ gT := gT_tab (List.mem_of_getElem? (i := 428) (by decide +kernel)) rfl
theorem t_430 : Cond.methodLink RX2 105 yX0_isEdge ∈ gT := gT_tab (List.mem_of_getElem? (i := 430) (by decide +kernel)) rfl
theorem t_431 : Cond.instanceMethod yX0_isEdge ∈ gT := gT_tab (List.mem_of_getElem? (i := 431) (by decide +kernel)) rfl
theorem t_432 : Cond.selects RX0 yX0_isEdge yX0_isEdge ∈ gT := gT_tab (List.mem_of_getElem? (i := 432) (by decide +kernel)) rfl
theorem t_433 : Cond.code yX0_isEdge cX0_isEdge 6 (some .boolean) ∈ gT := gT_tab (List.mem_of_getElem? (i := 433) (by decide +kernel)) rfl
theorem t_434 : Cond.methodLink RX2 83 yJ9_min_7cf53 ∈ gT := gT_tab (List.mem_of_getElem? (i := 434) (by decide +kernel)) rfl
theorem t_435 : Cond.static yJ9_min_7cf53 ∈ gT := gT_tab (List.mem_of_getElem? (i := 435) (by decide +kernel)) rfl
theorem t_436 : Cond.code yJ9_min_7cf53 cJ9_min_7cf53 2 (some .int) ∈ gT := gT_tab (List.mem_of_getElem? (i := 436) (by decide +kernel)) rfl
theorem t_437 : Cond.methodLink RX2 72 yX2_lower ∈ gT := gT_tab (List.mem_of_getElem? (i := 437) (by decide +kernel)) rfl
theorem t_439 : Cond.instanceMethod yX2_lower ∈ gT := gT_tab (List.mem_of_getElem? (i := 439) (by decide +kernel)) rfl
theorem t_440 : Cond.code yX2_lower cX2_lower 3 (some .boolean) ∈ gT := gT_tab (List.mem_of_getElem? (i := 440) (by decide +kernel)) rfl
theorem t_441 : Cond.methodLink RX6 151 yX2_ofWhole ∈ gT := gT_tab (List.mem_of_getElem? (i := 441) (by decide +kernel)) rfl
theorem t_442 : Cond.instanceMethod yX2_ofWhole ∈ gT := gT_tab (List.mem_of_getElem? (i := 442) (by decide +kernel)) rfl
theorem t_443 : Cond.selects RX2 yX2_ofWhole yX2_ofWhole ∈ gT := gT_tab (List.mem_of_getElem? (i := 443) (by decide +kernel)) rfl
theorem t_444 : Cond.code yX2_ofWhole cX2_ofWhole 3 (some .int) ∈ gT := gT_tab (List.mem_of_getElem? (i := 444) (by decide +kernel)) rfl
theorem t_445 : Cond.constant RX6 155 (536870912) ∈ gT := gT_tab (List.mem_of_getElem? (i := 445) (by decide +kernel)) rfl
theorem t_446 : Cond.methodLink RL 65 yX6_kinds ∈ gT := gT_tab (List.mem_of_getElem? (i := 446) (by decide +kernel)) rfl
theorem t_447 : Cond.instanceMethod yX6_kinds ∈ gT := gT_tab (List.mem_of_getElem? (i := 447) (by decide +kernel)) rfl
theorem t_448 : Cond.selects RX6 yX6_kinds yX6_kinds ∈ gT := gT_tab (List.mem_of_getElem? (i := 448) (by decide +kernel)) rfl
theorem t_449 : Cond.code yX6_kinds cX6_kinds 4 (some .int) ∈ gT := gT_tab (List.mem_of_getElem? (i := 449) (by decide +kernel)) rfl
theorem t_450 : Cond.methodLink RX6 156 yX6_bringLights ∈ gT := gT_tab (List.mem_of_getElem? (i := 450) (by decide +kernel)) rfl
theorem t_452 : Cond.instanceMethod yX6_bringLights ∈ gT := gT_tab (List.mem_of_getElem? (i := 452) (by decide +kernel)) rfl
theorem t_453 : Cond.code yX6_bringLights cX6_bringLights 1 none ∈ gT := gT_tab (List.mem_of_getElem? (i := 453) (by decide +kernel)) rfl
theorem t_454 : Cond.methodLink RX6 206 yX1_find ∈ gT := gT_tab (List.mem_of_getElem? (i := 454) (by decide +kernel)) rfl
theorem t_455 : Cond.instanceMethod yX1_find ∈ gT := gT_tab (List.mem_of_getElem? (i := 455) (by decide +kernel)) rfl
theorem t_456 : Cond.selects RX1 yX1_find yX1_find ∈ gT := gT_tab (List.mem_of_getElem? (i := 456) (by decide +kernel)) rfl
theorem t_457 : Cond.code yX1_find cX1_find 5 none ∈ gT := gT_tab (List.mem_of_getElem? (i := 457) (by decide +kernel)) rfl
theorem t_458 : Cond.methodLink RX1 45 yX1_forget ∈ gT := gT_tab (List.mem_of_getElem? (i := 458) (by decide +kernel)) rfl
theorem t_460 : Cond.instanceMethod yX1_forget ∈ gT := gT_tab (List.mem_of_getElem? (i := 460) (by decide +kernel)) rfl
theorem t_461 : Cond.code yX1_forget cX1_forget 2 none ∈ gT := gT_tab (List.mem_of_getElem? (i := 461) (by decide +kernel)) rfl
theorem t_462 : Cond.constantLong RX1 29 (2305843009213693952) ∈ gT := gT_tab (List.mem_of_getElem? (i := 462) (by decide +kernel)) rfl
theorem t_463 : Cond.methodLink RX1 74 yJ7_fill_d0a16 ∈ gT := gT_tab (List.mem_of_getElem? (i := 463) (by decide +kernel)) rfl
theorem t_464 : Cond.static yJ7_fill_d0a16 ∈ gT := gT_tab (List.mem_of_getElem? (i := 464) (by decide +kernel)) rfl
theorem t_465 : Cond.code yJ7_fill_d0a16 cJ7_fill_d0a16 5 none ∈ gT := gT_tab (List.mem_of_getElem? (i := 465) (by decide +kernel)) rfl
theorem t_466 : Cond.methodLink RX1 80 yJ7_fill_53178 ∈ gT := gT_tab (List.mem_of_getElem? (i := 466) (by decide +kernel)) rfl
theorem t_467 : Cond.methodLink RX1 48 yX1_offer ∈ gT := gT_tab (List.mem_of_getElem? (i := 467) (by decide +kernel)) rfl
theorem t_469 : Cond.instanceMethod yX1_offer ∈ gT := gT_tab (List.mem_of_getElem? (i := 469) (by decide +kernel)) rfl
theorem t_470 : Cond.code yX1_offer cX1_offer 7 none ∈ gT := gT_tab (List.mem_of_getElem? (i := 470) (by decide +kernel)) rfl
theorem t_471 : Cond.methodLink RX1 52 yX1_nearest ∈ gT := gT_tab (List.mem_of_getElem? (i := 471) (by decide +kernel)) rfl
theorem t_473 : Cond.instanceMethod yX1_nearest ∈ gT := gT_tab (List.mem_of_getElem? (i := 473) (by decide +kernel)) rfl
theorem t_474 : Cond.code yX1_nearest cX1_nearest 5 (some .int) ∈ gT := gT_tab (List.mem_of_getElem? (i := 474) (by decide +kernel)) rfl
theorem t_475 : Cond.methodLink RX1 56 yX1_settle ∈ gT := gT_tab (List.mem_of_getElem? (i := 475) (by decide +kernel)) rfl
theorem t_477 : Cond.instanceMethod yX1_settle ∈ gT := gT_tab (List.mem_of_getElem? (i := 477) (by decide +kernel)) rfl
theorem t_478 : Cond.code yX1_settle cX1_settle 3 none ∈ gT := gT_tab (List.mem_of_getElem? (i := 478) (by decide +kernel)) rfl
theorem t_479 : Cond.methodLink RX1 70 yX1_spread ∈ gT := gT_tab (List.mem_of_getElem? (i := 479) (by decide +kernel)) rfl
theorem t_481 : Cond.instanceMethod yX1_spread ∈ gT := gT_tab (List.mem_of_getElem? (i := 481) (by decide +kernel)) rfl
theorem t_482 : Cond.code yX1_spread cX1_spread 6 none ∈ gT := gT_tab (List.mem_of_getElem? (i := 482) (by decide +kernel)) rfl
theorem t_483 : Cond.methodLink RX1 88 yX1_combine ∈ gT := gT_tab (List.mem_of_getElem? (i := 483) (by decide +kernel)) rfl
theorem t_485 : Cond.instanceMethod yX1_combine ∈ gT := gT_tab (List.mem_of_getElem? (i := 485) (by decide +kernel)) rfl
theorem t_486 : Cond.code yX1_combine cX1_combine 13 none ∈ gT := gT_tab (List.mem_of_getElem? (i := 486) (by decide +kernel)) rfl
theorem t_487 : Cond.methodLink RX1 91 yX1_choices ∈ gT := gT_tab (List.mem_of_getElem? (i := 487) (by decide +kernel)) rfl
theorem t_489 : Cond.instanceMethod yX1_choices ∈ gT := gT_tab (List.mem_of_getElem? (i := 489) (by decide +kernel)) rfl
theorem t_490 : Cond.code yX1_choices cX1_choices 4 (some .int) ∈ gT := gT_tab (List.mem_of_getElem? (i := 490) (by decide +kernel)) rfl
theorem t_491 : Cond.methodLink RX1 95 yX1_settledKind ∈ gT := gT_tab (List.mem_of_getElem? (i := 491) (by decide +kernel)) rfl
theorem t_493 : Cond.instanceMethod yX1_settledKind ∈ gT := gT_tab (List.mem_of_getElem? (i := 493) (by decide +kernel)) rfl
theorem t_494 : Cond.code yX1_settledKind cX1_settledKind 4 (some .int) ∈ gT := gT_tab (List.mem_of_getElem? (i := 494) (by decide +kernel)) rfl
theorem t_495 : Cond.methodLink RX1 98 yX1_stepsIn ∈ gT := gT_tab (List.mem_of_getElem? (i := 495) (by decide +kernel)) rfl
theorem t_497 : Cond.instanceMethod yX1_stepsIn ∈ gT := gT_tab (List.mem_of_getElem? (i := 497) (by decide +kernel)) rfl
theorem t_498 : Cond.code yX1_stepsIn cX1_stepsIn 4 (some .long) ∈ gT := gT_tab (List.mem_of_getElem? (i := 498) (by decide +kernel)) rfl
theorem t_499 : Cond.methodLink RX1 105 yX4_kindFrom ∈ gT := gT_tab (List.mem_of_getElem? (i := 499) (by decide +kernel)) rfl
theorem t_500 : Cond.instanceMethod yX4_kindFrom ∈ gT := gT_tab (List.mem_of_getElem? (i := 500) (by decide +kernel)) rfl
theorem t_501 : Cond.selects RX4 yX4_kindFrom yX4_kindFrom ∈ gT := gT_tab (List.mem_of_getElem? (i := 501) (by decide +kernel)) rfl
theorem t_502 : Cond.code yX4_kindFrom cX4_kindFrom 6 (some .int) ∈ gT := gT_tab (List.mem_of_getElem? (i := 502) (by decide +kernel)) rfl
theorem t_503 : Cond.methodLink RX6 159 yX1_reaches ∈ gT := gT_tab (List.mem_of_getElem? (i := 503) (by decide +kernel)) rfl
theorem t_504 : Cond.instanceMethod yX1_reaches ∈ gT := gT_tab (List.mem_of_getElem? (i := 504) (by decide +kernel)) rfl
theorem t_505 : Cond.selects RX1 yX1_reaches yX1_reaches ∈ gT := gT_tab (List.mem_of_getElem? (i := 505) (by decide +kernel)) rfl
theorem t_506 : Cond.code yX1_reaches cX1_reaches 3 (some .boolean) ∈ gT := gT_tab (List.mem_of_getElem? (i := 506) (by decide +kernel)) rfl
theorem t_507 : Cond.methodLink RL 69 yX6_light ∈ gT := gT_tab (List.mem_of_getElem? (i := 507) (by decide +kernel)) rfl
theorem t_508 : Cond.instanceMethod yX6_light ∈ gT := gT_tab (List.mem_of_getElem? (i := 508) (by decide +kernel)) rfl
theorem t_509 : Cond.selects RX6 yX6_light yX6_light ∈ gT := gT_tab (List.mem_of_getElem? (i := 509) (by decide +kernel)) rfl
theorem t_510 : Cond.code yX6_light cX6_light 4 (some .int) ∈ gT := gT_tab (List.mem_of_getElem? (i := 510) (by decide +kernel)) rfl
theorem t_511 : Cond.methodLink RX6 163 yX1_stepsTo ∈ gT := gT_tab (List.mem_of_getElem? (i := 511) (by decide +kernel)) rfl
theorem t_512 : Cond.instanceMethod yX1_stepsTo ∈ gT := gT_tab (List.mem_of_getElem? (i := 512) (by decide +kernel)) rfl
theorem t_513 : Cond.selects RX1 yX1_stepsTo yX1_stepsTo ∈ gT := gT_tab (List.mem_of_getElem? (i := 513) (by decide +kernel)) rfl
theorem t_514 : Cond.code yX1_stepsTo cX1_stepsTo 3 (some .int) ∈ gT := gT_tab (List.mem_of_getElem? (i := 514) (by decide +kernel)) rfl
theorem t_515 : Cond.methodLink RX1 31 yX1_reaches ∈ gT := gT_tab (List.mem_of_getElem? (i := 515) (by decide +kernel)) rfl
theorem t_516 : Cond.constantLong RX1 37 (2147483647) ∈ gT := gT_tab (List.mem_of_getElem? (i := 516) (by decide +kernel)) rfl
theorem t_517 : Cond.methodLink RX1 39 yJ9_min_f86c9 ∈ gT := gT_tab (List.mem_of_getElem? (i := 517) (by decide +kernel)) rfl
theorem t_518 : Cond.static yJ9_min_f86c9 ∈ gT := gT_tab (List.mem_of_getElem? (i := 518) (by decide +kernel)) rfl
theorem t_519 : Cond.code yJ9_min_f86c9 cJ9_min_f86c9 4 (some .long) ∈ gT := gT_tab (List.mem_of_getElem? (i := 519) (by decide +kernel)) rfl
theorem t_520 : Cond.methodLink RX6 167 yX1_firstTo ∈ gT := gT_tab (List.mem_of_getElem? (i := 520) (by decide +kernel)) rfl
theorem t_521 : Cond.instanceMethod yX1_firstTo ∈ gT := gT_tab (List.mem_of_getElem? (i := 521) (by decide +kernel)) rfl
theorem t_522 : Cond.selects RX1 yX1_firstTo yX1_firstTo ∈ gT := gT_tab (List.mem_of_getElem? (i := 522) (by decide +kernel)) rfl
theorem t_523 : Cond.code yX1_firstTo cX1_firstTo 3 (some .int) ∈ gT := gT_tab (List.mem_of_getElem? (i := 523) (by decide +kernel)) rfl
theorem t_524 : Cond.methodLink RL 74 yX6_count ∈ gT := gT_tab (List.mem_of_getElem? (i := 524) (by decide +kernel)) rfl
theorem t_525 : Cond.instanceMethod yX6_count ∈ gT := gT_tab (List.mem_of_getElem? (i := 525) (by decide +kernel)) rfl
theorem t_526 : Cond.selects RX6 yX6_count yX6_count ∈ gT := gT_tab (List.mem_of_getElem? (i := 526) (by decide +kernel)) rfl
theorem t_527 : Cond.code yX6_count cX6_count 2 (some .int) ∈ gT := gT_tab (List.mem_of_getElem? (i := 527) (by decide +kernel)) rfl
theorem t_528 : Cond.methodLink RX6 170 yX0_openEdges ∈ gT := gT_tab (List.mem_of_getElem? (i := 528) (by decide +kernel)) rfl
theorem t_529 : Cond.methodLink RL 78 yX6_digest ∈ gT := gT_tab (List.mem_of_getElem? (i := 529) (by decide +kernel)) rfl
theorem t_530 : Cond.instanceMethod yX6_digest ∈ gT := gT_tab (List.mem_of_getElem? (i := 530) (by decide +kernel)) rfl
theorem t_531 : Cond.selects RX6 yX6_digest yX6_digest ∈ gT := gT_tab (List.mem_of_getElem? (i := 531) (by decide +kernel)) rfl
theorem t_532 : Cond.code yX6_digest cX6_digest 5 (some .long) ∈ gT := gT_tab (List.mem_of_getElem? (i := 532) (by decide +kernel)) rfl
theorem t_533 : Cond.constantLong RX6 173 (1709) ∈ gT := gT_tab (List.mem_of_getElem? (i := 533) (by decide +kernel)) rfl
theorem t_534 : Cond.methodLink RX6 175 yX6_of ∈ gT := gT_tab (List.mem_of_getElem? (i := 534) (by decide +kernel)) rfl
theorem t_535 : Cond.methodLink RX6 178 yX6_mix ∈ gT := gT_tab (List.mem_of_getElem? (i := 535) (by decide +kernel)) rfl
theorem t_536 : Cond.static yX6_mix ∈ gT := gT_tab (List.mem_of_getElem? (i := 536) (by decide +kernel)) rfl
theorem t_537 : Cond.code yX6_mix cX6_mix 3 (some .long) ∈ gT := gT_tab (List.mem_of_getElem? (i := 537) (by decide +kernel)) rfl
theorem t_538 : Cond.constantLong RX6 204 (31) ∈ gT := gT_tab (List.mem_of_getElem? (i := 538) (by decide +kernel)) rfl
theorem t_539 : Cond.methodLink RX6 182 yX6_edge ∈ gT := gT_tab (List.mem_of_getElem? (i := 539) (by decide +kernel)) rfl
theorem t_540 : Cond.methodLink RX6 185 yX6_kind ∈ gT := gT_tab (List.mem_of_getElem? (i := 540) (by decide +kernel)) rfl
theorem t_541 : Cond.methodLink RX6 188 yX6_fewest ∈ gT := gT_tab (List.mem_of_getElem? (i := 541) (by decide +kernel)) rfl
theorem t_542 : Cond.methodLink RX6 191 yX6_kinds ∈ gT := gT_tab (List.mem_of_getElem? (i := 542) (by decide +kernel)) rfl
theorem t_543 : Cond.methodLink RX6 194 yX6_light ∈ gT := gT_tab (List.mem_of_getElem? (i := 543) (by decide +kernel)) rfl
theorem t_544 : Cond.methodLink RX6 201 yX6_count ∈ gT := gT_tab (List.mem_of_getElem? (i := 544) (by decide +kernel)) rfl
theorem t_545 : Cond.classLink RL 10 RX7 ∈ gT := gT_tab (List.mem_of_getElem? (i := 545) (by decide +kernel)) rfl
theorem t_546 : Cond.instantiable RX7 27 ∈ gT := gT_tab (List.mem_of_getElem? (i := 546) (by decide +kernel)) rfl
theorem t_547 : Cond.methodLink RL 12 yX7_init ∈ gT := gT_tab (List.mem_of_getElem? (i := 547) (by decide +kernel)) rfl
theorem t_548 : Cond.instanceMethod yX7_init ∈ gT := gT_tab (List.mem_of_getElem? (i := 548) (by decide +kernel)) rfl
theorem t_549 : Cond.code yX7_init cX7_init 1 none ∈ gT := gT_tab (List.mem_of_getElem? (i := 549) (by decide +kernel)) rfl
theorem t_550 : Cond.methodLink RX7 1 objectInit ∈ gT := gT_tab (List.mem_of_getElem? (i := 550) (by decide +kernel)) rfl
theorem t_551 : Cond.fieldLink RX7 54 "GrownGraphsModel" "pageLength" "I" ∈ gT := gT_tab (List.mem_of_getElem? (i := 551) (by decide +kernel)) rfl
theorem t_552 : Cond.fieldLink RX7 7 "GrownGraphsModel" "page" "[I" ∈ gT := gT_tab (List.mem_of_getElem? (i := 552) (by decide +kernel)) rfl
theorem t_553 : Cond.fieldLink RX7 94 "GrownGraphsModel" "rules" "I" ∈ gT := gT_tab (List.mem_of_getElem? (i := 553) (by decide +kernel)) rfl
theorem t_554 : Cond.fieldLink RX7 13 "GrownGraphsModel" "ruleOf" "[I" ∈ gT := gT_tab (List.mem_of_getElem? (i := 554) (by decide +kernel)) rfl
theorem t_555 : Cond.fieldLink RX7 16 "GrownGraphsModel" "ruleEdges" "[I" ∈ gT := gT_tab (List.mem_of_getElem? (i := 555) (by decide +kernel)) rfl
theorem t_556 : Cond.fieldLink RX7 19 "GrownGraphsModel" "ruleNodes" "[I" ∈ gT := gT_tab (List.mem_of_getElem? (i := 556) (by decide +kernel)) rfl
theorem t_557 : Cond.fieldLink RX7 22 "GrownGraphsModel" "ruleEdge" "[I" ∈ gT := gT_tab (List.mem_of_getElem? (i := 557) (by decide +kernel)) rfl
theorem t_558 : Cond.fieldLink RX7 108 "GrownGraphsModel" "edges" "I" ∈ gT := gT_tab (List.mem_of_getElem? (i := 558) (by decide +kernel)) rfl
theorem t_559 : Cond.fieldLink RX7 111 "GrownGraphsModel" "nodes" "I" ∈ gT := gT_tab (List.mem_of_getElem? (i := 559) (by decide +kernel)) rfl
theorem t_560 : Cond.fieldLink RX7 25 "GrownGraphsModel" "edgeAt" "[I" ∈ gT := gT_tab (List.mem_of_getElem? (i := 560) (by decide +kernel)) rfl
theorem t_561 : Cond.fieldLink RX7 114 "GrownGraphsModel" "steps" "I" ∈ gT := gT_tab (List.mem_of_getElem? (i := 561) (by decide +kernel)) rfl
theorem t_562 : Cond.fieldLink RX7 139 "GrownGraphsModel" "stepsEver" "I" ∈ gT := gT_tab (List.mem_of_getElem? (i := 562) (by decide +kernel)) rfl
theorem t_563 : Cond.fieldLink RX7 117 "GrownGraphsModel" "begun" "I" ∈ gT := gT_tab (List.mem_of_getElem? (i := 563) (by decide +kernel)) rfl
theorem t_564 : Cond.fieldLink RX7 68 "GrownGraphsModel" "newMany" "I" ∈ gT := gT_tab (List.mem_of_getElem? (i := 564) (by decide +kernel)) rfl
theorem t_565 : Cond.fieldLink RX7 28 "GrownGraphsModel" "newEdge" "[I" ∈ gT := gT_tab (List.mem_of_getElem? (i := 565) (by decide +kernel)) rfl
theorem t_566 : Cond.fieldLink RX7 71 "GrownGraphsModel" "newNodes" "I" ∈ gT := gT_tab (List.mem_of_getElem? (i := 566) (by decide +kernel)) rfl
theorem t_567 : Cond.fieldLink RX7 58 "GrownGraphsModel" "newStage" "I" ∈ gT := gT_tab (List.mem_of_getElem? (i := 567) (by decide +kernel)) rfl
theorem t_568 : Cond.fieldLink RX7 65 "GrownGraphsModel" "newNow" "I" ∈ gT := gT_tab (List.mem_of_getElem? (i := 568) (by decide +kernel)) rfl
theorem t_569 : Cond.fieldLink RX7 159 "GrownGraphsModel" "isLaid" "Z" ∈ gT := gT_tab (List.mem_of_getElem? (i := 569) (by decide +kernel)) rfl
theorem t_570 : Cond.fieldLink RX7 31 "GrownGraphsModel" "fewestAt" "[I" ∈ gT := gT_tab (List.mem_of_getElem? (i := 570) (by decide +kernel)) rfl
theorem t_571 : Cond.fieldLink RX7 34 "GrownGraphsModel" "nodesOf" "[I" ∈ gT := gT_tab (List.mem_of_getElem? (i := 571) (by decide +kernel)) rfl
theorem t_572 : Cond.fieldLink RX7 37 "GrownGraphsModel" "nodeAt" "[I" ∈ gT := gT_tab (List.mem_of_getElem? (i := 572) (by decide +kernel)) rfl
theorem t_573 : Cond.fieldLink RX7 163 "GrownGraphsModel" "isLightLaid" "Z" ∈ gT := gT_tab (List.mem_of_getElem? (i := 573) (by decide +kernel)) rfl
theorem t_574 : Cond.fieldLink RX7 40 "GrownGraphsModel" "lightAt" "[J" ∈ gT := gT_tab (List.mem_of_getElem? (i := 574) (by decide +kernel)) rfl
theorem t_575 : Cond.fieldLink RX7 44 "GrownGraphsModel" "firstAt" "[I" ∈ gT := gT_tab (List.mem_of_getElem? (i := 575) (by decide +kernel)) rfl
theorem t_576 : Cond.fieldLink RX7 47 "GrownGraphsModel" "classNow" "[I" ∈ gT := gT_tab (List.mem_of_getElem? (i := 576) (by decide +kernel)) rfl
theorem t_577 : Cond.fieldLink RX7 243 "GrownGraphsModel" "h" "J" ∈ gT := gT_tab (List.mem_of_getElem? (i := 577) (by decide +kernel)) rfl
theorem t_633 : Cond.methodLink RL 17 yX7_letter ∈ gT := gT_tab (List.mem_of_getElem? (i := 633) (by decide +kernel)) rfl
theorem t_634 : Cond.instanceMethod yX7_letter ∈ gT := gT_tab (List.mem_of_getElem? (i := 634) (by decide +kernel)) rfl
theorem t_635 : Cond.selects RX7 yX7_letter yX7_letter ∈ gT := gT_tab (List.mem_of_getElem? (i := 635) (by decide +kernel)) rfl
theorem t_636 : Cond.code yX7_letter cX7_letter 2 (some .int) ∈ gT := gT_tab (List.mem_of_getElem? (i := 636) (by decide +kernel)) rfl
theorem t_637 : Cond.methodLink RX7 50 yX7_within ∈ gT := gT_tab (List.mem_of_getElem? (i := 637) (by decide +kernel)) rfl
theorem t_638 : Cond.static yX7_within ∈ gT := gT_tab (List.mem_of_getElem? (i := 638) (by decide +kernel)) rfl
theorem t_639 : Cond.code yX7_within cX7_within 3 (some .boolean) ∈ gT := gT_tab (List.mem_of_getElem? (i := 639) (by decide +kernel)) rfl
theorem t_640 : Cond.methodLink RL 22 yX7_blank ∈ gT := gT_tab (List.mem_of_getElem? (i := 640) (by decide +kernel)) rfl
theorem t_641 : Cond.instanceMethod yX7_blank ∈ gT := gT_tab (List.mem_of_getElem? (i := 641) (by decide +kernel)) rfl
theorem t_642 : Cond.selects RX7 yX7_blank yX7_blank ∈ gT := gT_tab (List.mem_of_getElem? (i := 642) (by decide +kernel)) rfl
theorem t_643 : Cond.code yX7_blank cX7_blank 2 (some .int) ∈ gT := gT_tab (List.mem_of_getElem? (i := 643) (by decide +kernel)) rfl
theorem t_644 : Cond.methodLink RL 27 yX7_fault ∈ gT := gT_tab (List.mem_of_getElem? (i := 644) (by decide +kernel)) rfl
theorem t_645 : Cond.instanceMethod yX7_fault ∈ gT := gT_tab (List.mem_of_getElem? (i := 645) (by decide +kernel)) rfl
theorem t_646 : Cond.selects RX7 yX7_fault yX7_fault ∈ gT := gT_tab (List.mem_of_getElem? (i := 646) (by decide +kernel)) rfl
theorem t_647 : Cond.code yX7_fault cX7_fault 2 (some .int) ∈ gT := gT_tab (List.mem_of_getElem? (i := 647) (by decide +kernel)) rfl
theorem t_648 : Cond.methodLink RX7 82 yX7_read ∈ gT := gT_tab (List.mem_of_getElem? (i := 648) (by decide +kernel)) rfl
theorem t_650 : Cond.instanceMethod yX7_read ∈ gT := gT_tab (List.mem_of_getElem? (i := 650) (by decide +kernel)) rfl
theorem t_651 : Cond.code yX7_read cX7_read 3 (some .int) ∈ gT := gT_tab (List.mem_of_getElem? (i := 651) (by decide +kernel)) rfl
theorem t_652 : Cond.methodLink RX7 78 yX7_takes ∈ gT := gT_tab (List.mem_of_getElem? (i := 652) (by decide +kernel)) rfl
theorem t_654 : Cond.instanceMethod yX7_takes ∈ gT := gT_tab (List.mem_of_getElem? (i := 654) (by decide +kernel)) rfl
theorem t_655 : Cond.code yX7_takes cX7_takes 4 (some .boolean) ∈ gT := gT_tab (List.mem_of_getElem? (i := 655) (by decide +kernel)) rfl
theorem t_656 : Cond.methodLink RX7 74 yX7_takesEdge ∈ gT := gT_tab (List.mem_of_getElem? (i := 656) (by decide +kernel)) rfl
theorem t_658 : Cond.instanceMethod yX7_takesEdge ∈ gT := gT_tab (List.mem_of_getElem? (i := 658) (by decide +kernel)) rfl
theorem t_659 : Cond.code yX7_takesEdge cX7_takesEdge 4 (some .boolean) ∈ gT := gT_tab (List.mem_of_getElem? (i := 659) (by decide +kernel)) rfl
theorem t_660 : Cond.methodLink RX7 61 yX7_letterAt ∈ gT := gT_tab (List.mem_of_getElem? (i := 660) (by decide +kernel)) rfl
theorem t_661 : Cond.static yX7_letterAt ∈ gT := gT_tab (List.mem_of_getElem? (i := 661) (by decide +kernel)) rfl
theorem t_662 : Cond.code yX7_letterAt cX7_letterAt 2 (some .int) ∈ gT := gT_tab (List.mem_of_getElem? (i := 662) (by decide +kernel)) rfl
theorem t_663 : Cond.methodLink RL 31 yX7_rule ∈ gT := gT_tab (List.mem_of_getElem? (i := 663) (by decide +kernel)) rfl
theorem t_664 : Cond.instanceMethod yX7_rule ∈ gT := gT_tab (List.mem_of_getElem? (i := 664) (by decide +kernel)) rfl
theorem t_665 : Cond.selects RX7 yX7_rule yX7_rule ∈ gT := gT_tab (List.mem_of_getElem? (i := 665) (by decide +kernel)) rfl
theorem t_666 : Cond.code yX7_rule cX7_rule 3 (some .int) ∈ gT := gT_tab (List.mem_of_getElem? (i := 666) (by decide +kernel)) rfl
theorem t_667 : Cond.methodLink RX7 86 yX7_isWhole ∈ gT := gT_tab (List.mem_of_getElem? (i := 667) (by decide +kernel)) rfl
theorem t_669 : Cond.instanceMethod yX7_isWhole ∈ gT := gT_tab (List.mem_of_getElem? (i := 669) (by decide +kernel)) rfl
theorem t_670 : Cond.code yX7_isWhole cX7_isWhole 2 (some .boolean) ∈ gT := gT_tab (List.mem_of_getElem? (i := 670) (by decide +kernel)) rfl
theorem t_671 : Cond.methodLink RX7 90 yX7_has ∈ gT := gT_tab (List.mem_of_getElem? (i := 671) (by decide +kernel)) rfl
theorem t_672 : Cond.static yX7_has ∈ gT := gT_tab (List.mem_of_getElem? (i := 672) (by decide +kernel)) rfl
theorem t_673 : Cond.code yX7_has cX7_has 2 (some .boolean) ∈ gT := gT_tab (List.mem_of_getElem? (i := 673) (by decide +kernel)) rfl
theorem t_674 : Cond.methodLink RX7 97 yX7_above ∈ gT := gT_tab (List.mem_of_getElem? (i := 674) (by decide +kernel)) rfl
theorem t_675 : Cond.static yX7_above ∈ gT := gT_tab (List.mem_of_getElem? (i := 675) (by decide +kernel)) rfl
theorem t_676 : Cond.code yX7_above cX7_above 2 (some .int) ∈ gT := gT_tab (List.mem_of_getElem? (i := 676) (by decide +kernel)) rfl
theorem t_677 : Cond.methodLink RX7 101 yX7_altered ∈ gT := gT_tab (List.mem_of_getElem? (i := 677) (by decide +kernel)) rfl
theorem t_679 : Cond.instanceMethod yX7_altered ∈ gT := gT_tab (List.mem_of_getElem? (i := 679) (by decide +kernel)) rfl
theorem t_680 : Cond.code yX7_altered cX7_altered 1 none ∈ gT := gT_tab (List.mem_of_getElem? (i := 680) (by decide +kernel)) rfl
theorem t_681 : Cond.methodLink RL 35 yX7_drop ∈ gT := gT_tab (List.mem_of_getElem? (i := 681) (by decide +kernel)) rfl
theorem t_682 : Cond.instanceMethod yX7_drop ∈ gT := gT_tab (List.mem_of_getElem? (i := 682) (by decide +kernel)) rfl
theorem t_683 : Cond.selects RX7 yX7_drop yX7_drop ∈ gT := gT_tab (List.mem_of_getElem? (i := 683) (by decide +kernel)) rfl
theorem t_684 : Cond.code yX7_drop cX7_drop 4 (some .int) ∈ gT := gT_tab (List.mem_of_getElem? (i := 684) (by decide +kernel)) rfl
theorem t_685 : Cond.methodLink RX7 104 yX7_isRule ∈ gT := gT_tab (List.mem_of_getElem? (i := 685) (by decide +kernel)) rfl
theorem t_687 : Cond.instanceMethod yX7_isRule ∈ gT := gT_tab (List.mem_of_getElem? (i := 687) (by decide +kernel)) rfl
theorem t_688 : Cond.code yX7_isRule cX7_isRule 2 (some .boolean) ∈ gT := gT_tab (List.mem_of_getElem? (i := 688) (by decide +kernel)) rfl
theorem t_689 : Cond.methodLink RL 39 yX7_graph ∈ gT := gT_tab (List.mem_of_getElem? (i := 689) (by decide +kernel)) rfl
theorem t_690 : Cond.instanceMethod yX7_graph ∈ gT := gT_tab (List.mem_of_getElem? (i := 690) (by decide +kernel)) rfl
theorem t_691 : Cond.selects RX7 yX7_graph yX7_graph ∈ gT := gT_tab (List.mem_of_getElem? (i := 691) (by decide +kernel)) rfl
theorem t_692 : Cond.code yX7_graph cX7_graph 3 (some .int) ∈ gT := gT_tab (List.mem_of_getElem? (i := 692) (by decide +kernel)) rfl
theorem t_693 : Cond.methodLink RL 44 yX7_of ∈ gT := gT_tab (List.mem_of_getElem? (i := 693) (by decide +kernel)) rfl
theorem t_694 : Cond.instanceMethod yX7_of ∈ gT := gT_tab (List.mem_of_getElem? (i := 694) (by decide +kernel)) rfl
theorem t_695 : Cond.selects RX7 yX7_of yX7_of ∈ gT := gT_tab (List.mem_of_getElem? (i := 695) (by decide +kernel)) rfl
theorem t_696 : Cond.code yX7_of cX7_of 3 (some .int) ∈ gT := gT_tab (List.mem_of_getElem? (i := 696) (by decide +kernel)) rfl
theorem t_697 : Cond.methodLink RX7 120 yX7_ruleNow ∈ gT := gT_tab (List.mem_of_getElem? (i := 697) (by decide +kernel)) rfl
theorem t_699 : Cond.instanceMethod yX7_ruleNow ∈ gT := gT_tab (List.mem_of_getElem? (i := 699) (by decide +kernel)) rfl
theorem t_700 : Cond.code yX7_ruleNow cX7_ruleNow 3 (some .int) ∈ gT := gT_tab (List.mem_of_getElem? (i := 700) (by decide +kernel)) rfl
theorem t_701 : Cond.methodLink RL 48 yX7_begin ∈ gT := gT_tab (List.mem_of_getElem? (i := 701) (by decide +kernel)) rfl
theorem t_702 : Cond.instanceMethod yX7_begin ∈ gT := gT_tab (List.mem_of_getElem? (i := 702) (by decide +kernel)) rfl
theorem t_703 : Cond.selects RX7 yX7_begin yX7_begin ∈ gT := gT_tab (List.mem_of_getElem? (i := 703) (by decide +kernel)) rfl
theorem t_704 : Cond.code yX7_begin cX7_begin 2 (some .int) ∈ gT := gT_tab (List.mem_of_getElem? (i := 704) (by decide +kernel)) rfl
theorem t_705 : Cond.methodLink RL 52 yX7_step ∈ gT := gT_tab (List.mem_of_getElem? (i := 705) (by decide +kernel)) rfl
theorem t_706 : Cond.instanceMethod yX7_step ∈ gT := gT_tab (List.mem_of_getElem? (i := 706) (by decide +kernel)) rfl
theorem t_707 : Cond.selects RX7 yX7_step yX7_step ∈ gT := gT_tab (List.mem_of_getElem? (i := 707) (by decide +kernel)) rfl
theorem t_708 : Cond.code yX7_step cX7_step 7 (some .int) ∈ gT := gT_tab (List.mem_of_getElem? (i := 708) (by decide +kernel)) rfl
theorem t_709 : Cond.methodLink RX7 124 yX7_isEdge ∈ gT := gT_tab (List.mem_of_getElem? (i := 709) (by decide +kernel)) rfl
theorem t_711 : Cond.instanceMethod yX7_isEdge ∈ gT := gT_tab (List.mem_of_getElem? (i := 711) (by decide +kernel)) rfl
theorem t_712 : Cond.code yX7_isEdge cX7_isEdge 2 (some .boolean) ∈ gT := gT_tab (List.mem_of_getElem? (i := 712) (by decide +kernel)) rfl
theorem t_713 : Cond.methodLink RX7 127 yX7_letterOf ∈ gT := gT_tab (List.mem_of_getElem? (i := 713) (by decide +kernel)) rfl
theorem t_714 : Cond.static yX7_letterOf ∈ gT := gT_tab (List.mem_of_getElem? (i := 714) (by decide +kernel)) rfl
theorem t_715 : Cond.code yX7_letterOf cX7_letterOf 1 (some .int) ∈ gT := gT_tab (List.mem_of_getElem? (i := 715) (by decide +kernel)) rfl
theorem t_716 : Cond.methodLink RX7 130 yX7_fromOf ∈ gT := gT_tab (List.mem_of_getElem? (i := 716) (by decide +kernel)) rfl
theorem t_717 : Cond.static yX7_fromOf ∈ gT := gT_tab (List.mem_of_getElem? (i := 717) (by decide +kernel)) rfl
theorem t_718 : Cond.code yX7_fromOf cX7_fromOf 1 (some .int) ∈ gT := gT_tab (List.mem_of_getElem? (i := 718) (by decide +kernel)) rfl
theorem t_719 : Cond.methodLink RX7 133 yX7_nodeFor ∈ gT := gT_tab (List.mem_of_getElem? (i := 719) (by decide +kernel)) rfl
theorem t_721 : Cond.instanceMethod yX7_nodeFor ∈ gT := gT_tab (List.mem_of_getElem? (i := 721) (by decide +kernel)) rfl
theorem t_722 : Cond.code yX7_nodeFor cX7_nodeFor 3 (some .int) ∈ gT := gT_tab (List.mem_of_getElem? (i := 722) (by decide +kernel)) rfl
theorem t_723 : Cond.methodLink RX7 136 yX7_toOf ∈ gT := gT_tab (List.mem_of_getElem? (i := 723) (by decide +kernel)) rfl
theorem t_724 : Cond.static yX7_toOf ∈ gT := gT_tab (List.mem_of_getElem? (i := 724) (by decide +kernel)) rfl
theorem t_725 : Cond.code yX7_toOf cX7_toOf 1 (some .int) ∈ gT := gT_tab (List.mem_of_getElem? (i := 725) (by decide +kernel)) rfl
theorem t_726 : Cond.methodLink RL 56 yX7_edge ∈ gT := gT_tab (List.mem_of_getElem? (i := 726) (by decide +kernel)) rfl
theorem t_727 : Cond.instanceMethod yX7_edge ∈ gT := gT_tab (List.mem_of_getElem? (i := 727) (by decide +kernel)) rfl
theorem t_728 : Cond.selects RX7 yX7_edge yX7_edge ∈ gT := gT_tab (List.mem_of_getElem? (i := 728) (by decide +kernel)) rfl
theorem t_729 : Cond.code yX7_edge cX7_edge 2 (some .int) ∈ gT := gT_tab (List.mem_of_getElem? (i := 729) (by decide +kernel)) rfl
theorem t_730 : Cond.methodLink RL 60 yX7_kind ∈ gT := gT_tab (List.mem_of_getElem? (i := 730) (by decide +kernel)) rfl
theorem t_731 : Cond.instanceMethod yX7_kind ∈ gT := gT_tab (List.mem_of_getElem? (i := 731) (by decide +kernel)) rfl
theorem t_732 : Cond.selects RX7 yX7_kind yX7_kind ∈ gT := gT_tab (List.mem_of_getElem? (i := 732) (by decide +kernel)) rfl
theorem t_733 : Cond.code yX7_kind cX7_kind 1 (some .int) ∈ gT := gT_tab (List.mem_of_getElem? (i := 733) (by decide +kernel)) rfl
theorem t_734 : Cond.methodLink RX7 152 yX7_isDone ∈ gT := gT_tab (List.mem_of_getElem? (i := 734) (by decide +kernel)) rfl
theorem t_736 : Cond.instanceMethod yX7_isDone ∈ gT := gT_tab (List.mem_of_getElem? (i := 736) (by decide +kernel)) rfl
theorem t_737 : Cond.code yX7_isDone cX7_isDone 1 (some .boolean) ∈ gT := gT_tab (List.mem_of_getElem? (i := 737) (by decide +kernel)) rfl
theorem t_738 : Cond.methodLink RX7 149 yX7_opens ∈ gT := gT_tab (List.mem_of_getElem? (i := 738) (by decide +kernel)) rfl
theorem t_740 : Cond.instanceMethod yX7_opens ∈ gT := gT_tab (List.mem_of_getElem? (i := 740) (by decide +kernel)) rfl
theorem t_741 : Cond.code yX7_opens cX7_opens 3 (some .int) ∈ gT := gT_tab (List.mem_of_getElem? (i := 741) (by decide +kernel)) rfl
theorem t_742 : Cond.methodLink RX7 156 yX7_kindNow ∈ gT := gT_tab (List.mem_of_getElem? (i := 742) (by decide +kernel)) rfl
theorem t_744 : Cond.instanceMethod yX7_kindNow ∈ gT := gT_tab (List.mem_of_getElem? (i := 744) (by decide +kernel)) rfl
theorem t_745 : Cond.code yX7_kindNow cX7_kindNow 1 (some .int) ∈ gT := gT_tab (List.mem_of_getElem? (i := 745) (by decide +kernel)) rfl
theorem t_746 : Cond.methodLink RX7 142 yX7_leadsTo ∈ gT := gT_tab (List.mem_of_getElem? (i := 746) (by decide +kernel)) rfl
theorem t_748 : Cond.instanceMethod yX7_leadsTo ∈ gT := gT_tab (List.mem_of_getElem? (i := 748) (by decide +kernel)) rfl
theorem t_749 : Cond.code yX7_leadsTo cX7_leadsTo 7 (some .boolean) ∈ gT := gT_tab (List.mem_of_getElem? (i := 749) (by decide +kernel)) rfl
theorem t_750 : Cond.methodLink RX7 145 yX7_coloured ∈ gT := gT_tab (List.mem_of_getElem? (i := 750) (by decide +kernel)) rfl
theorem t_752 : Cond.instanceMethod yX7_coloured ∈ gT := gT_tab (List.mem_of_getElem? (i := 752) (by decide +kernel)) rfl
theorem t_753 : Cond.code yX7_coloured cX7_coloured 6 (some .int) ∈ gT := gT_tab (List.mem_of_getElem? (i := 753) (by decide +kernel)) rfl
theorem t_754 : Cond.methodLink RL 64 yX7_fewest ∈ gT := gT_tab (List.mem_of_getElem? (i := 754) (by decide +kernel)) rfl
theorem t_755 : Cond.instanceMethod yX7_fewest ∈ gT := gT_tab (List.mem_of_getElem? (i := 755) (by decide +kernel)) rfl
theorem t_756 : Cond.selects RX7 yX7_fewest yX7_fewest ∈ gT := gT_tab (List.mem_of_getElem? (i := 756) (by decide +kernel)) rfl
theorem t_757 : Cond.code yX7_fewest cX7_fewest 2 (some .int) ∈ gT := gT_tab (List.mem_of_getElem? (i := 757) (by decide +kernel)) rfl
theorem t_758 : Cond.methodLink RX7 207 yX7_fewestNow ∈ gT := gT_tab (List.mem_of_getElem? (i := 758) (by decide +kernel)) rfl
theorem t_760 : Cond.instanceMethod yX7_fewestNow ∈ gT := gT_tab (List.mem_of_getElem? (i := 760) (by decide +kernel)) rfl
theorem t_761 : Cond.code yX7_fewestNow cX7_fewestNow 3 (some .int) ∈ gT := gT_tab (List.mem_of_getElem? (i := 761) (by decide +kernel)) rfl
theorem t_762 : Cond.methodLink RX7 204 yX7_layFewest ∈ gT := gT_tab (List.mem_of_getElem? (i := 762) (by decide +kernel)) rfl
theorem t_764 : Cond.instanceMethod yX7_layFewest ∈ gT := gT_tab (List.mem_of_getElem? (i := 764) (by decide +kernel)) rfl
theorem t_765 : Cond.code yX7_layFewest cX7_layFewest 3 none ∈ gT := gT_tab (List.mem_of_getElem? (i := 765) (by decide +kernel)) rfl
theorem t_766 : Cond.methodLink RX7 197 yX7_ones ∈ gT := gT_tab (List.mem_of_getElem? (i := 766) (by decide +kernel)) rfl
theorem t_767 : Cond.static yX7_ones ∈ gT := gT_tab (List.mem_of_getElem? (i := 767) (by decide +kernel)) rfl
theorem t_768 : Cond.code yX7_ones cX7_ones 3 (some .int) ∈ gT := gT_tab (List.mem_of_getElem? (i := 768) (by decide +kernel)) rfl
theorem t_769 : Cond.methodLink RX7 200 yX7_laySet ∈ gT := gT_tab (List.mem_of_getElem? (i := 769) (by decide +kernel)) rfl
theorem t_771 : Cond.instanceMethod yX7_laySet ∈ gT := gT_tab (List.mem_of_getElem? (i := 771) (by decide +kernel)) rfl
theorem t_772 : Cond.code yX7_laySet cX7_laySet 5 none ∈ gT := gT_tab (List.mem_of_getElem? (i := 772) (by decide +kernel)) rfl
theorem t_773 : Cond.methodLink RX7 187 yX7_layEnds ∈ gT := gT_tab (List.mem_of_getElem? (i := 773) (by decide +kernel)) rfl
theorem t_775 : Cond.instanceMethod yX7_layEnds ∈ gT := gT_tab (List.mem_of_getElem? (i := 775) (by decide +kernel)) rfl
theorem t_776 : Cond.code yX7_layEnds cX7_layEnds 7 none ∈ gT := gT_tab (List.mem_of_getElem? (i := 776) (by decide +kernel)) rfl
theorem t_777 : Cond.methodLink RX7 166 yX7_at ∈ gT := gT_tab (List.mem_of_getElem? (i := 777) (by decide +kernel)) rfl
theorem t_779 : Cond.instanceMethod yX7_at ∈ gT := gT_tab (List.mem_of_getElem? (i := 779) (by decide +kernel)) rfl
theorem t_780 : Cond.code yX7_at cX7_at 5 (some .int) ∈ gT := gT_tab (List.mem_of_getElem? (i := 780) (by decide +kernel)) rfl
theorem t_781 : Cond.constant RX7 170 (1000000) ∈ gT := gT_tab (List.mem_of_getElem? (i := 781) (by decide +kernel)) rfl
theorem t_782 : Cond.methodLink RX7 194 yX7_byInner ∈ gT := gT_tab (List.mem_of_getElem? (i := 782) (by decide +kernel)) rfl
theorem t_784 : Cond.instanceMethod yX7_byInner ∈ gT := gT_tab (List.mem_of_getElem? (i := 784) (by decide +kernel)) rfl
theorem t_785 : Cond.code yX7_byInner cX7_byInner 8 (some .int) ∈ gT := gT_tab (List.mem_of_getElem? (i := 785) (by decide +kernel)) rfl
theorem t_786 : Cond.methodLink RX7 181 yX7_areUnlike ∈ gT := gT_tab (List.mem_of_getElem? (i := 786) (by decide +kernel)) rfl
theorem t_788 : Cond.instanceMethod yX7_areUnlike ∈ gT := gT_tab (List.mem_of_getElem? (i := 788) (by decide +kernel)) rfl
theorem t_789 : Cond.code yX7_areUnlike cX7_areUnlike 5 (some .boolean) ∈ gT := gT_tab (List.mem_of_getElem? (i := 789) (by decide +kernel)) rfl
theorem t_790 : Cond.methodLink RX7 184 yX7_bySplits ∈ gT := gT_tab (List.mem_of_getElem? (i := 790) (by decide +kernel)) rfl
theorem t_792 : Cond.instanceMethod yX7_bySplits ∈ gT := gT_tab (List.mem_of_getElem? (i := 792) (by decide +kernel)) rfl
theorem t_793 : Cond.code yX7_bySplits cX7_bySplits 14 (some .int) ∈ gT := gT_tab (List.mem_of_getElem? (i := 793) (by decide +kernel)) rfl
theorem t_794 : Cond.methodLink RX7 174 yX7_stepsFor ∈ gT := gT_tab (List.mem_of_getElem? (i := 794) (by decide +kernel)) rfl
theorem t_796 : Cond.instanceMethod yX7_stepsFor ∈ gT := gT_tab (List.mem_of_getElem? (i := 796) (by decide +kernel)) rfl
theorem t_797 : Cond.code yX7_stepsFor cX7_stepsFor 3 (some .int) ∈ gT := gT_tab (List.mem_of_getElem? (i := 797) (by decide +kernel)) rfl
theorem t_798 : Cond.methodLink RX7 171 yX7_stepsOf ∈ gT := gT_tab (List.mem_of_getElem? (i := 798) (by decide +kernel)) rfl
theorem t_800 : Cond.instanceMethod yX7_stepsOf ∈ gT := gT_tab (List.mem_of_getElem? (i := 800) (by decide +kernel)) rfl
theorem t_801 : Cond.code yX7_stepsOf cX7_stepsOf 7 (some .int) ∈ gT := gT_tab (List.mem_of_getElem? (i := 801) (by decide +kernel)) rfl
theorem t_802 : Cond.methodLink RX7 177 yX7_areApart ∈ gT := gT_tab (List.mem_of_getElem? (i := 802) (by decide +kernel)) rfl
theorem t_804 : Cond.instanceMethod yX7_areApart ∈ gT := gT_tab (List.mem_of_getElem? (i := 804) (by decide +kernel)) rfl
theorem t_805 : Cond.code yX7_areApart cX7_areApart 7 (some .boolean) ∈ gT := gT_tab (List.mem_of_getElem? (i := 805) (by decide +kernel)) rfl
theorem t_806 : Cond.methodLink RX7 191 yX7_laySingles ∈ gT := gT_tab (List.mem_of_getElem? (i := 806) (by decide +kernel)) rfl
theorem t_808 : Cond.instanceMethod yX7_laySingles ∈ gT := gT_tab (List.mem_of_getElem? (i := 808) (by decide +kernel)) rfl
theorem t_809 : Cond.code yX7_laySingles cX7_laySingles 8 (some .boolean) ∈ gT := gT_tab (List.mem_of_getElem? (i := 809) (by decide +kernel)) rfl
theorem t_810 : Cond.methodLink RL 68 yX7_kinds ∈ gT := gT_tab (List.mem_of_getElem? (i := 810) (by decide +kernel)) rfl
theorem t_811 : Cond.instanceMethod yX7_kinds ∈ gT := gT_tab (List.mem_of_getElem? (i := 811) (by decide +kernel)) rfl
theorem t_812 : Cond.selects RX7 yX7_kinds yX7_kinds ∈ gT := gT_tab (List.mem_of_getElem? (i := 812) (by decide +kernel)) rfl
theorem t_813 : Cond.code yX7_kinds cX7_kinds 2 (some .int) ∈ gT := gT_tab (List.mem_of_getElem? (i := 813) (by decide +kernel)) rfl
theorem t_814 : Cond.methodLink RX7 231 yX7_kindsNow ∈ gT := gT_tab (List.mem_of_getElem? (i := 814) (by decide +kernel)) rfl
theorem t_816 : Cond.instanceMethod yX7_kindsNow ∈ gT := gT_tab (List.mem_of_getElem? (i := 816) (by decide +kernel)) rfl
theorem t_817 : Cond.code yX7_kindsNow cX7_kindsNow 4 (some .int) ∈ gT := gT_tab (List.mem_of_getElem? (i := 817) (by decide +kernel)) rfl
theorem t_818 : Cond.methodLink RX7 228 yX7_layLights ∈ gT := gT_tab (List.mem_of_getElem? (i := 818) (by decide +kernel)) rfl
theorem t_820 : Cond.instanceMethod yX7_layLights ∈ gT := gT_tab (List.mem_of_getElem? (i := 820) (by decide +kernel)) rfl
theorem t_821 : Cond.code yX7_layLights cX7_layLights 3 none ∈ gT := gT_tab (List.mem_of_getElem? (i := 821) (by decide +kernel)) rfl
theorem t_822 : Cond.methodLink RX7 222 yX7_classOf ∈ gT := gT_tab (List.mem_of_getElem? (i := 822) (by decide +kernel)) rfl
theorem t_823 : Cond.static yX7_classOf ∈ gT := gT_tab (List.mem_of_getElem? (i := 823) (by decide +kernel)) rfl
theorem t_824 : Cond.code yX7_classOf cX7_classOf 1 (some .int) ∈ gT := gT_tab (List.mem_of_getElem? (i := 824) (by decide +kernel)) rfl
theorem t_825 : Cond.constantLong RX7 210 (1152921504606846976) ∈ gT := gT_tab (List.mem_of_getElem? (i := 825) (by decide +kernel)) rfl
theorem t_826 : Cond.methodLink RX7 225 yX7_layRule ∈ gT := gT_tab (List.mem_of_getElem? (i := 826) (by decide +kernel)) rfl
theorem t_828 : Cond.instanceMethod yX7_layRule ∈ gT := gT_tab (List.mem_of_getElem? (i := 828) (by decide +kernel)) rfl
theorem t_829 : Cond.code yX7_layRule cX7_layRule 9 (some .boolean) ∈ gT := gT_tab (List.mem_of_getElem? (i := 829) (by decide +kernel)) rfl
theorem t_830 : Cond.methodLink RX7 212 yX7_layLight ∈ gT := gT_tab (List.mem_of_getElem? (i := 830) (by decide +kernel)) rfl
theorem t_832 : Cond.instanceMethod yX7_layLight ∈ gT := gT_tab (List.mem_of_getElem? (i := 832) (by decide +kernel)) rfl
theorem t_833 : Cond.code yX7_layLight cX7_layLight 7 (some .boolean) ∈ gT := gT_tab (List.mem_of_getElem? (i := 833) (by decide +kernel)) rfl
theorem t_834 : Cond.methodLink RX7 216 yX7_leads ∈ gT := gT_tab (List.mem_of_getElem? (i := 834) (by decide +kernel)) rfl
theorem t_836 : Cond.instanceMethod yX7_leads ∈ gT := gT_tab (List.mem_of_getElem? (i := 836) (by decide +kernel)) rfl
theorem t_837 : Cond.code yX7_leads cX7_leads 7 (some .boolean) ∈ gT := gT_tab (List.mem_of_getElem? (i := 837) (by decide +kernel)) rfl
theorem t_838 : Cond.methodLink RX7 219 yX7_colouredBy ∈ gT := gT_tab (List.mem_of_getElem? (i := 838) (by decide +kernel)) rfl
theorem t_840 : Cond.instanceMethod yX7_colouredBy ∈ gT := gT_tab (List.mem_of_getElem? (i := 840) (by decide +kernel)) rfl
theorem t_841 : Cond.code yX7_colouredBy cX7_colouredBy 7 (some .int) ∈ gT := gT_tab (List.mem_of_getElem? (i := 841) (by decide +kernel)) rfl
theorem t_842 : Cond.methodLink RL 73 yX7_light ∈ gT := gT_tab (List.mem_of_getElem? (i := 842) (by decide +kernel)) rfl
theorem t_843 : Cond.instanceMethod yX7_light ∈ gT := gT_tab (List.mem_of_getElem? (i := 843) (by decide +kernel)) rfl
theorem t_844 : Cond.selects RX7 yX7_light yX7_light ∈ gT := gT_tab (List.mem_of_getElem? (i := 844) (by decide +kernel)) rfl
theorem t_845 : Cond.code yX7_light cX7_light 4 (some .int) ∈ gT := gT_tab (List.mem_of_getElem? (i := 845) (by decide +kernel)) rfl
theorem t_846 : Cond.methodLink RX7 234 yX7_lightNow ∈ gT := gT_tab (List.mem_of_getElem? (i := 846) (by decide +kernel)) rfl
theorem t_848 : Cond.instanceMethod yX7_lightNow ∈ gT := gT_tab (List.mem_of_getElem? (i := 848) (by decide +kernel)) rfl
theorem t_849 : Cond.code yX7_lightNow cX7_lightNow 5 (some .int) ∈ gT := gT_tab (List.mem_of_getElem? (i := 849) (by decide +kernel)) rfl
theorem t_850 : Cond.methodLink RL 77 yX7_count ∈ gT := gT_tab (List.mem_of_getElem? (i := 850) (by decide +kernel)) rfl
theorem t_851 : Cond.instanceMethod yX7_count ∈ gT := gT_tab (List.mem_of_getElem? (i := 851) (by decide +kernel)) rfl
theorem t_852 : Cond.selects RX7 yX7_count yX7_count ∈ gT := gT_tab (List.mem_of_getElem? (i := 852) (by decide +kernel)) rfl
theorem t_853 : Cond.code yX7_count cX7_count 2 (some .int) ∈ gT := gT_tab (List.mem_of_getElem? (i := 853) (by decide +kernel)) rfl
theorem t_854 : Cond.methodLink RX7 238 yX7_howMany ∈ gT := gT_tab (List.mem_of_getElem? (i := 854) (by decide +kernel)) rfl
theorem t_856 : Cond.instanceMethod yX7_howMany ∈ gT := gT_tab (List.mem_of_getElem? (i := 856) (by decide +kernel)) rfl
theorem t_857 : Cond.code yX7_howMany cX7_howMany 2 (some .int) ∈ gT := gT_tab (List.mem_of_getElem? (i := 857) (by decide +kernel)) rfl
theorem t_858 : Cond.methodLink RL 82 yX7_digest ∈ gT := gT_tab (List.mem_of_getElem? (i := 858) (by decide +kernel)) rfl
theorem t_859 : Cond.instanceMethod yX7_digest ∈ gT := gT_tab (List.mem_of_getElem? (i := 859) (by decide +kernel)) rfl
theorem t_860 : Cond.selects RX7 yX7_digest yX7_digest ∈ gT := gT_tab (List.mem_of_getElem? (i := 860) (by decide +kernel)) rfl
theorem t_861 : Cond.code yX7_digest cX7_digest 3 (some .long) ∈ gT := gT_tab (List.mem_of_getElem? (i := 861) (by decide +kernel)) rfl
theorem t_862 : Cond.constantLong RX7 251 (1709) ∈ gT := gT_tab (List.mem_of_getElem? (i := 862) (by decide +kernel)) rfl
theorem t_863 : Cond.methodLink RX7 247 yX7_mix ∈ gT := gT_tab (List.mem_of_getElem? (i := 863) (by decide +kernel)) rfl
theorem t_865 : Cond.instanceMethod yX7_mix ∈ gT := gT_tab (List.mem_of_getElem? (i := 865) (by decide +kernel)) rfl
theorem t_866 : Cond.code yX7_mix cX7_mix 3 none ∈ gT := gT_tab (List.mem_of_getElem? (i := 866) (by decide +kernel)) rfl
theorem t_867 : Cond.constantLong RX7 241 (31) ∈ gT := gT_tab (List.mem_of_getElem? (i := 867) (by decide +kernel)) rfl
theorem t_868 : Cond.constantLong RX7 253 (-1003) ∈ gT := gT_tab (List.mem_of_getElem? (i := 868) (by decide +kernel)) rfl
theorem t_869 : Cond.methodLink RX7 255 yX7_mixOpen ∈ gT := gT_tab (List.mem_of_getElem? (i := 869) (by decide +kernel)) rfl
theorem t_871 : Cond.instanceMethod yX7_mixOpen ∈ gT := gT_tab (List.mem_of_getElem? (i := 871) (by decide +kernel)) rfl
theorem t_872 : Cond.code yX7_mixOpen cX7_mixOpen 3 none ∈ gT := gT_tab (List.mem_of_getElem? (i := 872) (by decide +kernel)) rfl
theorem ts_0 : Cond.selects RX3 yX3_fitsHead yX3_fitsHead ∈ gT := gT_sel (List.mem_of_getElem? (i := 0) (by decide +kernel)) rfl
theorem ts_1 : Cond.selects RX3 yX3_fitsEdge yX3_fitsEdge ∈ gT := gT_sel (List.mem_of_getElem? (i := 1) (by decide +kernel)) rfl
theorem ts_2 : Cond.selects RX3 yX3_isWhole yX3_isWhole ∈ gT := gT_sel (List.mem_of_getElem? (i := 2) (by decide +kernel)) rfl
theorem ts_3 : Cond.selects RX3 yX3_names yX3_names ∈ gT := gT_sel (List.mem_of_getElem? (i := 3) (by decide +kernel)) rfl
theorem ts_4 : Cond.selects RX3 yX3_namesNoGap yX3_namesNoGap ∈ gT := gT_sel (List.mem_of_getElem? (i := 4) (by decide +kernel)) rfl
theorem ts_5 : Cond.selects RX3 yX3_copyEdges yX3_copyEdges ∈ gT := gT_sel (List.mem_of_getElem? (i := 5) (by decide +kernel)) rfl
theorem ts_6 : Cond.selects RX0 yX0_put yX0_put ∈ gT := gT_sel (List.mem_of_getElem? (i := 6) (by decide +kernel)) rfl
theorem ts_7 : Cond.selects RX0 yX0_comes yX0_comes ∈ gT := gT_sel (List.mem_of_getElem? (i := 7) (by decide +kernel)) rfl
theorem ts_8 : Cond.selects RX0 yX0_allows yX0_allows ∈ gT := gT_sel (List.mem_of_getElem? (i := 8) (by decide +kernel)) rfl
theorem ts_9 : Cond.selects RX6 yX6_noteNewGraph yX6_noteNewGraph ∈ gT := gT_sel (List.mem_of_getElem? (i := 9) (by decide +kernel)) rfl
theorem ts_10 : Cond.selects RX0 yX0_nodeFor yX0_nodeFor ∈ gT := gT_sel (List.mem_of_getElem? (i := 10) (by decide +kernel)) rfl
theorem ts_11 : Cond.selects RX2 yX2_improve yX2_improve ∈ gT := gT_sel (List.mem_of_getElem? (i := 11) (by decide +kernel)) rfl
theorem ts_12 : Cond.selects RX0 yX0_nodesOf yX0_nodesOf ∈ gT := gT_sel (List.mem_of_getElem? (i := 12) (by decide +kernel)) rfl
theorem ts_13 : Cond.selects RX2 yX2_byRule yX2_byRule ∈ gT := gT_sel (List.mem_of_getElem? (i := 13) (by decide +kernel)) rfl
theorem ts_14 : Cond.selects RX2 yX2_standsApart yX2_standsApart ∈ gT := gT_sel (List.mem_of_getElem? (i := 14) (by decide +kernel)) rfl
theorem ts_15 : Cond.selects RX2 yX2_bySplit yX2_bySplit ∈ gT := gT_sel (List.mem_of_getElem? (i := 15) (by decide +kernel)) rfl
theorem ts_16 : Cond.selects RX2 yX2_bySlot yX2_bySlot ∈ gT := gT_sel (List.mem_of_getElem? (i := 16) (by decide +kernel)) rfl
theorem ts_17 : Cond.selects RX2 yX2_lower yX2_lower ∈ gT := gT_sel (List.mem_of_getElem? (i := 17) (by decide +kernel)) rfl
theorem ts_18 : Cond.selects RX6 yX6_bringLights yX6_bringLights ∈ gT := gT_sel (List.mem_of_getElem? (i := 18) (by decide +kernel)) rfl
theorem ts_19 : Cond.selects RX1 yX1_forget yX1_forget ∈ gT := gT_sel (List.mem_of_getElem? (i := 19) (by decide +kernel)) rfl
theorem ts_20 : Cond.selects RX1 yX1_offer yX1_offer ∈ gT := gT_sel (List.mem_of_getElem? (i := 20) (by decide +kernel)) rfl
theorem ts_21 : Cond.selects RX1 yX1_nearest yX1_nearest ∈ gT := gT_sel (List.mem_of_getElem? (i := 21) (by decide +kernel)) rfl
theorem ts_22 : Cond.selects RX1 yX1_settle yX1_settle ∈ gT := gT_sel (List.mem_of_getElem? (i := 22) (by decide +kernel)) rfl
theorem ts_23 : Cond.selects RX1 yX1_spread yX1_spread ∈ gT := gT_sel (List.mem_of_getElem? (i := 23) (by decide +kernel)) rfl
theorem ts_24 : Cond.selects RX1 yX1_combine yX1_combine ∈ gT := gT_sel (List.mem_of_getElem? (i := 24) (by decide +kernel)) rfl
theorem ts_25 : Cond.selects RX1 yX1_choices yX1_choices ∈ gT := gT_sel (List.mem_of_getElem? (i := 25) (by decide +kernel)) rfl
theorem ts_26 : Cond.selects RX1 yX1_settledKind yX1_settledKind ∈ gT := gT_sel (List.mem_of_getElem? (i := 26) (by decide +kernel)) rfl
theorem ts_27 : Cond.selects RX1 yX1_stepsIn yX1_stepsIn ∈ gT := gT_sel (List.mem_of_getElem? (i := 27) (by decide +kernel)) rfl
theorem ts_28 : Cond.selects RX7 yX7_read yX7_read ∈ gT := gT_sel (List.mem_of_getElem? (i := 28) (by decide +kernel)) rfl
theorem ts_29 : Cond.selects RX7 yX7_takes yX7_takes ∈ gT := gT_sel (List.mem_of_getElem? (i := 29) (by decide +kernel)) rfl
theorem ts_30 : Cond.selects RX7 yX7_takesEdge yX7_takesEdge ∈ gT := gT_sel (List.mem_of_getElem? (i := 30) (by decide +kernel)) rfl
theorem ts_31 : Cond.selects RX7 yX7_isWhole yX7_isWhole ∈ gT := gT_sel (List.mem_of_getElem? (i := 31) (by decide +kernel)) rfl
theorem ts_32 : Cond.selects RX7 yX7_altered yX7_altered ∈ gT := gT_sel (List.mem_of_getElem? (i := 32) (by decide +kernel)) rfl
theorem ts_33 : Cond.selects RX7 yX7_isRule yX7_isRule ∈ gT := gT_sel (List.mem_of_getElem? (i := 33) (by decide +kernel)) rfl
theorem ts_34 : Cond.selects RX7 yX7_ruleNow yX7_ruleNow ∈ gT := gT_sel (List.mem_of_getElem? (i := 34) (by decide +kernel)) rfl
theorem ts_35 : Cond.selects RX7 yX7_isEdge yX7_isEdge ∈ gT := gT_sel (List.mem_of_getElem? (i := 35) (by decide +kernel)) rfl
theorem ts_36 : Cond.selects RX7 yX7_nodeFor yX7_nodeFor ∈ gT := gT_sel (List.mem_of_getElem? (i := 36) (by decide +kernel)) rfl
theorem ts_37 : Cond.selects RX7 yX7_isDone yX7_isDone ∈ gT := gT_sel (List.mem_of_getElem? (i := 37) (by decide +kernel)) rfl
theorem ts_38 : Cond.selects RX7 yX7_opens yX7_opens ∈ gT := gT_sel (List.mem_of_getElem? (i := 38) (by decide +kernel)) rfl
theorem ts_39 : Cond.selects RX7 yX7_kindNow yX7_kindNow ∈ gT := gT_sel (List.mem_of_getElem? (i := 39) (by decide +kernel)) rfl
theorem ts_40 : Cond.selects RX7 yX7_leadsTo yX7_leadsTo ∈ gT := gT_sel (List.mem_of_getElem? (i := 40) (by decide +kernel)) rfl
theorem ts_41 : Cond.selects RX7 yX7_coloured yX7_coloured ∈ gT := gT_sel (List.mem_of_getElem? (i := 41) (by decide +kernel)) rfl
theorem ts_42 : Cond.selects RX7 yX7_fewestNow yX7_fewestNow ∈ gT := gT_sel (List.mem_of_getElem? (i := 42) (by decide +kernel)) rfl
theorem ts_43 : Cond.selects RX7 yX7_layFewest yX7_layFewest ∈ gT := gT_sel (List.mem_of_getElem? (i := 43) (by decide +kernel)) rfl
theorem ts_44 : Cond.selects RX7 yX7_laySet yX7_laySet ∈ gT := gT_sel (List.mem_of_getElem? (i := 44) (by decide +kernel)) rfl
theorem ts_45 : Cond.selects RX7 yX7_layEnds yX7_layEnds ∈ gT := gT_sel (List.mem_of_getElem? (i := 45) (by decide +kernel)) rfl
theorem ts_46 : Cond.selects RX7 yX7_at yX7_at ∈ gT := gT_sel (List.mem_of_getElem? (i := 46) (by decide +kernel)) rfl
theorem ts_47 : Cond.selects RX7 yX7_byInner yX7_byInner ∈ gT := gT_sel (List.mem_of_getElem? (i := 47) (by decide +kernel)) rfl
theorem ts_48 : Cond.selects RX7 yX7_areUnlike yX7_areUnlike ∈ gT := gT_sel (List.mem_of_getElem? (i := 48) (by decide +kernel)) rfl
theorem ts_49 : Cond.selects RX7 yX7_bySplits yX7_bySplits ∈ gT := gT_sel (List.mem_of_getElem? (i := 49) (by decide +kernel)) rfl
theorem ts_50 : Cond.selects RX7 yX7_stepsFor yX7_stepsFor ∈ gT := gT_sel (List.mem_of_getElem? (i := 50) (by decide +kernel)) rfl
theorem ts_51 : Cond.selects RX7 yX7_stepsOf yX7_stepsOf ∈ gT := gT_sel (List.mem_of_getElem? (i := 51) (by decide +kernel)) rfl
theorem ts_52 : Cond.selects RX7 yX7_areApart yX7_areApart ∈ gT := gT_sel (List.mem_of_getElem? (i := 52) (by decide +kernel)) rfl
theorem ts_53 : Cond.selects RX7 yX7_laySingles yX7_laySingles ∈ gT := gT_sel (List.mem_of_getElem? (i := 53) (by decide +kernel)) rfl
theorem ts_54 : Cond.selects RX7 yX7_kindsNow yX7_kindsNow ∈ gT := gT_sel (List.mem_of_getElem? (i := 54) (by decide +kernel)) rfl
theorem ts_55 : Cond.selects RX7 yX7_layLights yX7_layLights ∈ gT := gT_sel (List.mem_of_getElem? (i := 55) (by decide +kernel)) rfl
theorem ts_56 : Cond.selects RX7 yX7_layRule yX7_layRule ∈ gT := gT_sel (List.mem_of_getElem? (i := 56) (by decide +kernel)) rfl
theorem ts_57 : Cond.selects RX7 yX7_layLight yX7_layLight ∈ gT := gT_sel (List.mem_of_getElem? (i := 57) (by decide +kernel)) rfl
theorem ts_58 : Cond.selects RX7 yX7_leads yX7_leads ∈ gT := gT_sel (List.mem_of_getElem? (i := 58) (by decide +kernel)) rfl
theorem ts_59 : Cond.selects RX7 yX7_colouredBy yX7_colouredBy ∈ gT := gT_sel (List.mem_of_getElem? (i := 59) (by decide +kernel)) rfl
theorem ts_60 : Cond.selects RX7 yX7_lightNow yX7_lightNow ∈ gT := gT_sel (List.mem_of_getElem? (i := 60) (by decide +kernel)) rfl
theorem ts_61 : Cond.selects RX7 yX7_howMany yX7_howMany ∈ gT := gT_sel (List.mem_of_getElem? (i := 61) (by decide +kernel)) rfl
theorem ts_62 : Cond.selects RX7 yX7_mix yX7_mix ∈ gT := gT_sel (List.mem_of_getElem? (i := 62) (by decide +kernel)) rfl
theorem ts_63 : Cond.selects RX7 yX7_mixOpen yX7_mixOpen ∈ gT := gT_sel (List.mem_of_getElem? (i := 63) (by decide +kernel)) rfl
theorem iT_X0 : ∀ w ∈ wsX00, w ∈ gT := fun w h => by
  have hp : wsX00 = ([68, 70, 72, 74, 76] : List Nat).filterMap (fun i => tables_1[i]?) := by decide +kernel
  have hg : wsX00.all goodWord = true := by decide +kernel
  have h2 := h
  rw [hp] at h2
  obtain ⟨i, -, hi⟩ := List.mem_filterMap.mp h2
  exact gT_tab (List.mem_of_getElem? hi) (List.all_eq_true.mp hg w h)
theorem iT_X1 : ∀ w ∈ wsX10, w ∈ gT := fun w h => by
  have hp : wsX10 = ([141, 143, 145, 147, 149] : List Nat).filterMap (fun i => tables_1[i]?) := by decide +kernel
  have hg : wsX10.all goodWord = true := by decide +kernel
  have h2 := h
  rw [hp] at h2
  obtain ⟨i, -, hi⟩ := List.mem_filterMap.mp h2
  exact gT_tab (List.mem_of_getElem? hi) (List.all_eq_true.mp hg w h)
theorem iT_X2 : ∀ w ∈ wsX20, w ∈ gT := fun w h => by
  have hp : wsX20 = ([125, 127] : List Nat).filterMap (fun i => tables_1[i]?) := by decide +kernel
  have hg : wsX20.all goodWord = true := by decide +kernel
  have h2 := h
  rw [hp] at h2
  obtain ⟨i, -, hi⟩ := List.mem_filterMap.mp h2
  exact gT_tab (List.mem_of_getElem? hi) (List.all_eq_true.mp hg w h)
theorem iT_X3 : ∀ w ∈ wsX30, w ∈ gT := fun w h => by
  have hp : wsX30 = ([30, 32] : List Nat).filterMap (fun i => tables_1[i]?) := by decide +kernel
  have hg : wsX30.all goodWord = true := by decide +kernel
  have h2 := h
  rw [hp] at h2
  obtain ⟨i, -, hi⟩ := List.mem_filterMap.mp h2
  exact gT_tab (List.mem_of_getElem? hi) (List.all_eq_true.mp hg w h)
theorem iT_X4 : ∀ w ∈ wsX40, w ∈ gT := fun w h => by
  have hp : wsX40 = ([91, 93, 95, 97, 99] : List Nat).filterMap (fun i => tables_1[i]?) := by decide +kernel
  have hg : wsX40.all goodWord = true := by decide +kernel
  have h2 := h
  rw [hp] at h2
  obtain ⟨i, -, hi⟩ := List.mem_filterMap.mp h2
  exact gT_tab (List.mem_of_getElem? hi) (List.all_eq_true.mp hg w h)
theorem iT_X5 : ∀ w ∈ wsX50, w ∈ gT := fun w h => by
  have hp : wsX50 = ([110, 112] : List Nat).filterMap (fun i => tables_1[i]?) := by decide +kernel
  have hg : wsX50.all goodWord = true := by decide +kernel
  have h2 := h
  rw [hp] at h2
  obtain ⟨i, -, hi⟩ := List.mem_filterMap.mp h2
  exact gT_tab (List.mem_of_getElem? hi) (List.all_eq_true.mp hg w h)
theorem iT_X6 : ∀ w ∈ wsX60, w ∈ gT := fun w h => by
  have hp : wsX60 = ([164, 166, 168, 170, 172, 174, 176, 178, 180, 182] : List Nat).filterMap (fun i => tables_1[i]?) := by decide +kernel
  have hg : wsX60.all goodWord = true := by decide +kernel
  have h2 := h
  rw [hp] at h2
  obtain ⟨i, -, hi⟩ := List.mem_filterMap.mp h2
  exact gT_tab (List.mem_of_getElem? hi) (List.all_eq_true.mp hg w h)
theorem iT_X7 : ∀ w ∈ wsX70, w ∈ gT := fun w h => by
  have hp : wsX70 = ([578, 580, 582, 584, 586, 588, 590, 592, 594, 596, 598, 600, 602, 604, 606, 608, 610, 612, 614, 616, 618, 620, 622, 624, 626, 628, 630] : List Nat).filterMap (fun i => tables_1[i]?) := by decide +kernel
  have hg : wsX70.all goodWord = true := by decide +kernel
  have h2 := h
  rw [hp] at h2
  obtain ⟨i, -, hi⟩ := List.mem_filterMap.mp h2
  exact gT_tab (List.mem_of_getElem? hi) (List.all_eq_true.mp hg w h)
