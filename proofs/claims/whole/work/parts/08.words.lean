theorem wd_0_0 : Cond.selects RX1 yX1_chooseHost yX1_chooseHost ∈ tbG := wm0 (k := 0) rfl rfl
theorem wd_0_1 : Cond.selects RX1 yX1_scoreOf yX1_scoreOf ∈ tbG := wm0 (k := 1) rfl rfl
theorem wd_0_2 : Cond.selects RX1 yX1_scoreOfCopies yX1_scoreOfCopies ∈ tbG := wm0 (k := 2) rfl rfl
theorem wd_0_3 : Cond.selects RX4 yX4_putEnd yX4_putEnd ∈ tbG := wm0 (k := 3) rfl rfl
theorem wd_0_4 : Cond.selects RX6 yX6_keepWindow yX6_keepWindow ∈ tbG := wm0 (k := 4) rfl rfl
theorem wd_0_5 : Cond.selects RX4 yX4_takeEnd yX4_takeEnd ∈ tbG := wm0 (k := 5) rfl rfl
theorem wd_0_6 : Cond.selects RX6 yX6_makeBetterMove yX6_makeBetterMove ∈ tbG := wm0 (k := 6) rfl rfl
theorem wd_0_7 : Cond.selects RX3 yX3_weighMovesOf yX3_weighMovesOf ∈ tbG := wm0 (k := 7) rfl rfl
theorem wd_0_8 : Cond.selects RX3 yX3_keepIfBetter yX3_keepIfBetter ∈ tbG := wm0 (k := 8) rfl rfl
theorem wd_0_9 : Cond.selects RX0 yX0_collectLines yX0_collectLines ∈ tbG := wm0 (k := 9) rfl rfl
theorem wd_0_10 : Cond.selects RX0 yX0_dealFrom yX0_dealFrom ∈ tbG := wm0 (k := 10) rfl rfl
theorem wd_0_11 : Cond.selects RX0 yX0_tryHost yX0_tryHost ∈ tbG := wm0 (k := 11) rfl rfl
theorem wd_0_12 : Cond.selects RX5 yX5_goOneRound yX5_goOneRound ∈ tbG := wm0 (k := 12) rfl rfl
theorem wd_0_13 : Cond.selects RX5 yX5_spreadAlong yX5_spreadAlong ∈ tbG := wm0 (k := 13) rfl rfl
theorem wd_0_14 : Cond.selects RX2 yX2_leastMasterFor yX2_leastMasterFor ∈ tbG := wm0 (k := 14) rfl rfl
theorem wd_0_15 : Cond.selects RX7 yX7_deals yX7_deals ∈ tbG := wm0 (k := 15) rfl rfl
theorem wd_0_16 : Cond.selects RX7 yX7_roomFor yX7_roomFor ∈ tbG := wm0 (k := 16) rfl rfl
theorem wd_0_17 : Cond.selects RX7 yX7_scoreOf yX7_scoreOf ∈ tbG := wm0 (k := 17) rfl rfl
theorem wd_0_18 : Cond.selects RX7 yX7_greatest yX7_greatest ∈ tbG := wm0 (k := 18) rfl rfl
theorem wd_0_19 : Cond.selects RX7 yX7_puts yX7_puts ∈ tbG := wm0 (k := 19) rfl rfl
theorem wd_0_20 : Cond.selects RX7 yX7_shuts yX7_shuts ∈ tbG := wm0 (k := 20) rfl rfl
theorem wd_0_21 : Cond.selects RX7 yX7_isLive yX7_isLive ∈ tbG := wm0 (k := 21) rfl rfl
theorem wd_0_22 : Cond.selects RX7 yX7_moves yX7_moves ∈ tbG := wm0 (k := 22) rfl rfl
theorem wd_0_23 : Cond.selects RX7 yX7_change yX7_change ∈ tbG := wm0 (k := 23) rfl rfl
theorem wd_0_24 : Cond.selects RX7 yX7_copiesOf yX7_copiesOf ∈ tbG := wm0 (k := 24) rfl rfl
theorem wd_0_25 : Cond.selects RX7 yX7_dealt yX7_dealt ∈ tbG := wm0 (k := 25) rfl rfl
theorem wd_0_26 : Cond.selects RX7 yX7_runs yX7_runs ∈ tbG := wm0 (k := 26) rfl rfl
theorem wd_1_1 : Cond.initialized RX6 ∈ tbG := wm1 (k := 1) rfl rfl
theorem wd_1_2 : Cond.initialized RX4 ∈ tbG := wm1 (k := 2) rfl rfl
theorem wd_1_3 : Cond.initialized "java/lang/Math" ∈ tbG := wm1 (k := 3) rfl rfl
theorem wd_1_4 : Cond.initialized RX1 ∈ tbG := wm1 (k := 4) rfl rfl
theorem wd_1_5 : Cond.initialized RX3 ∈ tbG := wm1 (k := 5) rfl rfl
theorem wd_1_6 : Cond.initialized RX0 ∈ tbG := wm1 (k := 6) rfl rfl
theorem wd_1_7 : Cond.initialized RX5 ∈ tbG := wm1 (k := 7) rfl rfl
theorem wd_1_8 : Cond.initialized RX2 ∈ tbG := wm1 (k := 8) rfl rfl
theorem wd_1_9 : Cond.initialized RX7 ∈ tbG := wm1 (k := 9) rfl rfl
theorem wd_1_10 : Cond.initialized "java/lang/System" ∈ tbG := wm1 (k := 10) rfl rfl
theorem wd_1_11 : Cond.initialized RJ7 ∈ tbG := wm1 (k := 11) rfl rfl
theorem wd_1_23 : Cond.static Lib.Math.min.name ∈ tbG := wm1 (k := 23) rfl rfl
theorem wd_1_24 : Cond.code Lib.Math.min.name Lib.Math.min.code 2 (some .int) ∈ tbG := wm1 (k := 24) rfl rfl
theorem wd_1_26 : Cond.static Lib.Math.max.name ∈ tbG := wm1 (k := 26) rfl rfl
theorem wd_1_27 : Cond.code Lib.Math.max.name Lib.Math.max.code 2 (some .int) ∈ tbG := wm1 (k := 27) rfl rfl
theorem wd_1_32 : Cond.fieldLink RX4 9 "LineDealer$Net" "firstEnd" "[I" ∈ tbG := wm1 (k := 32) rfl rfl
theorem wd_1_33 : Cond.fieldLink RX1 30 "LineDealer$Net" "firstEnd" "[I" ∈ tbG := wm1 (k := 33) rfl rfl
theorem wd_1_34 : Cond.fieldLink RX3 45 "LineDealer$Net" "firstEnd" "[I" ∈ tbG := wm1 (k := 34) rfl rfl
theorem wd_1_35 : Cond.fieldLink RX5 45 "LineDealer$Net" "firstEnd" "[I" ∈ tbG := wm1 (k := 35) rfl rfl
theorem wd_1_36 : Cond.fieldLink RX0 67 "LineDealer$Net" "firstEnd" "[I" ∈ tbG := wm1 (k := 36) rfl rfl
theorem wd_1_37 : Cond.fieldLink RX4 15 "LineDealer$Net" "secondEnd" "[I" ∈ tbG := wm1 (k := 37) rfl rfl
theorem wd_1_38 : Cond.fieldLink RX1 34 "LineDealer$Net" "secondEnd" "[I" ∈ tbG := wm1 (k := 38) rfl rfl
theorem wd_1_39 : Cond.fieldLink RX3 48 "LineDealer$Net" "secondEnd" "[I" ∈ tbG := wm1 (k := 39) rfl rfl
theorem wd_1_40 : Cond.fieldLink RX5 48 "LineDealer$Net" "secondEnd" "[I" ∈ tbG := wm1 (k := 40) rfl rfl
theorem wd_1_41 : Cond.fieldLink RX0 70 "LineDealer$Net" "secondEnd" "[I" ∈ tbG := wm1 (k := 41) rfl rfl
theorem wd_1_42 : Cond.fieldLink RX4 18 "LineDealer$Net" "hostOf" "[I" ∈ tbG := wm1 (k := 42) rfl rfl
theorem wd_1_43 : Cond.fieldLink RX3 41 "LineDealer$Net" "hostOf" "[I" ∈ tbG := wm1 (k := 43) rfl rfl
theorem wd_1_44 : Cond.fieldLink RX6 124 "LineDealer$Net" "hostOf" "[I" ∈ tbG := wm1 (k := 44) rfl rfl
theorem wd_1_45 : Cond.fieldLink RX4 21 "LineDealer$Net" "loads" "[I" ∈ tbG := wm1 (k := 45) rfl rfl
theorem wd_1_46 : Cond.fieldLink RX3 58 "LineDealer$Net" "loads" "[I" ∈ tbG := wm1 (k := 46) rfl rfl
theorem wd_1_47 : Cond.fieldLink RX1 56 "LineDealer$Net" "loads" "[I" ∈ tbG := wm1 (k := 47) rfl rfl
theorem wd_1_48 : Cond.fieldLink RX6 127 "LineDealer$Net" "loads" "[I" ∈ tbG := wm1 (k := 48) rfl rfl
theorem wd_1_49 : Cond.fieldLink RX4 24 "LineDealer$Net" "degrees" "[I" ∈ tbG := wm1 (k := 49) rfl rfl
theorem wd_1_50 : Cond.fieldLink RX1 67 "LineDealer$Net" "degrees" "[I" ∈ tbG := wm1 (k := 50) rfl rfl
theorem wd_1_51 : Cond.fieldLink RX5 68 "LineDealer$Net" "degrees" "[I" ∈ tbG := wm1 (k := 51) rfl rfl
theorem wd_1_52 : Cond.fieldLink RX6 136 "LineDealer$Net" "degrees" "[I" ∈ tbG := wm1 (k := 52) rfl rfl
theorem wd_1_53 : Cond.fieldLink RX4 27 "LineDealer$Net" "copyBits" "[I" ∈ tbG := wm1 (k := 53) rfl rfl
theorem wd_1_54 : Cond.fieldLink RX6 130 "LineDealer$Net" "copyBits" "[I" ∈ tbG := wm1 (k := 54) rfl rfl
theorem wd_1_55 : Cond.fieldLink RX4 30 "LineDealer$Net" "linesAt" "[I" ∈ tbG := wm1 (k := 55) rfl rfl
theorem wd_1_56 : Cond.fieldLink RX4 33 "LineDealer$Net" "hosts" "I" ∈ tbG := wm1 (k := 56) rfl rfl
theorem wd_1_57 : Cond.fieldLink RX1 25 "LineDealer$Net" "hosts" "I" ∈ tbG := wm1 (k := 57) rfl rfl
theorem wd_1_58 : Cond.fieldLink RX2 29 "LineDealer$Net" "hosts" "I" ∈ tbG := wm1 (k := 58) rfl rfl
theorem wd_1_59 : Cond.fieldLink RX3 55 "LineDealer$Net" "hosts" "I" ∈ tbG := wm1 (k := 59) rfl rfl
theorem wd_1_60 : Cond.fieldLink RX0 51 "LineDealer$Net" "hosts" "I" ∈ tbG := wm1 (k := 60) rfl rfl
theorem wd_1_61 : Cond.fieldLink RX6 111 "LineDealer$Net" "hosts" "I" ∈ tbG := wm1 (k := 61) rfl rfl
theorem wd_1_62 : Cond.fieldLink RX6 72 "LineDealer$Net" "came" "I" ∈ tbG := wm1 (k := 62) rfl rfl
theorem wd_1_63 : Cond.fieldLink RX3 28 "LineDealer$Net" "came" "I" ∈ tbG := wm1 (k := 63) rfl rfl
theorem wd_1_64 : Cond.fieldLink RX4 37 "LineDealer$Net" "came" "I" ∈ tbG := wm1 (k := 64) rfl rfl
theorem wd_1_65 : Cond.fieldLink RX0 42 "LineDealer$Net" "came" "I" ∈ tbG := wm1 (k := 65) rfl rfl
theorem wd_1_66 : Cond.fieldLink RX5 36 "LineDealer$Net" "came" "I" ∈ tbG := wm1 (k := 66) rfl rfl
theorem wd_1_67 : Cond.fieldLink RX1 45 "LineDealer$Net" "live" "I" ∈ tbG := wm1 (k := 67) rfl rfl
theorem wd_1_68 : Cond.fieldLink RX4 44 "LineDealer$Net" "live" "I" ∈ tbG := wm1 (k := 68) rfl rfl
theorem wd_1_69 : Cond.fieldLink RX6 139 "LineDealer$Net" "live" "I" ∈ tbG := wm1 (k := 69) rfl rfl
theorem wd_1_70 : Cond.fieldLink RX5 61 "LineDealer$Net" "allCopies" "I" ∈ tbG := wm1 (k := 70) rfl rfl
theorem wd_1_71 : Cond.fieldLink RX4 57 "LineDealer$Net" "allCopies" "I" ∈ tbG := wm1 (k := 71) rfl rfl
theorem wd_1_72 : Cond.fieldLink RX6 133 "LineDealer$Net" "allCopies" "I" ∈ tbG := wm1 (k := 72) rfl rfl
theorem wd_1_103 : Cond.fieldLink RX1 21 "LineDealer$Dealing" "net" "LLineDealer$Net;" ∈ tbG := wm1 (k := 103) rfl rfl
theorem wd_1_104 : Cond.fieldLink RX1 9 "LineDealer$Dealing" "ruleNow" "I" ∈ tbG := wm1 (k := 104) rfl rfl
theorem wd_1_105 : Cond.fieldLink RX6 86 "LineDealer$Dealing" "ruleNow" "I" ∈ tbG := wm1 (k := 105) rfl rfl
theorem wd_1_106 : Cond.fieldLink RX1 15 "LineDealer$Dealing" "slack" "I" ∈ tbG := wm1 (k := 106) rfl rfl
theorem wd_1_107 : Cond.fieldLink RX6 92 "LineDealer$Dealing" "slack" "I" ∈ tbG := wm1 (k := 107) rfl rfl
theorem wd_1_108 : Cond.fieldLink RX1 18 "LineDealer$Dealing" "lean" "I" ∈ tbG := wm1 (k := 108) rfl rfl
theorem wd_1_109 : Cond.fieldLink RX6 95 "LineDealer$Dealing" "lean" "I" ∈ tbG := wm1 (k := 109) rfl rfl
theorem wd_1_125 : Cond.fieldLink RX3 9 "LineDealer$MoveSearch" "net" "LLineDealer$Net;" ∈ tbG := wm1 (k := 125) rfl rfl
theorem wd_1_126 : Cond.fieldLink RX3 15 "LineDealer$MoveSearch" "chosenLine" "I" ∈ tbG := wm1 (k := 126) rfl rfl
theorem wd_1_127 : Cond.fieldLink RX6 179 "LineDealer$MoveSearch" "chosenLine" "I" ∈ tbG := wm1 (k := 127) rfl rfl
theorem wd_1_128 : Cond.fieldLink RX3 19 "LineDealer$MoveSearch" "chosenHost" "I" ∈ tbG := wm1 (k := 128) rfl rfl
theorem wd_1_129 : Cond.fieldLink RX6 182 "LineDealer$MoveSearch" "chosenHost" "I" ∈ tbG := wm1 (k := 129) rfl rfl
theorem wd_1_130 : Cond.fieldLink RX3 22 "LineDealer$MoveSearch" "copiesChange" "I" ∈ tbG := wm1 (k := 130) rfl rfl
theorem wd_1_131 : Cond.fieldLink RX3 25 "LineDealer$MoveSearch" "squaresChange" "I" ∈ tbG := wm1 (k := 131) rfl rfl
theorem wd_1_149 : Cond.fieldLink RX0 21 "LineDealer$BestSearch" "net" "LLineDealer$Net;" ∈ tbG := wm1 (k := 149) rfl rfl
theorem wd_1_150 : Cond.fieldLink RX0 9 "LineDealer$BestSearch" "lines" "[I" ∈ tbG := wm1 (k := 150) rfl rfl
theorem wd_1_151 : Cond.fieldLink RX0 15 "LineDealer$BestSearch" "tryLoads" "[I" ∈ tbG := wm1 (k := 151) rfl rfl
theorem wd_1_152 : Cond.fieldLink RX0 18 "LineDealer$BestSearch" "tryBits" "[I" ∈ tbG := wm1 (k := 152) rfl rfl
theorem wd_1_153 : Cond.fieldLink RX0 32 "LineDealer$BestSearch" "size" "I" ∈ tbG := wm1 (k := 153) rfl rfl
theorem wd_1_154 : Cond.fieldLink RX0 28 "LineDealer$BestSearch" "limit" "I" ∈ tbG := wm1 (k := 154) rfl rfl
theorem wd_1_155 : Cond.fieldLink RX0 35 "LineDealer$BestSearch" "fewest" "I" ∈ tbG := wm1 (k := 155) rfl rfl
theorem wd_1_177 : Cond.fieldLink RX5 18 "LineDealer$Spreading" "net" "LLineDealer$Net;" ∈ tbG := wm1 (k := 177) rfl rfl
theorem wd_1_178 : Cond.fieldLink RX5 9 "LineDealer$Spreading" "values" "[I" ∈ tbG := wm1 (k := 178) rfl rfl
theorem wd_1_179 : Cond.fieldLink RX6 151 "LineDealer$Spreading" "values" "[I" ∈ tbG := wm1 (k := 179) rfl rfl
theorem wd_1_180 : Cond.fieldLink RX5 15 "LineDealer$Spreading" "before" "[I" ∈ tbG := wm1 (k := 180) rfl rfl
theorem wd_1_181 : Cond.fieldLink RX5 22 "LineDealer$Spreading" "rounds" "I" ∈ tbG := wm1 (k := 181) rfl rfl
theorem wd_1_182 : Cond.fieldLink RX6 154 "LineDealer$Spreading" "rounds" "I" ∈ tbG := wm1 (k := 182) rfl rfl
theorem wd_1_198 : Cond.fieldLink RX2 15 "LineDealer$Mastering" "net" "LLineDealer$Net;" ∈ tbG := wm1 (k := 198) rfl rfl
theorem wd_1_199 : Cond.fieldLink RX2 9 "LineDealer$Mastering" "mastered" "[I" ∈ tbG := wm1 (k := 199) rfl rfl
theorem wd_1_205 : Cond.fieldLink RX6 23 "LineDealer" "net" "LLineDealer$Net;" ∈ tbG := wm1 (k := 205) rfl rfl
theorem wd_1_206 : Cond.fieldLink RX6 32 "LineDealer" "dealing" "LLineDealer$Dealing;" ∈ tbG := wm1 (k := 206) rfl rfl
theorem wd_1_207 : Cond.fieldLink RX6 39 "LineDealer" "moveSearch" "LLineDealer$MoveSearch;" ∈ tbG := wm1 (k := 207) rfl rfl
theorem wd_1_208 : Cond.fieldLink RX6 46 "LineDealer" "bestSearch" "LLineDealer$BestSearch;" ∈ tbG := wm1 (k := 208) rfl rfl
theorem wd_1_209 : Cond.fieldLink RX6 53 "LineDealer" "spreading" "LLineDealer$Spreading;" ∈ tbG := wm1 (k := 209) rfl rfl
theorem wd_1_210 : Cond.fieldLink RX6 60 "LineDealer" "mastering" "LLineDealer$Mastering;" ∈ tbG := wm1 (k := 210) rfl rfl
theorem wd_1_211 : Cond.fieldLink RX6 64 "LineDealer" "waiting" "[I" ∈ tbG := wm1 (k := 211) rfl rfl
theorem wd_1_212 : Cond.fieldLink RX6 98 "LineDealer" "windowSize" "I" ∈ tbG := wm1 (k := 212) rfl rfl
theorem wd_1_213 : Cond.fieldLink RX6 108 "LineDealer" "movesEver" "I" ∈ tbG := wm1 (k := 213) rfl rfl
theorem wd_1_234 : Cond.instanceMethod yX6_line ∈ tbG := wm1 (k := 234) rfl rfl
theorem wd_1_235 : Cond.selects RX6 yX6_line yX6_line ∈ tbG := wm1 (k := 235) rfl rfl
theorem wd_1_236 : Cond.code yX6_line cX6_line 4 (some .int) ∈ tbG := wm1 (k := 236) rfl rfl
theorem wd_1_237 : Cond.methodLink RX6 68 yX6_isPoint ∈ tbG := wm1 (k := 237) rfl rfl
theorem wd_1_238 : Cond.static yX6_isPoint ∈ tbG := wm1 (k := 238) rfl rfl
theorem wd_1_239 : Cond.code yX6_isPoint cX6_isPoint 1 (some .boolean) ∈ tbG := wm1 (k := 239) rfl rfl
theorem wd_2_0 : Cond.methodLink RX6 76 yX4_addLine ∈ tbG := wm2 (k := 0) rfl rfl
theorem wd_2_1 : Cond.instanceMethod yX4_addLine ∈ tbG := wm2 (k := 1) rfl rfl
theorem wd_2_2 : Cond.selects RX4 yX4_addLine yX4_addLine ∈ tbG := wm2 (k := 2) rfl rfl
theorem wd_2_3 : Cond.code yX4_addLine cX4_addLine 4 (some .int) ∈ tbG := wm2 (k := 3) rfl rfl
theorem wd_2_4 : Cond.methodLink RX6 79 yX1_dealLine ∈ tbG := wm2 (k := 4) rfl rfl
theorem wd_2_5 : Cond.instanceMethod yX1_dealLine ∈ tbG := wm2 (k := 5) rfl rfl
theorem wd_2_6 : Cond.selects RX1 yX1_dealLine yX1_dealLine ∈ tbG := wm2 (k := 6) rfl rfl
theorem wd_2_7 : Cond.code yX1_dealLine cX1_dealLine 3 (some .int) ∈ tbG := wm2 (k := 7) rfl rfl
theorem wd_2_8 : Cond.methodLink RX1 37 yX1_chooseHost ∈ tbG := wm2 (k := 8) rfl rfl
theorem wd_2_10 : Cond.instanceMethod yX1_chooseHost ∈ tbG := wm2 (k := 10) rfl rfl
theorem wd_2_11 : Cond.code yX1_chooseHost cX1_chooseHost 9 (some .int) ∈ tbG := wm2 (k := 11) rfl rfl
theorem wd_2_12 : Cond.methodLink RX1 48 yX1_roomFor ∈ tbG := wm2 (k := 12) rfl rfl
theorem wd_2_13 : Cond.instanceMethod yX1_roomFor ∈ tbG := wm2 (k := 13) rfl rfl
theorem wd_2_14 : Cond.selects RX1 yX1_roomFor yX1_roomFor ∈ tbG := wm2 (k := 14) rfl rfl
theorem wd_2_15 : Cond.code yX1_roomFor cX1_roomFor 3 (some .int) ∈ tbG := wm2 (k := 15) rfl rfl
theorem wd_2_16 : Cond.methodLink RX1 52 yX4_greatestLoad ∈ tbG := wm2 (k := 16) rfl rfl
theorem wd_2_17 : Cond.instanceMethod yX4_greatestLoad ∈ tbG := wm2 (k := 17) rfl rfl
theorem wd_2_18 : Cond.selects RX4 yX4_greatestLoad yX4_greatestLoad ∈ tbG := wm2 (k := 18) rfl rfl
theorem wd_2_19 : Cond.code yX4_greatestLoad cX4_greatestLoad 3 (some .int) ∈ tbG := wm2 (k := 19) rfl rfl
theorem wd_2_20 : Cond.methodLink RX4 66 Lib.Math.max.name ∈ tbG := wm2 (k := 20) rfl rfl
theorem wd_2_21 : Cond.methodLink RX1 59 yX1_scoreOf ∈ tbG := wm2 (k := 21) rfl rfl
theorem wd_2_23 : Cond.instanceMethod yX1_scoreOf ∈ tbG := wm2 (k := 23) rfl rfl
theorem wd_2_24 : Cond.code yX1_scoreOf cX1_scoreOf 5 (some .int) ∈ tbG := wm2 (k := 24) rfl rfl
theorem wd_2_25 : Cond.methodLink RX1 63 yX1_scoreOfCopies ∈ tbG := wm2 (k := 25) rfl rfl
theorem wd_2_27 : Cond.instanceMethod yX1_scoreOfCopies ∈ tbG := wm2 (k := 27) rfl rfl
theorem wd_2_28 : Cond.code yX1_scoreOfCopies cX1_scoreOfCopies 8 (some .int) ∈ tbG := wm2 (k := 28) rfl rfl
theorem wd_2_29 : Cond.methodLink RX1 70 yX4_hasCopy ∈ tbG := wm2 (k := 29) rfl rfl
theorem wd_2_30 : Cond.instanceMethod yX4_hasCopy ∈ tbG := wm2 (k := 30) rfl rfl
theorem wd_2_31 : Cond.selects RX4 yX4_hasCopy yX4_hasCopy ∈ tbG := wm2 (k := 31) rfl rfl
theorem wd_2_32 : Cond.code yX4_hasCopy cX4_hasCopy 3 (some .boolean) ∈ tbG := wm2 (k := 32) rfl rfl
theorem wd_2_33 : Cond.methodLink RX1 41 yX4_putOn ∈ tbG := wm2 (k := 33) rfl rfl
theorem wd_2_34 : Cond.instanceMethod yX4_putOn ∈ tbG := wm2 (k := 34) rfl rfl
theorem wd_2_35 : Cond.selects RX4 yX4_putOn yX4_putOn ∈ tbG := wm2 (k := 35) rfl rfl
theorem wd_2_36 : Cond.code yX4_putOn cX4_putOn 3 none ∈ tbG := wm2 (k := 36) rfl rfl
theorem wd_2_37 : Cond.methodLink RX4 40 yX4_hasHost ∈ tbG := wm2 (k := 37) rfl rfl
theorem wd_2_38 : Cond.instanceMethod yX4_hasHost ∈ tbG := wm2 (k := 38) rfl rfl
theorem wd_2_39 : Cond.selects RX4 yX4_hasHost yX4_hasHost ∈ tbG := wm2 (k := 39) rfl rfl
theorem wd_2_40 : Cond.code yX4_hasHost cX4_hasHost 2 (some .boolean) ∈ tbG := wm2 (k := 40) rfl rfl
theorem wd_2_41 : Cond.methodLink RX4 47 yX4_putEnd ∈ tbG := wm2 (k := 41) rfl rfl
theorem wd_2_43 : Cond.instanceMethod yX4_putEnd ∈ tbG := wm2 (k := 43) rfl rfl
theorem wd_2_44 : Cond.code yX4_putEnd cX4_putEnd 3 none ∈ tbG := wm2 (k := 44) rfl rfl
theorem wd_2_45 : Cond.methodLink RX6 83 yX6_keepWindow ∈ tbG := wm2 (k := 45) rfl rfl
theorem wd_2_47 : Cond.instanceMethod yX6_keepWindow ∈ tbG := wm2 (k := 47) rfl rfl
theorem wd_2_48 : Cond.code yX6_keepWindow cX6_keepWindow 2 none ∈ tbG := wm2 (k := 48) rfl rfl
theorem wd_2_49 : Cond.methodLink RX6 101 yX4_takeOff ∈ tbG := wm2 (k := 49) rfl rfl
theorem wd_2_50 : Cond.instanceMethod yX4_takeOff ∈ tbG := wm2 (k := 50) rfl rfl
theorem wd_2_51 : Cond.selects RX4 yX4_takeOff yX4_takeOff ∈ tbG := wm2 (k := 51) rfl rfl
theorem wd_2_52 : Cond.code yX4_takeOff cX4_takeOff 3 (some .boolean) ∈ tbG := wm2 (k := 52) rfl rfl
theorem wd_2_53 : Cond.methodLink RX4 51 yX4_isLive ∈ tbG := wm2 (k := 53) rfl rfl
theorem wd_2_54 : Cond.instanceMethod yX4_isLive ∈ tbG := wm2 (k := 54) rfl rfl
theorem wd_2_55 : Cond.selects RX4 yX4_isLive yX4_isLive ∈ tbG := wm2 (k := 55) rfl rfl
theorem wd_2_56 : Cond.code yX4_isLive cX4_isLive 2 (some .boolean) ∈ tbG := wm2 (k := 56) rfl rfl
theorem wd_2_57 : Cond.methodLink RX4 54 yX4_takeEnd ∈ tbG := wm2 (k := 57) rfl rfl
theorem wd_2_59 : Cond.instanceMethod yX4_takeEnd ∈ tbG := wm2 (k := 59) rfl rfl
theorem wd_2_60 : Cond.code yX4_takeEnd cX4_takeEnd 3 none ∈ tbG := wm2 (k := 60) rfl rfl
theorem wd_2_62 : Cond.instanceMethod yX6_rule ∈ tbG := wm2 (k := 62) rfl rfl
theorem wd_2_63 : Cond.selects RX6 yX6_rule yX6_rule ∈ tbG := wm2 (k := 63) rfl rfl
theorem wd_2_64 : Cond.code yX6_rule cX6_rule 2 (some .boolean) ∈ tbG := wm2 (k := 64) rfl rfl
theorem wd_2_66 : Cond.instanceMethod yX6_weights ∈ tbG := wm2 (k := 66) rfl rfl
theorem wd_2_67 : Cond.selects RX6 yX6_weights yX6_weights ∈ tbG := wm2 (k := 67) rfl rfl
theorem wd_2_68 : Cond.code yX6_weights cX6_weights 3 (some .boolean) ∈ tbG := wm2 (k := 68) rfl rfl
theorem wd_2_69 : Cond.methodLink RX6 89 yX6_isWeight ∈ tbG := wm2 (k := 69) rfl rfl
theorem wd_2_70 : Cond.static yX6_isWeight ∈ tbG := wm2 (k := 70) rfl rfl
theorem wd_2_71 : Cond.code yX6_isWeight cX6_isWeight 1 (some .boolean) ∈ tbG := wm2 (k := 71) rfl rfl
theorem wd_2_73 : Cond.instanceMethod yX6_window ∈ tbG := wm2 (k := 73) rfl rfl
theorem wd_2_74 : Cond.selects RX6 yX6_window yX6_window ∈ tbG := wm2 (k := 74) rfl rfl
theorem wd_2_75 : Cond.code yX6_window cX6_window 2 (some .boolean) ∈ tbG := wm2 (k := 75) rfl rfl
theorem wd_2_77 : Cond.instanceMethod yX6_leave ∈ tbG := wm2 (k := 77) rfl rfl
theorem wd_2_78 : Cond.selects RX6 yX6_leave yX6_leave ∈ tbG := wm2 (k := 78) rfl rfl
theorem wd_2_79 : Cond.code yX6_leave cX6_leave 2 (some .boolean) ∈ tbG := wm2 (k := 79) rfl rfl
theorem wd_2_81 : Cond.instanceMethod yX6_better ∈ tbG := wm2 (k := 81) rfl rfl
theorem wd_2_82 : Cond.selects RX6 yX6_better yX6_better ∈ tbG := wm2 (k := 82) rfl rfl
theorem wd_2_83 : Cond.code yX6_better cX6_better 3 (some .int) ∈ tbG := wm2 (k := 83) rfl rfl
theorem wd_2_84 : Cond.methodLink RX6 104 yX6_makeBetterMove ∈ tbG := wm2 (k := 84) rfl rfl
theorem wd_2_86 : Cond.instanceMethod yX6_makeBetterMove ∈ tbG := wm2 (k := 86) rfl rfl
theorem wd_2_87 : Cond.code yX6_makeBetterMove cX6_makeBetterMove 1 (some .boolean) ∈ tbG := wm2 (k := 87) rfl rfl
theorem wd_2_88 : Cond.methodLink RX6 142 yX1_roomFor ∈ tbG := wm2 (k := 88) rfl rfl
theorem wd_2_89 : Cond.methodLink RX6 176 yX3_findMove ∈ tbG := wm2 (k := 89) rfl rfl
theorem wd_2_90 : Cond.instanceMethod yX3_findMove ∈ tbG := wm2 (k := 90) rfl rfl
theorem wd_2_91 : Cond.selects RX3 yX3_findMove yX3_findMove ∈ tbG := wm2 (k := 91) rfl rfl
theorem wd_2_92 : Cond.code yX3_findMove cX3_findMove 3 (some .boolean) ∈ tbG := wm2 (k := 92) rfl rfl
theorem wd_2_93 : Cond.methodLink RX3 33 yX4_isLive ∈ tbG := wm2 (k := 93) rfl rfl
theorem wd_2_94 : Cond.methodLink RX3 37 yX3_weighMovesOf ∈ tbG := wm2 (k := 94) rfl rfl
theorem wd_2_96 : Cond.instanceMethod yX3_weighMovesOf ∈ tbG := wm2 (k := 96) rfl rfl
theorem wd_2_97 : Cond.code yX3_weighMovesOf cX3_weighMovesOf 10 none ∈ tbG := wm2 (k := 97) rfl rfl
theorem wd_2_98 : Cond.methodLink RX3 51 yX4_hasOneLineAt ∈ tbG := wm2 (k := 98) rfl rfl
theorem wd_2_99 : Cond.instanceMethod yX4_hasOneLineAt ∈ tbG := wm2 (k := 99) rfl rfl
theorem wd_2_100 : Cond.selects RX4 yX4_hasOneLineAt yX4_hasOneLineAt ∈ tbG := wm2 (k := 100) rfl rfl
theorem wd_2_101 : Cond.code yX4_hasOneLineAt cX4_hasOneLineAt 3 (some .boolean) ∈ tbG := wm2 (k := 101) rfl rfl
theorem wd_2_102 : Cond.methodLink RX3 61 yX4_hasCopy ∈ tbG := wm2 (k := 102) rfl rfl
theorem wd_2_103 : Cond.methodLink RX3 64 yX3_keepIfBetter ∈ tbG := wm2 (k := 103) rfl rfl
theorem wd_2_105 : Cond.instanceMethod yX3_keepIfBetter ∈ tbG := wm2 (k := 105) rfl rfl
theorem wd_2_106 : Cond.code yX3_keepIfBetter cX3_keepIfBetter 5 none ∈ tbG := wm2 (k := 106) rfl rfl
theorem wd_2_107 : Cond.methodLink RX6 185 yX4_putOn ∈ tbG := wm2 (k := 107) rfl rfl
theorem wd_2_109 : Cond.instanceMethod yX6_more ∈ tbG := wm2 (k := 109) rfl rfl
theorem wd_2_110 : Cond.selects RX6 yX6_more yX6_more ∈ tbG := wm2 (k := 110) rfl rfl
theorem wd_2_111 : Cond.code yX6_more cX6_more 1 (some .int) ∈ tbG := wm2 (k := 111) rfl rfl
theorem wd_2_113 : Cond.instanceMethod yX6_less ∈ tbG := wm2 (k := 113) rfl rfl
theorem wd_2_114 : Cond.selects RX6 yX6_less yX6_less ∈ tbG := wm2 (k := 114) rfl rfl
theorem wd_2_115 : Cond.code yX6_less cX6_less 4 (some .int) ∈ tbG := wm2 (k := 115) rfl rfl
theorem wd_2_116 : Cond.methodLink RX6 114 yX4_hasHost ∈ tbG := wm2 (k := 116) rfl rfl
theorem wd_2_117 : Cond.methodLink RX6 117 yX4_dropHost ∈ tbG := wm2 (k := 117) rfl rfl
theorem wd_2_118 : Cond.instanceMethod yX4_dropHost ∈ tbG := wm2 (k := 118) rfl rfl
theorem wd_2_119 : Cond.selects RX4 yX4_dropHost yX4_dropHost ∈ tbG := wm2 (k := 119) rfl rfl
theorem wd_2_120 : Cond.code yX4_dropHost cX4_dropHost 6 (some .int) ∈ tbG := wm2 (k := 120) rfl rfl
theorem wd_2_121 : Cond.methodLink RX4 60 yX4_takeOff ∈ tbG := wm2 (k := 121) rfl rfl
theorem wd_2_122 : Cond.methodLink RX4 63 yX4_putOn ∈ tbG := wm2 (k := 122) rfl rfl
theorem wd_2_124 : Cond.instanceMethod yX6_host ∈ tbG := wm2 (k := 124) rfl rfl
theorem wd_2_125 : Cond.selects RX6 yX6_host yX6_host ∈ tbG := wm2 (k := 125) rfl rfl
theorem wd_2_126 : Cond.code yX6_host cX6_host 2 (some .int) ∈ tbG := wm2 (k := 126) rfl rfl
theorem wd_2_127 : Cond.methodLink RX6 121 yX4_isLive ∈ tbG := wm2 (k := 127) rfl rfl
theorem wd_2_129 : Cond.instanceMethod yX6_load ∈ tbG := wm2 (k := 129) rfl rfl
theorem wd_2_130 : Cond.selects RX6 yX6_load yX6_load ∈ tbG := wm2 (k := 130) rfl rfl
theorem wd_2_131 : Cond.code yX6_load cX6_load 2 (some .int) ∈ tbG := wm2 (k := 131) rfl rfl
theorem wd_2_133 : Cond.instanceMethod yX6_copies ∈ tbG := wm2 (k := 133) rfl rfl
theorem wd_2_134 : Cond.selects RX6 yX6_copies yX6_copies ∈ tbG := wm2 (k := 134) rfl rfl
theorem wd_2_135 : Cond.code yX6_copies cX6_copies 2 (some .int) ∈ tbG := wm2 (k := 135) rfl rfl
theorem wd_2_137 : Cond.instanceMethod yX6_all ∈ tbG := wm2 (k := 137) rfl rfl
theorem wd_2_138 : Cond.selects RX6 yX6_all yX6_all ∈ tbG := wm2 (k := 138) rfl rfl
theorem wd_2_139 : Cond.code yX6_all cX6_all 1 (some .int) ∈ tbG := wm2 (k := 139) rfl rfl
theorem wd_2_141 : Cond.instanceMethod yX6_degree ∈ tbG := wm2 (k := 141) rfl rfl
theorem wd_2_142 : Cond.selects RX6 yX6_degree yX6_degree ∈ tbG := wm2 (k := 142) rfl rfl
theorem wd_2_143 : Cond.code yX6_degree cX6_degree 2 (some .int) ∈ tbG := wm2 (k := 143) rfl rfl
theorem wd_2_145 : Cond.instanceMethod yX6_room ∈ tbG := wm2 (k := 145) rfl rfl
theorem wd_2_146 : Cond.selects RX6 yX6_room yX6_room ∈ tbG := wm2 (k := 146) rfl rfl
theorem wd_2_147 : Cond.code yX6_room cX6_room 1 (some .int) ∈ tbG := wm2 (k := 147) rfl rfl
theorem wd_2_149 : Cond.instanceMethod yX6_best ∈ tbG := wm2 (k := 149) rfl rfl
theorem wd_2_150 : Cond.selects RX6 yX6_best yX6_best ∈ tbG := wm2 (k := 150) rfl rfl
theorem wd_2_151 : Cond.code yX6_best cX6_best 1 (some .int) ∈ tbG := wm2 (k := 151) rfl rfl
theorem wd_2_152 : Cond.methodLink RX6 145 yX0_fewestCopies ∈ tbG := wm2 (k := 152) rfl rfl
theorem wd_2_153 : Cond.instanceMethod yX0_fewestCopies ∈ tbG := wm2 (k := 153) rfl rfl
theorem wd_2_154 : Cond.selects RX0 yX0_fewestCopies yX0_fewestCopies ∈ tbG := wm2 (k := 154) rfl rfl
theorem wd_2_155 : Cond.code yX0_fewestCopies cX0_fewestCopies 2 (some .int) ∈ tbG := wm2 (k := 155) rfl rfl
theorem wd_2_156 : Cond.methodLink RX0 25 yX0_collectLines ∈ tbG := wm2 (k := 156) rfl rfl
theorem wd_2_158 : Cond.instanceMethod yX0_collectLines ∈ tbG := wm2 (k := 158) rfl rfl
theorem wd_2_159 : Cond.code yX0_collectLines cX0_collectLines 2 none ∈ tbG := wm2 (k := 159) rfl rfl
theorem wd_2_160 : Cond.methodLink RX0 47 yX4_isLive ∈ tbG := wm2 (k := 160) rfl rfl
theorem wd_2_161 : Cond.methodLink RX0 38 yX0_dealFrom ∈ tbG := wm2 (k := 161) rfl rfl
theorem wd_2_163 : Cond.instanceMethod yX0_dealFrom ∈ tbG := wm2 (k := 163) rfl rfl
theorem wd_2_164 : Cond.code yX0_dealFrom cX0_dealFrom 6 none ∈ tbG := wm2 (k := 164) rfl rfl
theorem wd_2_165 : Cond.methodLink RX0 54 Lib.Math.min.name ∈ tbG := wm2 (k := 165) rfl rfl
theorem wd_2_166 : Cond.methodLink RX0 60 Lib.Math.max.name ∈ tbG := wm2 (k := 166) rfl rfl
theorem wd_2_167 : Cond.methodLink RX0 63 yX0_tryHost ∈ tbG := wm2 (k := 167) rfl rfl
theorem wd_2_169 : Cond.instanceMethod yX0_tryHost ∈ tbG := wm2 (k := 169) rfl rfl
theorem wd_2_170 : Cond.code yX0_tryHost cX0_tryHost 10 none ∈ tbG := wm2 (k := 170) rfl rfl
theorem wd_2_172 : Cond.instanceMethod yX6_part ∈ tbG := wm2 (k := 172) rfl rfl
theorem wd_2_173 : Cond.selects RX6 yX6_part yX6_part ∈ tbG := wm2 (k := 173) rfl rfl
theorem wd_2_174 : Cond.code yX6_part cX6_part 2 (some .int) ∈ tbG := wm2 (k := 174) rfl rfl
theorem wd_2_175 : Cond.methodLink RX6 148 yX5_spread ∈ tbG := wm2 (k := 175) rfl rfl
theorem wd_2_176 : Cond.instanceMethod yX5_spread ∈ tbG := wm2 (k := 176) rfl rfl
theorem wd_2_177 : Cond.selects RX5 yX5_spread yX5_spread ∈ tbG := wm2 (k := 177) rfl rfl
theorem wd_2_178 : Cond.code yX5_spread cX5_spread 2 none ∈ tbG := wm2 (k := 178) rfl rfl
theorem wd_2_179 : Cond.methodLink RX5 26 yX5_goOneRound ∈ tbG := wm2 (k := 179) rfl rfl
theorem wd_2_181 : Cond.instanceMethod yX5_goOneRound ∈ tbG := wm2 (k := 181) rfl rfl
theorem wd_2_182 : Cond.code yX5_goOneRound cX5_goOneRound 3 (some .boolean) ∈ tbG := wm2 (k := 182) rfl rfl
theorem wd_2_183 : Cond.methodLink RX5 30 arraycopyName ∈ tbG := wm2 (k := 183) rfl rfl
theorem wd_2_184 : Cond.static arraycopyName ∈ tbG := wm2 (k := 184) rfl rfl
theorem wd_2_185 : Cond.native arraycopyName ∈ tbG := wm2 (k := 185) rfl rfl
theorem wd_2_186 : Cond.methodLink RX5 41 yX4_isLive ∈ tbG := wm2 (k := 186) rfl rfl
theorem wd_2_187 : Cond.methodLink RX5 51 yX5_spreadAlong ∈ tbG := wm2 (k := 187) rfl rfl
theorem wd_2_189 : Cond.instanceMethod yX5_spreadAlong ∈ tbG := wm2 (k := 189) rfl rfl
theorem wd_2_190 : Cond.code yX5_spreadAlong cX5_spreadAlong 5 (some .boolean) ∈ tbG := wm2 (k := 190) rfl rfl
theorem wd_2_191 : Cond.methodLink RX5 55 Lib.Math.min.name ∈ tbG := wm2 (k := 191) rfl rfl
theorem wd_2_193 : Cond.instanceMethod yX6_run ∈ tbG := wm2 (k := 193) rfl rfl
theorem wd_2_194 : Cond.selects RX6 yX6_run yX6_run ∈ tbG := wm2 (k := 194) rfl rfl
theorem wd_2_195 : Cond.code yX6_run cX6_run 2 (some .int) ∈ tbG := wm2 (k := 195) rfl rfl
theorem wd_2_196 : Cond.methodLink RX6 157 yX5_letters ∈ tbG := wm2 (k := 196) rfl rfl
theorem wd_2_197 : Cond.instanceMethod yX5_letters ∈ tbG := wm2 (k := 197) rfl rfl
theorem wd_2_198 : Cond.selects RX5 yX5_letters yX5_letters ∈ tbG := wm2 (k := 198) rfl rfl
theorem wd_2_199 : Cond.code yX5_letters cX5_letters 2 (some .int) ∈ tbG := wm2 (k := 199) rfl rfl
theorem wd_2_200 : Cond.methodLink RX5 64 yX4_pointsWithCopies ∈ tbG := wm2 (k := 200) rfl rfl
theorem wd_2_201 : Cond.instanceMethod yX4_pointsWithCopies ∈ tbG := wm2 (k := 201) rfl rfl
theorem wd_2_202 : Cond.selects RX4 yX4_pointsWithCopies yX4_pointsWithCopies ∈ tbG := wm2 (k := 202) rfl rfl
theorem wd_2_203 : Cond.code yX4_pointsWithCopies cX4_pointsWithCopies 3 (some .int) ∈ tbG := wm2 (k := 203) rfl rfl
theorem wd_2_204 : Cond.methodLink RX6 161 yX5_partsWithLines ∈ tbG := wm2 (k := 204) rfl rfl
theorem wd_2_205 : Cond.instanceMethod yX5_partsWithLines ∈ tbG := wm2 (k := 205) rfl rfl
theorem wd_2_206 : Cond.selects RX5 yX5_partsWithLines yX5_partsWithLines ∈ tbG := wm2 (k := 206) rfl rfl
theorem wd_2_207 : Cond.code yX5_partsWithLines cX5_partsWithLines 3 (some .int) ∈ tbG := wm2 (k := 207) rfl rfl
theorem wd_2_209 : Cond.instanceMethod yX6_master ∈ tbG := wm2 (k := 209) rfl rfl
theorem wd_2_210 : Cond.selects RX6 yX6_master yX6_master ∈ tbG := wm2 (k := 210) rfl rfl
theorem wd_2_211 : Cond.code yX6_master cX6_master 2 (some .int) ∈ tbG := wm2 (k := 211) rfl rfl
theorem wd_2_212 : Cond.methodLink RX6 164 yX2_masterOf ∈ tbG := wm2 (k := 212) rfl rfl
theorem wd_2_213 : Cond.instanceMethod yX2_masterOf ∈ tbG := wm2 (k := 213) rfl rfl
theorem wd_2_214 : Cond.selects RX2 yX2_masterOf yX2_masterOf ∈ tbG := wm2 (k := 214) rfl rfl
theorem wd_2_215 : Cond.code yX2_masterOf cX2_masterOf 4 (some .int) ∈ tbG := wm2 (k := 215) rfl rfl
theorem wd_2_216 : Cond.methodLink RX2 19 yJ7_fill_53178 ∈ tbG := wm2 (k := 216) rfl rfl
theorem wd_2_217 : Cond.static yJ7_fill_53178 ∈ tbG := wm2 (k := 217) rfl rfl
theorem wd_2_218 : Cond.code yJ7_fill_53178 cJ7_fill_53178 4 none ∈ tbG := wm2 (k := 218) rfl rfl
theorem wd_2_219 : Cond.methodLink RX2 25 yX2_leastMasterFor ∈ tbG := wm2 (k := 219) rfl rfl
theorem wd_2_221 : Cond.instanceMethod yX2_leastMasterFor ∈ tbG := wm2 (k := 221) rfl rfl
theorem wd_2_222 : Cond.code yX2_leastMasterFor cX2_leastMasterFor 4 (some .int) ∈ tbG := wm2 (k := 222) rfl rfl
theorem wd_2_223 : Cond.methodLink RX2 35 yX4_hasCopy ∈ tbG := wm2 (k := 223) rfl rfl
theorem wd_2_225 : Cond.instanceMethod yX6_count ∈ tbG := wm2 (k := 225) rfl rfl
theorem wd_2_226 : Cond.selects RX6 yX6_count yX6_count ∈ tbG := wm2 (k := 226) rfl rfl
theorem wd_2_227 : Cond.code yX6_count cX6_count 2 (some .int) ∈ tbG := wm2 (k := 227) rfl rfl
theorem wd_2_228 : Cond.methodLink RX6 167 yX4_greatestLoad ∈ tbG := wm2 (k := 228) rfl rfl
theorem wd_2_229 : Cond.methodLink RX6 170 yX4_leastLoad ∈ tbG := wm2 (k := 229) rfl rfl
theorem wd_2_230 : Cond.instanceMethod yX4_leastLoad ∈ tbG := wm2 (k := 230) rfl rfl
theorem wd_2_231 : Cond.selects RX4 yX4_leastLoad yX4_leastLoad ∈ tbG := wm2 (k := 231) rfl rfl
theorem wd_2_232 : Cond.code yX4_leastLoad cX4_leastLoad 3 (some .int) ∈ tbG := wm2 (k := 232) rfl rfl
theorem wd_2_233 : Cond.methodLink RX4 72 Lib.Math.min.name ∈ tbG := wm2 (k := 233) rfl rfl
theorem wd_2_234 : Cond.methodLink RX6 173 yX4_pointsWithCopies ∈ tbG := wm2 (k := 234) rfl rfl
theorem wd_3_4 : Cond.fieldLink RX7 54 "LineDealerModel" "hosts" "I" ∈ tbG := wm3 (k := 4) rfl rfl
theorem wd_3_5 : Cond.fieldLink RX7 61 "LineDealerModel" "lines" "I" ∈ tbG := wm3 (k := 5) rfl rfl
theorem wd_3_6 : Cond.fieldLink RX7 9 "LineDealerModel" "one" "[I" ∈ tbG := wm3 (k := 6) rfl rfl
theorem wd_3_7 : Cond.fieldLink RX7 13 "LineDealerModel" "other" "[I" ∈ tbG := wm3 (k := 7) rfl rfl
theorem wd_3_8 : Cond.fieldLink RX7 16 "LineDealerModel" "hostOf" "[I" ∈ tbG := wm3 (k := 8) rfl rfl
theorem wd_3_9 : Cond.fieldLink RX7 19 "LineDealerModel" "loads" "[I" ∈ tbG := wm3 (k := 9) rfl rfl
theorem wd_3_10 : Cond.fieldLink RX7 22 "LineDealerModel" "ends" "[I" ∈ tbG := wm3 (k := 10) rfl rfl
theorem wd_3_11 : Cond.fieldLink RX7 64 "LineDealerModel" "live" "I" ∈ tbG := wm3 (k := 11) rfl rfl
theorem wd_3_12 : Cond.fieldLink RX7 96 "LineDealerModel" "window" "I" ∈ tbG := wm3 (k := 12) rfl rfl
theorem wd_3_13 : Cond.fieldLink RX7 25 "LineDealerModel" "slack" "I" ∈ tbG := wm3 (k := 13) rfl rfl
theorem wd_3_14 : Cond.fieldLink RX7 29 "LineDealerModel" "lean" "I" ∈ tbG := wm3 (k := 14) rfl rfl
theorem wd_3_15 : Cond.fieldLink RX7 32 "LineDealerModel" "rule" "I" ∈ tbG := wm3 (k := 15) rfl rfl
theorem wd_3_16 : Cond.fieldLink RX7 112 "LineDealerModel" "moves" "I" ∈ tbG := wm3 (k := 16) rfl rfl
theorem wd_3_17 : Cond.fieldLink RX7 35 "LineDealerModel" "isAnew" "[Z" ∈ tbG := wm3 (k := 17) rfl rfl
theorem wd_3_18 : Cond.fieldLink RX7 39 "LineDealerModel" "load" "[I" ∈ tbG := wm3 (k := 18) rfl rfl
theorem wd_3_19 : Cond.fieldLink RX7 42 "LineDealerModel" "at" "[I" ∈ tbG := wm3 (k := 19) rfl rfl
theorem wd_3_20 : Cond.fieldLink RX7 45 "LineDealerModel" "value" "[I" ∈ tbG := wm3 (k := 20) rfl rfl
theorem wd_3_21 : Cond.fieldLink RX7 48 "LineDealerModel" "then" "[I" ∈ tbG := wm3 (k := 21) rfl rfl
theorem wd_3_22 : Cond.fieldLink RX7 51 "LineDealerModel" "of" "[I" ∈ tbG := wm3 (k := 22) rfl rfl
theorem wd_3_64 : Cond.instanceMethod yX7_line ∈ tbG := wm3 (k := 64) rfl rfl
theorem wd_3_65 : Cond.selects RX7 yX7_line yX7_line ∈ tbG := wm3 (k := 65) rfl rfl
theorem wd_3_66 : Cond.code yX7_line cX7_line 4 (some .int) ∈ tbG := wm3 (k := 66) rfl rfl
theorem wd_3_67 : Cond.methodLink RX7 86 yX7_isPoint ∈ tbG := wm3 (k := 67) rfl rfl
theorem wd_3_68 : Cond.static yX7_isPoint ∈ tbG := wm3 (k := 68) rfl rfl
theorem wd_3_69 : Cond.code yX7_isPoint cX7_isPoint 1 (some .boolean) ∈ tbG := wm3 (k := 69) rfl rfl
theorem wd_3_70 : Cond.methodLink RX7 57 yX7_in ∈ tbG := wm3 (k := 70) rfl rfl
theorem wd_3_71 : Cond.static yX7_in ∈ tbG := wm3 (k := 71) rfl rfl
theorem wd_3_72 : Cond.code yX7_in cX7_in 3 (some .boolean) ∈ tbG := wm3 (k := 72) rfl rfl
theorem wd_3_73 : Cond.methodLink RX7 90 yX7_deals ∈ tbG := wm3 (k := 73) rfl rfl
theorem wd_3_75 : Cond.instanceMethod yX7_deals ∈ tbG := wm3 (k := 75) rfl rfl
theorem wd_3_76 : Cond.code yX7_deals cX7_deals 7 (some .int) ∈ tbG := wm3 (k := 76) rfl rfl
theorem wd_3_77 : Cond.methodLink RX7 75 yX7_roomFor ∈ tbG := wm3 (k := 77) rfl rfl
theorem wd_3_79 : Cond.instanceMethod yX7_roomFor ∈ tbG := wm3 (k := 79) rfl rfl
theorem wd_3_80 : Cond.code yX7_roomFor cX7_roomFor 2 (some .int) ∈ tbG := wm3 (k := 80) rfl rfl
theorem wd_3_81 : Cond.methodLink RX7 78 yX7_scoreOf ∈ tbG := wm3 (k := 81) rfl rfl
theorem wd_3_83 : Cond.instanceMethod yX7_scoreOf ∈ tbG := wm3 (k := 83) rfl rfl
theorem wd_3_84 : Cond.code yX7_scoreOf cX7_scoreOf 8 (some .int) ∈ tbG := wm3 (k := 84) rfl rfl
theorem wd_3_85 : Cond.methodLink RX7 67 yX7_greatest ∈ tbG := wm3 (k := 85) rfl rfl
theorem wd_3_87 : Cond.instanceMethod yX7_greatest ∈ tbG := wm3 (k := 87) rfl rfl
theorem wd_3_88 : Cond.code yX7_greatest cX7_greatest 3 (some .int) ∈ tbG := wm3 (k := 88) rfl rfl
theorem wd_3_89 : Cond.methodLink RX7 71 yX7_degree ∈ tbG := wm3 (k := 89) rfl rfl
theorem wd_3_90 : Cond.instanceMethod yX7_degree ∈ tbG := wm3 (k := 90) rfl rfl
theorem wd_3_91 : Cond.selects RX7 yX7_degree yX7_degree ∈ tbG := wm3 (k := 91) rfl rfl
theorem wd_3_92 : Cond.code yX7_degree cX7_degree 4 (some .int) ∈ tbG := wm3 (k := 92) rfl rfl
theorem wd_3_93 : Cond.methodLink RX7 82 yX7_puts ∈ tbG := wm3 (k := 93) rfl rfl
theorem wd_3_95 : Cond.instanceMethod yX7_puts ∈ tbG := wm3 (k := 95) rfl rfl
theorem wd_3_96 : Cond.code yX7_puts cX7_puts 4 none ∈ tbG := wm3 (k := 96) rfl rfl
theorem wd_3_97 : Cond.methodLink RX7 93 yX7_shuts ∈ tbG := wm3 (k := 97) rfl rfl
theorem wd_3_99 : Cond.instanceMethod yX7_shuts ∈ tbG := wm3 (k := 99) rfl rfl
theorem wd_3_100 : Cond.code yX7_shuts cX7_shuts 2 none ∈ tbG := wm3 (k := 100) rfl rfl
theorem wd_3_102 : Cond.instanceMethod yX7_rule ∈ tbG := wm3 (k := 102) rfl rfl
theorem wd_3_103 : Cond.selects RX7 yX7_rule yX7_rule ∈ tbG := wm3 (k := 103) rfl rfl
theorem wd_3_104 : Cond.code yX7_rule cX7_rule 2 (some .boolean) ∈ tbG := wm3 (k := 104) rfl rfl
theorem wd_3_106 : Cond.instanceMethod yX7_weights ∈ tbG := wm3 (k := 106) rfl rfl
theorem wd_3_107 : Cond.selects RX7 yX7_weights yX7_weights ∈ tbG := wm3 (k := 107) rfl rfl
theorem wd_3_108 : Cond.code yX7_weights cX7_weights 3 (some .boolean) ∈ tbG := wm3 (k := 108) rfl rfl
theorem wd_3_110 : Cond.instanceMethod yX7_window ∈ tbG := wm3 (k := 110) rfl rfl
theorem wd_3_111 : Cond.selects RX7 yX7_window yX7_window ∈ tbG := wm3 (k := 111) rfl rfl
theorem wd_3_112 : Cond.code yX7_window cX7_window 2 (some .boolean) ∈ tbG := wm3 (k := 112) rfl rfl
theorem wd_3_114 : Cond.instanceMethod yX7_leave ∈ tbG := wm3 (k := 114) rfl rfl
theorem wd_3_115 : Cond.selects RX7 yX7_leave yX7_leave ∈ tbG := wm3 (k := 115) rfl rfl
theorem wd_3_116 : Cond.code yX7_leave cX7_leave 2 (some .boolean) ∈ tbG := wm3 (k := 116) rfl rfl
theorem wd_3_117 : Cond.methodLink RX7 99 yX7_isLive ∈ tbG := wm3 (k := 117) rfl rfl
theorem wd_3_119 : Cond.instanceMethod yX7_isLive ∈ tbG := wm3 (k := 119) rfl rfl
theorem wd_3_120 : Cond.code yX7_isLive cX7_isLive 2 (some .boolean) ∈ tbG := wm3 (k := 120) rfl rfl
theorem wd_3_122 : Cond.instanceMethod yX7_better ∈ tbG := wm3 (k := 122) rfl rfl
theorem wd_3_123 : Cond.selects RX7 yX7_better yX7_better ∈ tbG := wm3 (k := 123) rfl rfl
theorem wd_3_124 : Cond.code yX7_better cX7_better 3 (some .int) ∈ tbG := wm3 (k := 124) rfl rfl
theorem wd_3_125 : Cond.methodLink RX7 108 yX7_moves ∈ tbG := wm3 (k := 125) rfl rfl
theorem wd_3_127 : Cond.instanceMethod yX7_moves ∈ tbG := wm3 (k := 127) rfl rfl
theorem wd_3_128 : Cond.code yX7_moves cX7_moves 12 (some .boolean) ∈ tbG := wm3 (k := 128) rfl rfl
theorem wd_3_129 : Cond.methodLink RX7 102 yX7_room ∈ tbG := wm3 (k := 129) rfl rfl
theorem wd_3_130 : Cond.instanceMethod yX7_room ∈ tbG := wm3 (k := 130) rfl rfl
theorem wd_3_131 : Cond.selects RX7 yX7_room yX7_room ∈ tbG := wm3 (k := 131) rfl rfl
theorem wd_3_132 : Cond.code yX7_room cX7_room 1 (some .int) ∈ tbG := wm3 (k := 132) rfl rfl
theorem wd_3_133 : Cond.methodLink RX7 105 yX7_change ∈ tbG := wm3 (k := 133) rfl rfl
theorem wd_3_135 : Cond.instanceMethod yX7_change ∈ tbG := wm3 (k := 135) rfl rfl
theorem wd_3_136 : Cond.code yX7_change cX7_change 4 (some .int) ∈ tbG := wm3 (k := 136) rfl rfl
theorem wd_3_138 : Cond.instanceMethod yX7_more ∈ tbG := wm3 (k := 138) rfl rfl
theorem wd_3_139 : Cond.selects RX7 yX7_more yX7_more ∈ tbG := wm3 (k := 139) rfl rfl
theorem wd_3_140 : Cond.code yX7_more cX7_more 1 (some .int) ∈ tbG := wm3 (k := 140) rfl rfl
theorem wd_3_142 : Cond.instanceMethod yX7_less ∈ tbG := wm3 (k := 142) rfl rfl
theorem wd_3_143 : Cond.selects RX7 yX7_less yX7_less ∈ tbG := wm3 (k := 143) rfl rfl
theorem wd_3_144 : Cond.code yX7_less cX7_less 5 (some .int) ∈ tbG := wm3 (k := 144) rfl rfl
theorem wd_3_146 : Cond.instanceMethod yX7_host ∈ tbG := wm3 (k := 146) rfl rfl
theorem wd_3_147 : Cond.selects RX7 yX7_host yX7_host ∈ tbG := wm3 (k := 147) rfl rfl
theorem wd_3_148 : Cond.code yX7_host cX7_host 2 (some .int) ∈ tbG := wm3 (k := 148) rfl rfl
theorem wd_3_150 : Cond.instanceMethod yX7_load ∈ tbG := wm3 (k := 150) rfl rfl
theorem wd_3_151 : Cond.selects RX7 yX7_load yX7_load ∈ tbG := wm3 (k := 151) rfl rfl
theorem wd_3_152 : Cond.code yX7_load cX7_load 2 (some .int) ∈ tbG := wm3 (k := 152) rfl rfl
theorem wd_3_154 : Cond.instanceMethod yX7_copies ∈ tbG := wm3 (k := 154) rfl rfl
theorem wd_3_155 : Cond.selects RX7 yX7_copies yX7_copies ∈ tbG := wm3 (k := 155) rfl rfl
theorem wd_3_156 : Cond.code yX7_copies cX7_copies 4 (some .int) ∈ tbG := wm3 (k := 156) rfl rfl
theorem wd_3_158 : Cond.instanceMethod yX7_all ∈ tbG := wm3 (k := 158) rfl rfl
theorem wd_3_159 : Cond.selects RX7 yX7_all yX7_all ∈ tbG := wm3 (k := 159) rfl rfl
theorem wd_3_160 : Cond.code yX7_all cX7_all 3 (some .int) ∈ tbG := wm3 (k := 160) rfl rfl
theorem wd_3_161 : Cond.methodLink RX7 114 yX7_copiesOf ∈ tbG := wm3 (k := 161) rfl rfl
theorem wd_3_163 : Cond.instanceMethod yX7_copiesOf ∈ tbG := wm3 (k := 163) rfl rfl
theorem wd_3_164 : Cond.code yX7_copiesOf cX7_copiesOf 4 (some .int) ∈ tbG := wm3 (k := 164) rfl rfl
theorem wd_3_168 : Cond.instanceMethod yX7_best ∈ tbG := wm3 (k := 168) rfl rfl
theorem wd_3_169 : Cond.selects RX7 yX7_best yX7_best ∈ tbG := wm3 (k := 169) rfl rfl
theorem wd_3_170 : Cond.code yX7_best cX7_best 5 (some .int) ∈ tbG := wm3 (k := 170) rfl rfl
theorem wd_3_171 : Cond.methodLink RX7 117 yX7_dealt ∈ tbG := wm3 (k := 171) rfl rfl
theorem wd_3_173 : Cond.instanceMethod yX7_dealt ∈ tbG := wm3 (k := 173) rfl rfl
theorem wd_3_174 : Cond.code yX7_dealt cX7_dealt 6 (some .int) ∈ tbG := wm3 (k := 174) rfl rfl
theorem wd_3_176 : Cond.instanceMethod yX7_part ∈ tbG := wm3 (k := 176) rfl rfl
theorem wd_3_177 : Cond.selects RX7 yX7_part yX7_part ∈ tbG := wm3 (k := 177) rfl rfl
theorem wd_3_178 : Cond.code yX7_part cX7_part 2 (some .int) ∈ tbG := wm3 (k := 178) rfl rfl
theorem wd_3_179 : Cond.methodLink RX7 120 yX7_runs ∈ tbG := wm3 (k := 179) rfl rfl
theorem wd_3_181 : Cond.instanceMethod yX7_runs ∈ tbG := wm3 (k := 181) rfl rfl
theorem wd_3_182 : Cond.code yX7_runs cX7_runs 4 (some .int) ∈ tbG := wm3 (k := 182) rfl rfl
theorem wd_3_184 : Cond.instanceMethod yX7_run ∈ tbG := wm3 (k := 184) rfl rfl
theorem wd_3_185 : Cond.selects RX7 yX7_run yX7_run ∈ tbG := wm3 (k := 185) rfl rfl
theorem wd_3_186 : Cond.code yX7_run cX7_run 7 (some .int) ∈ tbG := wm3 (k := 186) rfl rfl
theorem wd_3_188 : Cond.instanceMethod yX7_master ∈ tbG := wm3 (k := 188) rfl rfl
theorem wd_3_189 : Cond.selects RX7 yX7_master yX7_master ∈ tbG := wm3 (k := 189) rfl rfl
theorem wd_3_190 : Cond.code yX7_master cX7_master 5 (some .int) ∈ tbG := wm3 (k := 190) rfl rfl
theorem wd_3_192 : Cond.instanceMethod yX7_count ∈ tbG := wm3 (k := 192) rfl rfl
theorem wd_3_193 : Cond.selects RX7 yX7_count yX7_count ∈ tbG := wm3 (k := 193) rfl rfl
theorem wd_3_194 : Cond.code yX7_count cX7_count 4 (some .int) ∈ tbG := wm3 (k := 194) rfl rfl
theorem kwJ7_fill_53178 : KS yJ7_fill_53178 (.code yJ7_fill_53178 cJ7_fill_53178 4 none) 2 := ⟨⟨wd_2_217, wd_1_11, wd_2_218⟩, by decide +kernel⟩
theorem kwX6_isPoint : KS yX6_isPoint (.code yX6_isPoint cX6_isPoint 1 (some .boolean)) 1 := ⟨⟨wd_1_238, wd_1_1, wd_1_239⟩, by decide +kernel⟩
theorem kwX4_addLine : KW RX4 yX4_addLine (.code yX4_addLine cX4_addLine 4 (some .int)) 2 := ⟨⟨wd_2_1, wd_2_2, wd_1_2, wd_2_3⟩, by decide +kernel⟩
theorem kwX1_roomFor : KW RX1 yX1_roomFor (.code yX1_roomFor cX1_roomFor 3 (some .int)) 1 := ⟨⟨wd_2_13, wd_2_14, wd_1_4, wd_2_15⟩, by decide +kernel⟩
theorem kwX4_greatestLoad : KW RX4 yX4_greatestLoad (.code yX4_greatestLoad cX4_greatestLoad 3 (some .int)) 0 := ⟨⟨wd_2_17, wd_2_18, wd_1_2, wd_2_19⟩, by decide +kernel⟩
theorem kwX4_hasCopy : KW RX4 yX4_hasCopy (.code yX4_hasCopy cX4_hasCopy 3 (some .boolean)) 2 := ⟨⟨wd_2_30, wd_2_31, wd_1_2, wd_2_32⟩, by decide +kernel⟩
theorem kwX1_scoreOfCopies : KW RX1 yX1_scoreOfCopies (.code yX1_scoreOfCopies cX1_scoreOfCopies 8 (some .int)) 3 := ⟨⟨wd_2_27, wd_0_2, wd_1_4, wd_2_28⟩, by decide +kernel⟩
theorem kwX1_scoreOf : KW RX1 yX1_scoreOf (.code yX1_scoreOf cX1_scoreOf 5 (some .int)) 4 := ⟨⟨wd_2_23, wd_0_1, wd_1_4, wd_2_24⟩, by decide +kernel⟩
theorem kwX1_chooseHost : KW RX1 yX1_chooseHost (.code yX1_chooseHost cX1_chooseHost 9 (some .int)) 2 := ⟨⟨wd_2_10, wd_0_0, wd_1_4, wd_2_11⟩, by decide +kernel⟩
theorem kwX4_hasHost : KW RX4 yX4_hasHost (.code yX4_hasHost cX4_hasHost 2 (some .boolean)) 1 := ⟨⟨wd_2_38, wd_2_39, wd_1_2, wd_2_40⟩, by decide +kernel⟩
theorem kwX4_putEnd : KW RX4 yX4_putEnd (.code yX4_putEnd cX4_putEnd 3 none) 2 := ⟨⟨wd_2_43, wd_0_3, wd_1_2, wd_2_44⟩, by decide +kernel⟩
theorem kwX4_putOn : KW RX4 yX4_putOn (.code yX4_putOn cX4_putOn 3 none) 2 := ⟨⟨wd_2_34, wd_2_35, wd_1_2, wd_2_36⟩, by decide +kernel⟩
theorem kwX1_dealLine : KW RX1 yX1_dealLine (.code yX1_dealLine cX1_dealLine 3 (some .int)) 1 := ⟨⟨wd_2_5, wd_2_6, wd_1_4, wd_2_7⟩, by decide +kernel⟩
theorem kwX4_isLive : KW RX4 yX4_isLive (.code yX4_isLive cX4_isLive 2 (some .boolean)) 1 := ⟨⟨wd_2_54, wd_2_55, wd_1_2, wd_2_56⟩, by decide +kernel⟩
theorem kwX4_takeEnd : KW RX4 yX4_takeEnd (.code yX4_takeEnd cX4_takeEnd 3 none) 2 := ⟨⟨wd_2_59, wd_0_5, wd_1_2, wd_2_60⟩, by decide +kernel⟩
theorem kwX4_takeOff : KW RX4 yX4_takeOff (.code yX4_takeOff cX4_takeOff 3 (some .boolean)) 1 := ⟨⟨wd_2_50, wd_2_51, wd_1_2, wd_2_52⟩, by decide +kernel⟩
theorem kwX6_keepWindow : KW RX6 yX6_keepWindow (.code yX6_keepWindow cX6_keepWindow 2 none) 0 := ⟨⟨wd_2_47, wd_0_4, wd_1_1, wd_2_48⟩, by decide +kernel⟩
theorem kwX6_line : KW RX6 yX6_line (.code yX6_line cX6_line 4 (some .int)) 2 := ⟨⟨wd_1_234, wd_1_235, wd_1_1, wd_1_236⟩, by decide +kernel⟩
theorem kwX6_rule : KW RX6 yX6_rule (.code yX6_rule cX6_rule 2 (some .boolean)) 1 := ⟨⟨wd_2_62, wd_2_63, wd_1_1, wd_2_64⟩, by decide +kernel⟩
theorem kwX6_isWeight : KS yX6_isWeight (.code yX6_isWeight cX6_isWeight 1 (some .boolean)) 1 := ⟨⟨wd_2_70, wd_1_1, wd_2_71⟩, by decide +kernel⟩
theorem kwX6_weights : KW RX6 yX6_weights (.code yX6_weights cX6_weights 3 (some .boolean)) 2 := ⟨⟨wd_2_66, wd_2_67, wd_1_1, wd_2_68⟩, by decide +kernel⟩
theorem kwX6_window : KW RX6 yX6_window (.code yX6_window cX6_window 2 (some .boolean)) 1 := ⟨⟨wd_2_73, wd_2_74, wd_1_1, wd_2_75⟩, by decide +kernel⟩
theorem kwX6_leave : KW RX6 yX6_leave (.code yX6_leave cX6_leave 2 (some .boolean)) 1 := ⟨⟨wd_2_77, wd_2_78, wd_1_1, wd_2_79⟩, by decide +kernel⟩
theorem kwX4_hasOneLineAt : KW RX4 yX4_hasOneLineAt (.code yX4_hasOneLineAt cX4_hasOneLineAt 3 (some .boolean)) 2 := ⟨⟨wd_2_99, wd_2_100, wd_1_2, wd_2_101⟩, by decide +kernel⟩
theorem kwX3_keepIfBetter : KW RX3 yX3_keepIfBetter (.code yX3_keepIfBetter cX3_keepIfBetter 5 none) 4 := ⟨⟨wd_2_105, wd_0_8, wd_1_5, wd_2_106⟩, by decide +kernel⟩
theorem kwX3_weighMovesOf : KW RX3 yX3_weighMovesOf (.code yX3_weighMovesOf cX3_weighMovesOf 10 none) 2 := ⟨⟨wd_2_96, wd_0_7, wd_1_5, wd_2_97⟩, by decide +kernel⟩
theorem kwX3_findMove : KW RX3 yX3_findMove (.code yX3_findMove cX3_findMove 3 (some .boolean)) 1 := ⟨⟨wd_2_90, wd_2_91, wd_1_5, wd_2_92⟩, by decide +kernel⟩
theorem kwX6_makeBetterMove : KW RX6 yX6_makeBetterMove (.code yX6_makeBetterMove cX6_makeBetterMove 1 (some .boolean)) 0 := ⟨⟨wd_2_86, wd_0_6, wd_1_1, wd_2_87⟩, by decide +kernel⟩
theorem kwX6_better : KW RX6 yX6_better (.code yX6_better cX6_better 3 (some .int)) 1 := ⟨⟨wd_2_81, wd_2_82, wd_1_1, wd_2_83⟩, by decide +kernel⟩
theorem kwX6_more : KW RX6 yX6_more (.code yX6_more cX6_more 1 (some .int)) 0 := ⟨⟨wd_2_109, wd_2_110, wd_1_1, wd_2_111⟩, by decide +kernel⟩
theorem kwX4_dropHost : KW RX4 yX4_dropHost (.code yX4_dropHost cX4_dropHost 6 (some .int)) 2 := ⟨⟨wd_2_118, wd_2_119, wd_1_2, wd_2_120⟩, by decide +kernel⟩
theorem kwX6_less : KW RX6 yX6_less (.code yX6_less cX6_less 4 (some .int)) 1 := ⟨⟨wd_2_113, wd_2_114, wd_1_1, wd_2_115⟩, by decide +kernel⟩
theorem kwX6_host : KW RX6 yX6_host (.code yX6_host cX6_host 2 (some .int)) 1 := ⟨⟨wd_2_124, wd_2_125, wd_1_1, wd_2_126⟩, by decide +kernel⟩
theorem kwX6_load : KW RX6 yX6_load (.code yX6_load cX6_load 2 (some .int)) 1 := ⟨⟨wd_2_129, wd_2_130, wd_1_1, wd_2_131⟩, by decide +kernel⟩
theorem kwX6_copies : KW RX6 yX6_copies (.code yX6_copies cX6_copies 2 (some .int)) 1 := ⟨⟨wd_2_133, wd_2_134, wd_1_1, wd_2_135⟩, by decide +kernel⟩
theorem kwX6_all : KW RX6 yX6_all (.code yX6_all cX6_all 1 (some .int)) 0 := ⟨⟨wd_2_137, wd_2_138, wd_1_1, wd_2_139⟩, by decide +kernel⟩
theorem kwX6_degree : KW RX6 yX6_degree (.code yX6_degree cX6_degree 2 (some .int)) 1 := ⟨⟨wd_2_141, wd_2_142, wd_1_1, wd_2_143⟩, by decide +kernel⟩
theorem kwX6_room : KW RX6 yX6_room (.code yX6_room cX6_room 1 (some .int)) 0 := ⟨⟨wd_2_145, wd_2_146, wd_1_1, wd_2_147⟩, by decide +kernel⟩
theorem kwX0_collectLines : KW RX0 yX0_collectLines (.code yX0_collectLines cX0_collectLines 2 none) 0 := ⟨⟨wd_2_158, wd_0_9, wd_1_6, wd_2_159⟩, by decide +kernel⟩
theorem kwX0_tryHost : KW RX0 yX0_tryHost (.code yX0_tryHost cX0_tryHost 10 none) 4 := ⟨⟨wd_2_169, wd_0_11, wd_1_6, wd_2_170⟩, by decide +kernel⟩
theorem kwX0_dealFrom : KW RX0 yX0_dealFrom (.code yX0_dealFrom cX0_dealFrom 6 none) 3 := ⟨⟨wd_2_163, wd_0_10, wd_1_6, wd_2_164⟩, by decide +kernel⟩
theorem kwX0_fewestCopies : KW RX0 yX0_fewestCopies (.code yX0_fewestCopies cX0_fewestCopies 2 (some .int)) 1 := ⟨⟨wd_2_153, wd_2_154, wd_1_6, wd_2_155⟩, by decide +kernel⟩
theorem kwX6_best : KW RX6 yX6_best (.code yX6_best cX6_best 1 (some .int)) 0 := ⟨⟨wd_2_149, wd_2_150, wd_1_1, wd_2_151⟩, by decide +kernel⟩
theorem kwX5_spreadAlong : KW RX5 yX5_spreadAlong (.code yX5_spreadAlong cX5_spreadAlong 5 (some .boolean)) 2 := ⟨⟨wd_2_189, wd_0_13, wd_1_7, wd_2_190⟩, by decide +kernel⟩
theorem kwX5_goOneRound : KW RX5 yX5_goOneRound (.code yX5_goOneRound cX5_goOneRound 3 (some .boolean)) 0 := ⟨⟨wd_2_181, wd_0_12, wd_1_7, wd_2_182⟩, by decide +kernel⟩
theorem kwX5_spread : KW RX5 yX5_spread (.code yX5_spread cX5_spread 2 none) 0 := ⟨⟨wd_2_176, wd_2_177, wd_1_7, wd_2_178⟩, by decide +kernel⟩
theorem kwX6_part : KW RX6 yX6_part (.code yX6_part cX6_part 2 (some .int)) 1 := ⟨⟨wd_2_172, wd_2_173, wd_1_1, wd_2_174⟩, by decide +kernel⟩
theorem kwX4_pointsWithCopies : KW RX4 yX4_pointsWithCopies (.code yX4_pointsWithCopies cX4_pointsWithCopies 3 (some .int)) 0 := ⟨⟨wd_2_201, wd_2_202, wd_1_2, wd_2_203⟩, by decide +kernel⟩
theorem kwX5_letters : KW RX5 yX5_letters (.code yX5_letters cX5_letters 2 (some .int)) 0 := ⟨⟨wd_2_197, wd_2_198, wd_1_7, wd_2_199⟩, by decide +kernel⟩
theorem kwX5_partsWithLines : KW RX5 yX5_partsWithLines (.code yX5_partsWithLines cX5_partsWithLines 3 (some .int)) 0 := ⟨⟨wd_2_205, wd_2_206, wd_1_7, wd_2_207⟩, by decide +kernel⟩
theorem kwX6_run : KW RX6 yX6_run (.code yX6_run cX6_run 2 (some .int)) 1 := ⟨⟨wd_2_193, wd_2_194, wd_1_1, wd_2_195⟩, by decide +kernel⟩
theorem kwX2_leastMasterFor : KW RX2 yX2_leastMasterFor (.code yX2_leastMasterFor cX2_leastMasterFor 4 (some .int)) 1 := ⟨⟨wd_2_221, wd_0_14, wd_1_8, wd_2_222⟩, by decide +kernel⟩
theorem kwX2_masterOf : KW RX2 yX2_masterOf (.code yX2_masterOf cX2_masterOf 4 (some .int)) 1 := ⟨⟨wd_2_213, wd_2_214, wd_1_8, wd_2_215⟩, by decide +kernel⟩
theorem kwX6_master : KW RX6 yX6_master (.code yX6_master cX6_master 2 (some .int)) 1 := ⟨⟨wd_2_209, wd_2_210, wd_1_1, wd_2_211⟩, by decide +kernel⟩
theorem kwX4_leastLoad : KW RX4 yX4_leastLoad (.code yX4_leastLoad cX4_leastLoad 3 (some .int)) 0 := ⟨⟨wd_2_230, wd_2_231, wd_1_2, wd_2_232⟩, by decide +kernel⟩
theorem kwX6_count : KW RX6 yX6_count (.code yX6_count cX6_count 2 (some .int)) 1 := ⟨⟨wd_2_225, wd_2_226, wd_1_1, wd_2_227⟩, by decide +kernel⟩
theorem kwX7_in : KS yX7_in (.code yX7_in cX7_in 3 (some .boolean)) 3 := ⟨⟨wd_3_71, wd_1_9, wd_3_72⟩, by decide +kernel⟩
theorem kwX7_isPoint : KS yX7_isPoint (.code yX7_isPoint cX7_isPoint 1 (some .boolean)) 1 := ⟨⟨wd_3_68, wd_1_9, wd_3_69⟩, by decide +kernel⟩
theorem kwX7_isLive : KW RX7 yX7_isLive (.code yX7_isLive cX7_isLive 2 (some .boolean)) 1 := ⟨⟨wd_3_119, wd_0_21, wd_1_9, wd_3_120⟩, by decide +kernel⟩
theorem kwX7_roomFor : KW RX7 yX7_roomFor (.code yX7_roomFor cX7_roomFor 2 (some .int)) 1 := ⟨⟨wd_3_79, wd_0_16, wd_1_9, wd_3_80⟩, by decide +kernel⟩
theorem kwX7_puts : KW RX7 yX7_puts (.code yX7_puts cX7_puts 4 none) 3 := ⟨⟨wd_3_95, wd_0_19, wd_1_9, wd_3_96⟩, by decide +kernel⟩
theorem kwX7_greatest : KW RX7 yX7_greatest (.code yX7_greatest cX7_greatest 3 (some .int)) 0 := ⟨⟨wd_3_87, wd_0_18, wd_1_9, wd_3_88⟩, by decide +kernel⟩
theorem kwX7_degree : KW RX7 yX7_degree (.code yX7_degree cX7_degree 4 (some .int)) 1 := ⟨⟨wd_3_90, wd_3_91, wd_1_9, wd_3_92⟩, by decide +kernel⟩
theorem kwX7_scoreOf : KW RX7 yX7_scoreOf (.code yX7_scoreOf cX7_scoreOf 8 (some .int)) 3 := ⟨⟨wd_3_83, wd_0_17, wd_1_9, wd_3_84⟩, by decide +kernel⟩
theorem kwX7_deals : KW RX7 yX7_deals (.code yX7_deals cX7_deals 7 (some .int)) 1 := ⟨⟨wd_3_75, wd_0_15, wd_1_9, wd_3_76⟩, by decide +kernel⟩
theorem kwX7_shuts : KW RX7 yX7_shuts (.code yX7_shuts cX7_shuts 2 none) 0 := ⟨⟨wd_3_99, wd_0_20, wd_1_9, wd_3_100⟩, by decide +kernel⟩
theorem kwX7_line : KW RX7 yX7_line (.code yX7_line cX7_line 4 (some .int)) 2 := ⟨⟨wd_3_64, wd_3_65, wd_1_9, wd_3_66⟩, by decide +kernel⟩
theorem kwX7_rule : KW RX7 yX7_rule (.code yX7_rule cX7_rule 2 (some .boolean)) 1 := ⟨⟨wd_3_102, wd_3_103, wd_1_9, wd_3_104⟩, by decide +kernel⟩
theorem kwX7_weights : KW RX7 yX7_weights (.code yX7_weights cX7_weights 3 (some .boolean)) 2 := ⟨⟨wd_3_106, wd_3_107, wd_1_9, wd_3_108⟩, by decide +kernel⟩
theorem kwX7_window : KW RX7 yX7_window (.code yX7_window cX7_window 2 (some .boolean)) 1 := ⟨⟨wd_3_110, wd_3_111, wd_1_9, wd_3_112⟩, by decide +kernel⟩
theorem kwX7_leave : KW RX7 yX7_leave (.code yX7_leave cX7_leave 2 (some .boolean)) 1 := ⟨⟨wd_3_114, wd_3_115, wd_1_9, wd_3_116⟩, by decide +kernel⟩
theorem kwX7_change : KW RX7 yX7_change (.code yX7_change cX7_change 4 (some .int)) 3 := ⟨⟨wd_3_135, wd_0_23, wd_1_9, wd_3_136⟩, by decide +kernel⟩
theorem kwX7_room : KW RX7 yX7_room (.code yX7_room cX7_room 1 (some .int)) 0 := ⟨⟨wd_3_130, wd_3_131, wd_1_9, wd_3_132⟩, by decide +kernel⟩
theorem kwX7_moves : KW RX7 yX7_moves (.code yX7_moves cX7_moves 12 (some .boolean)) 0 := ⟨⟨wd_3_127, wd_0_22, wd_1_9, wd_3_128⟩, by decide +kernel⟩
theorem kwX7_better : KW RX7 yX7_better (.code yX7_better cX7_better 3 (some .int)) 1 := ⟨⟨wd_3_122, wd_3_123, wd_1_9, wd_3_124⟩, by decide +kernel⟩
theorem kwX7_more : KW RX7 yX7_more (.code yX7_more cX7_more 1 (some .int)) 0 := ⟨⟨wd_3_138, wd_3_139, wd_1_9, wd_3_140⟩, by decide +kernel⟩
theorem kwX7_less : KW RX7 yX7_less (.code yX7_less cX7_less 5 (some .int)) 1 := ⟨⟨wd_3_142, wd_3_143, wd_1_9, wd_3_144⟩, by decide +kernel⟩
theorem kwX7_host : KW RX7 yX7_host (.code yX7_host cX7_host 2 (some .int)) 1 := ⟨⟨wd_3_146, wd_3_147, wd_1_9, wd_3_148⟩, by decide +kernel⟩
theorem kwX7_load : KW RX7 yX7_load (.code yX7_load cX7_load 2 (some .int)) 1 := ⟨⟨wd_3_150, wd_3_151, wd_1_9, wd_3_152⟩, by decide +kernel⟩
theorem kwX7_copies : KW RX7 yX7_copies (.code yX7_copies cX7_copies 4 (some .int)) 1 := ⟨⟨wd_3_154, wd_3_155, wd_1_9, wd_3_156⟩, by decide +kernel⟩
theorem kwX7_copiesOf : KW RX7 yX7_copiesOf (.code yX7_copiesOf cX7_copiesOf 4 (some .int)) 1 := ⟨⟨wd_3_163, wd_0_24, wd_1_9, wd_3_164⟩, by decide +kernel⟩
theorem kwX7_all : KW RX7 yX7_all (.code yX7_all cX7_all 3 (some .int)) 0 := ⟨⟨wd_3_158, wd_3_159, wd_1_9, wd_3_160⟩, by decide +kernel⟩
theorem kwX7_dealt : KW RX7 yX7_dealt (.code yX7_dealt cX7_dealt 6 (some .int)) 1 := ⟨⟨wd_3_173, wd_0_25, wd_1_9, wd_3_174⟩, by decide +kernel⟩
theorem kwX7_best : KW RX7 yX7_best (.code yX7_best cX7_best 5 (some .int)) 0 := ⟨⟨wd_3_168, wd_3_169, wd_1_9, wd_3_170⟩, by decide +kernel⟩
theorem kwX7_runs : KW RX7 yX7_runs (.code yX7_runs cX7_runs 4 (some .int)) 0 := ⟨⟨wd_3_181, wd_0_26, wd_1_9, wd_3_182⟩, by decide +kernel⟩
theorem kwX7_part : KW RX7 yX7_part (.code yX7_part cX7_part 2 (some .int)) 1 := ⟨⟨wd_3_176, wd_3_177, wd_1_9, wd_3_178⟩, by decide +kernel⟩
theorem kwX7_run : KW RX7 yX7_run (.code yX7_run cX7_run 7 (some .int)) 1 := ⟨⟨wd_3_184, wd_3_185, wd_1_9, wd_3_186⟩, by decide +kernel⟩
theorem kwX7_master : KW RX7 yX7_master (.code yX7_master cX7_master 5 (some .int)) 1 := ⟨⟨wd_3_188, wd_3_189, wd_1_9, wd_3_190⟩, by decide +kernel⟩
theorem kwX7_count : KW RX7 yX7_count (.code yX7_count cX7_count 4 (some .int)) 1 := ⟨⟨wd_3_192, wd_3_193, wd_1_9, wd_3_194⟩, by decide +kernel⟩
