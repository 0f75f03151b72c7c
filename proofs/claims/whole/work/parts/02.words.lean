theorem kS_X5_begin : Cond.selects RX5 yX5_begin yX5_begin ∈ gs_B := gs_in (i := 0) (by decide +kernel) (by decide +kernel)
theorem kS_X5_takes : Cond.selects RX5 yX5_takes yX5_takes ∈ gs_B := gs_in (i := 1) (by decide +kernel) (by decide +kernel)
theorem kS_X5_takesLength : Cond.selects RX5 yX5_takesLength yX5_takesLength ∈ gs_B := gs_in (i := 2) (by decide +kernel) (by decide +kernel)
theorem kS_X5_takesEnd : Cond.selects RX5 yX5_takesEnd yX5_takesEnd ∈ gs_B := gs_in (i := 3) (by decide +kernel) (by decide +kernel)
theorem kS_X5_canTell : Cond.selects RX5 yX5_canTell yX5_canTell ∈ gs_B := gs_in (i := 4) (by decide +kernel) (by decide +kernel)
theorem kS_X5_canFollow : Cond.selects RX5 yX5_canFollow yX5_canFollow ∈ gs_B := gs_in (i := 5) (by decide +kernel) (by decide +kernel)
theorem kS_X5_takesBehindRod : Cond.selects RX5 yX5_takesBehindRod yX5_takesBehindRod ∈ gs_B := gs_in (i := 6) (by decide +kernel) (by decide +kernel)
theorem kS_X5_takesKind : Cond.selects RX5 yX5_takesKind yX5_takesKind ∈ gs_B := gs_in (i := 7) (by decide +kernel) (by decide +kernel)
theorem kS_X5_takesSize : Cond.selects RX5 yX5_takesSize yX5_takesSize ∈ gs_B := gs_in (i := 8) (by decide +kernel) (by decide +kernel)
theorem kS_X5_takesBehindThing : Cond.selects RX5 yX5_takesBehindThing yX5_takesBehindThing ∈ gs_B := gs_in (i := 9) (by decide +kernel) (by decide +kernel)
theorem kS_X8_isRod : Cond.selects RX8 yX8_isRod yX8_isRod ∈ gs_B := gs_in (i := 10) (by decide +kernel) (by decide +kernel)
theorem kS_X6_hangRod : Cond.selects RX6 yX6_hangRod yX6_hangRod ∈ gs_B := gs_in (i := 11) (by decide +kernel) (by decide +kernel)
theorem kS_X6_loadOf : Cond.selects RX6 yX6_loadOf yX6_loadOf ∈ gs_B := gs_in (i := 12) (by decide +kernel) (by decide +kernel)
theorem kS_X8_aboutRod : Cond.selects RX8 yX8_aboutRod yX8_aboutRod ∈ gs_B := gs_in (i := 13) (by decide +kernel) (by decide +kernel)
theorem kS_X8_isThing : Cond.selects RX8 yX8_isThing yX8_isThing ∈ gs_B := gs_in (i := 14) (by decide +kernel) (by decide +kernel)
theorem kS_X8_aboutThing : Cond.selects RX8 yX8_aboutThing yX8_aboutThing ∈ gs_B := gs_in (i := 15) (by decide +kernel) (by decide +kernel)
theorem kS_X8_hasMobile : Cond.selects RX8 yX8_hasMobile yX8_hasMobile ∈ gs_B := gs_in (i := 16) (by decide +kernel) (by decide +kernel)
theorem kS_X8_levelNow : Cond.selects RX8 yX8_levelNow yX8_levelNow ∈ gs_B := gs_in (i := 17) (by decide +kernel) (by decide +kernel)
theorem kS_X2_copyLaid : Cond.selects RX2 yX2_copyLaid yX2_copyLaid ∈ gs_B := gs_in (i := 18) (by decide +kernel) (by decide +kernel)
theorem kS_X2_levelIfSwapped : Cond.selects RX2 yX2_levelIfSwapped yX2_levelIfSwapped ∈ gs_B := gs_in (i := 19) (by decide +kernel) (by decide +kernel)
theorem kS_X2_beginOrders : Cond.selects RX2 yX2_beginOrders yX2_beginOrders ∈ gs_B := gs_in (i := 20) (by decide +kernel) (by decide +kernel)
theorem kS_X2_layInOrder : Cond.selects RX2 yX2_layInOrder yX2_layInOrder ∈ gs_B := gs_in (i := 21) (by decide +kernel) (by decide +kernel)
theorem kS_X2_keepIfBetter : Cond.selects RX2 yX2_keepIfBetter yX2_keepIfBetter ∈ gs_B := gs_in (i := 22) (by decide +kernel) (by decide +kernel)
theorem kS_X2_nextOrder : Cond.selects RX2 yX2_nextOrder yX2_nextOrder ∈ gs_B := gs_in (i := 23) (by decide +kernel) (by decide +kernel)
theorem kS_X2_swapAt : Cond.selects RX2 yX2_swapAt yX2_swapAt ∈ gs_B := gs_in (i := 24) (by decide +kernel) (by decide +kernel)
theorem kS_X0_draw : Cond.selects RX0 yX0_draw yX0_draw ∈ gs_B := gs_in (i := 25) (by decide +kernel) (by decide +kernel)
theorem kS_X8_countOf : Cond.selects RX8 yX8_countOf yX8_countOf ∈ gs_B := gs_in (i := 26) (by decide +kernel) (by decide +kernel)
theorem kS_X9_faultOf : Cond.selects RX9 yX9_faultOf yX9_faultOf ∈ gs_B := gs_in (i := 27) (by decide +kernel) (by decide +kernel)
theorem kS_X9_isRodLetter : Cond.selects RX9 yX9_isRodLetter yX9_isRodLetter ∈ gs_B := gs_in (i := 28) (by decide +kernel) (by decide +kernel)
theorem kS_X9_isHanging : Cond.selects RX9 yX9_isHanging yX9_isHanging ∈ gs_B := gs_in (i := 29) (by decide +kernel) (by decide +kernel)
theorem kS_X9_isThingLetter : Cond.selects RX9 yX9_isThingLetter yX9_isThingLetter ∈ gs_B := gs_in (i := 30) (by decide +kernel) (by decide +kernel)
theorem kS_X9_isRod : Cond.selects RX9 yX9_isRod yX9_isRod ∈ gs_B := gs_in (i := 31) (by decide +kernel) (by decide +kernel)
theorem kS_X9_tellRod : Cond.selects RX9 yX9_tellRod yX9_tellRod ∈ gs_B := gs_in (i := 32) (by decide +kernel) (by decide +kernel)
theorem kS_X9_begin : Cond.selects RX9 yX9_begin yX9_begin ∈ gs_B := gs_in (i := 33) (by decide +kernel) (by decide +kernel)
theorem kS_X9_layTilts : Cond.selects RX9 yX9_layTilts yX9_layTilts ∈ gs_B := gs_in (i := 34) (by decide +kernel) (by decide +kernel)
theorem kS_X9_hungThen : Cond.selects RX9 yX9_hungThen yX9_hungThen ∈ gs_B := gs_in (i := 35) (by decide +kernel) (by decide +kernel)
theorem kS_X9_thingThen : Cond.selects RX9 yX9_thingThen yX9_thingThen ∈ gs_B := gs_in (i := 36) (by decide +kernel) (by decide +kernel)
theorem kS_X9_hangsOf : Cond.selects RX9 yX9_hangsOf yX9_hangsOf ∈ gs_B := gs_in (i := 37) (by decide +kernel) (by decide +kernel)
theorem kS_X9_there : Cond.selects RX9 yX9_there yX9_there ∈ gs_B := gs_in (i := 38) (by decide +kernel) (by decide +kernel)
theorem kS_X9_hookOf : Cond.selects RX9 yX9_hookOf yX9_hookOf ∈ gs_B := gs_in (i := 39) (by decide +kernel) (by decide +kernel)
theorem kS_X9_addOf : Cond.selects RX9 yX9_addOf yX9_addOf ∈ gs_B := gs_in (i := 40) (by decide +kernel) (by decide +kernel)
theorem kS_X9_isThing : Cond.selects RX9 yX9_isThing yX9_isThing ∈ gs_B := gs_in (i := 41) (by decide +kernel) (by decide +kernel)
theorem kS_X9_tellThing : Cond.selects RX9 yX9_tellThing yX9_tellThing ∈ gs_B := gs_in (i := 42) (by decide +kernel) (by decide +kernel)
theorem kS_X9_armOf : Cond.selects RX9 yX9_armOf yX9_armOf ∈ gs_B := gs_in (i := 43) (by decide +kernel) (by decide +kernel)
theorem kS_X9_sizesOf : Cond.selects RX9 yX9_sizesOf yX9_sizesOf ∈ gs_B := gs_in (i := 44) (by decide +kernel) (by decide +kernel)
theorem kS_X9_howIf : Cond.selects RX9 yX9_howIf yX9_howIf ∈ gs_B := gs_in (i := 45) (by decide +kernel) (by decide +kernel)
theorem kS_X9_lacks : Cond.selects RX9 yX9_lacks yX9_lacks ∈ gs_B := gs_in (i := 46) (by decide +kernel) (by decide +kernel)
theorem kS_X9_isCut : Cond.selects RX9 yX9_isCut yX9_isCut ∈ gs_B := gs_in (i := 47) (by decide +kernel) (by decide +kernel)
theorem kS_X9_levelNow : Cond.selects RX9 yX9_levelNow yX9_levelNow ∈ gs_B := gs_in (i := 48) (by decide +kernel) (by decide +kernel)
theorem kS_X9_levelThen : Cond.selects RX9 yX9_levelThen yX9_levelThen ∈ gs_B := gs_in (i := 49) (by decide +kernel) (by decide +kernel)
theorem kS_X9_bestOf : Cond.selects RX9 yX9_bestOf yX9_bestOf ∈ gs_B := gs_in (i := 50) (by decide +kernel) (by decide +kernel)
theorem kS_X9_layOf : Cond.selects RX9 yX9_layOf yX9_layOf ∈ gs_B := gs_in (i := 51) (by decide +kernel) (by decide +kernel)
theorem kS_X9_looseMany : Cond.selects RX9 yX9_looseMany yX9_looseMany ∈ gs_B := gs_in (i := 52) (by decide +kernel) (by decide +kernel)
theorem kS_X9_layOrder : Cond.selects RX9 yX9_layOrder yX9_layOrder ∈ gs_B := gs_in (i := 53) (by decide +kernel) (by decide +kernel)
theorem kS_X9_tiltsAll : Cond.selects RX9 yX9_tiltsAll yX9_tiltsAll ∈ gs_B := gs_in (i := 54) (by decide +kernel) (by decide +kernel)
theorem kS_X9_evenOf : Cond.selects RX9 yX9_evenOf yX9_evenOf ∈ gs_B := gs_in (i := 55) (by decide +kernel) (by decide +kernel)
theorem kS_X9_oddsOf : Cond.selects RX9 yX9_oddsOf yX9_oddsOf ∈ gs_B := gs_in (i := 56) (by decide +kernel) (by decide +kernel)
theorem kS_X9_trialOf : Cond.selects RX9 yX9_trialOf yX9_trialOf ∈ gs_B := gs_in (i := 57) (by decide +kernel) (by decide +kernel)
theorem kS_X9_draw : Cond.selects RX9 yX9_draw yX9_draw ∈ gs_B := gs_in (i := 58) (by decide +kernel) (by decide +kernel)
theorem kS_X9_countOf : Cond.selects RX9 yX9_countOf yX9_countOf ∈ gs_B := gs_in (i := 59) (by decide +kernel) (by decide +kernel)
theorem kS_X9_thingsThere : Cond.selects RX9 yX9_thingsThere yX9_thingsThere ∈ gs_B := gs_in (i := 60) (by decide +kernel) (by decide +kernel)
theorem kS_X9_weighsAll : Cond.selects RX9 yX9_weighsAll yX9_weighsAll ∈ gs_B := gs_in (i := 61) (by decide +kernel) (by decide +kernel)
theorem kS_X9_say : Cond.selects RX9 yX9_say yX9_say ∈ gs_B := gs_in (i := 62) (by decide +kernel) (by decide +kernel)
theorem kN_L : Cond.initialized RL ∈ gs_B := gs_in (i := 63) (by decide +kernel) (by decide +kernel)
theorem kN_X8 : Cond.initialized RX8 ∈ gs_B := gs_in (i := 64) (by decide +kernel) (by decide +kernel)
theorem kN_X4 : Cond.initialized RX4 ∈ gs_B := gs_in (i := 65) (by decide +kernel) (by decide +kernel)
theorem kN_X5 : Cond.initialized RX5 ∈ gs_B := gs_in (i := 66) (by decide +kernel) (by decide +kernel)
theorem kN_X3 : Cond.initialized RX3 ∈ gs_B := gs_in (i := 67) (by decide +kernel) (by decide +kernel)
theorem kN_X7 : Cond.initialized RX7 ∈ gs_B := gs_in (i := 68) (by decide +kernel) (by decide +kernel)
theorem kN_X6 : Cond.initialized RX6 ∈ gs_B := gs_in (i := 69) (by decide +kernel) (by decide +kernel)
theorem kN_X2 : Cond.initialized RX2 ∈ gs_B := gs_in (i := 70) (by decide +kernel) (by decide +kernel)
theorem kN_X0 : Cond.initialized RX0 ∈ gs_B := gs_in (i := 71) (by decide +kernel) (by decide +kernel)
theorem kN_X9 : Cond.initialized RX9 ∈ gs_B := gs_in (i := 72) (by decide +kernel) (by decide +kernel)
theorem kN_J9 : Cond.initialized RJ9 ∈ gs_B := gs_in (i := 73) (by decide +kernel) (by decide +kernel)
theorem kN_J0 : Cond.initialized RJ0 ∈ gs_B := gs_in (i := 74) (by decide +kernel) (by decide +kernel)
theorem kN_J1 : Cond.initialized RJ1 ∈ gs_B := gs_in (i := 75) (by decide +kernel) (by decide +kernel)
theorem kN_J2 : Cond.initialized RJ2 ∈ gs_B := gs_in (i := 76) (by decide +kernel) (by decide +kernel)
theorem kN_J3 : Cond.initialized RJ3 ∈ gs_B := gs_in (i := 77) (by decide +kernel) (by decide +kernel)
theorem kN_J11 : Cond.initialized RJ11 ∈ gs_B := gs_in (i := 78) (by decide +kernel) (by decide +kernel)
theorem kN_X1 : Cond.initialized RX1 ∈ gs_B := gs_in (i := 79) (by decide +kernel) (by decide +kernel)
theorem kN_J6 : Cond.initialized RJ6 ∈ gs_B := gs_in (i := 80) (by decide +kernel) (by decide +kernel)
theorem kM_L_9 : Cond.methodLink RL 9 yX8_init ∈ gs_B := gs_in (i := 83) (by decide +kernel) (by decide +kernel)
theorem kI_X8_init : Cond.instanceMethod yX8_init ∈ gs_B := gs_in (i := 84) (by decide +kernel) (by decide +kernel)
set_option maxRecDepth 40000 in
theorem kC_X8_init : Cond.code yX8_init cX8_init 1 none ∈ gs_B := gs_in (i := 85) (rfl) (rfl)
theorem kI_X4_init : Cond.instanceMethod yX4_init ∈ gs_B := gs_in (i := 92) (by decide +kernel) (by decide +kernel)
set_option maxRecDepth 40000 in
theorem kC_X4_init : Cond.code yX4_init cX4_init 1 none ∈ gs_B := gs_in (i := 93) (rfl) (rfl)
theorem kF_X4_9 : Cond.fieldLink RX4 9 RX4 "codes" "[I" ∈ gs_B := gs_in (i := 95) (by decide +kernel) (by decide +kernel)
theorem kF_X5_37 : Cond.fieldLink RX5 37 RX4 "codes" "[I" ∈ gs_B := gs_in (i := 96) (by decide +kernel) (by decide +kernel)
theorem kF_X8_58 : Cond.fieldLink RX8 58 RX4 "codes" "[I" ∈ gs_B := gs_in (i := 97) (by decide +kernel) (by decide +kernel)
theorem kF_X5_31 : Cond.fieldLink RX5 31 RX4 "length" "I" ∈ gs_B := gs_in (i := 98) (by decide +kernel) (by decide +kernel)
theorem kF_X8_54 : Cond.fieldLink RX8 54 RX4 "length" "I" ∈ gs_B := gs_in (i := 99) (by decide +kernel) (by decide +kernel)
theorem kI_X5_init : Cond.instanceMethod yX5_init ∈ gs_B := gs_in (i := 109) (by decide +kernel) (by decide +kernel)
set_option maxRecDepth 40000 in
theorem kC_X5_init : Cond.code yX5_init cX5_init 1 none ∈ gs_B := gs_in (i := 110) (rfl) (rfl)
theorem kF_X5_9 : Cond.fieldLink RX5 9 RX5 "lengths" "[I" ∈ gs_B := gs_in (i := 112) (by decide +kernel) (by decide +kernel)
theorem kF_X3_59 : Cond.fieldLink RX3 59 RX5 "lengths" "[I" ∈ gs_B := gs_in (i := 113) (by decide +kernel) (by decide +kernel)
theorem kF_X5_15 : Cond.fieldLink RX5 15 RX5 "ends" "[I" ∈ gs_B := gs_in (i := 114) (by decide +kernel) (by decide +kernel)
theorem kF_X3_60 : Cond.fieldLink RX3 60 RX5 "ends" "[I" ∈ gs_B := gs_in (i := 115) (by decide +kernel) (by decide +kernel)
theorem kF_X5_18 : Cond.fieldLink RX5 18 RX5 "kinds" "[I" ∈ gs_B := gs_in (i := 116) (by decide +kernel) (by decide +kernel)
theorem kF_X3_61 : Cond.fieldLink RX3 61 RX5 "kinds" "[I" ∈ gs_B := gs_in (i := 117) (by decide +kernel) (by decide +kernel)
theorem kF_X5_21 : Cond.fieldLink RX5 21 RX5 "sizes" "[I" ∈ gs_B := gs_in (i := 118) (by decide +kernel) (by decide +kernel)
theorem kF_X3_62 : Cond.fieldLink RX3 62 RX5 "sizes" "[I" ∈ gs_B := gs_in (i := 119) (by decide +kernel) (by decide +kernel)
theorem kF_X3_41 : Cond.fieldLink RX3 41 RX5 "lastTold" "I" ∈ gs_B := gs_in (i := 120) (by decide +kernel) (by decide +kernel)
theorem kF_X5_56 : Cond.fieldLink RX5 56 RX5 "lastTold" "I" ∈ gs_B := gs_in (i := 121) (by decide +kernel) (by decide +kernel)
theorem kF_X3_50 : Cond.fieldLink RX3 50 RX5 "places" "I" ∈ gs_B := gs_in (i := 122) (by decide +kernel) (by decide +kernel)
theorem kF_X5_50 : Cond.fieldLink RX5 50 RX5 "places" "I" ∈ gs_B := gs_in (i := 123) (by decide +kernel) (by decide +kernel)
theorem kF_X5_24 : Cond.fieldLink RX5 24 RX5 "told" "[Z" ∈ gs_B := gs_in (i := 124) (by decide +kernel) (by decide +kernel)
theorem kF_X5_44 : Cond.fieldLink RX5 44 RX5 "next" "I" ∈ gs_B := gs_in (i := 125) (by decide +kernel) (by decide +kernel)
theorem kF_X5_53 : Cond.fieldLink RX5 53 RX5 "arm" "I" ∈ gs_B := gs_in (i := 126) (by decide +kernel) (by decide +kernel)
theorem kF_X5_47 : Cond.fieldLink RX5 47 RX5 "thing" "I" ∈ gs_B := gs_in (i := 127) (by decide +kernel) (by decide +kernel)
theorem kI_X3_init : Cond.instanceMethod yX3_init ∈ gs_B := gs_in (i := 153) (by decide +kernel) (by decide +kernel)
set_option maxRecDepth 40000 in
theorem kC_X3_init : Cond.code yX3_init cX3_init 1 none ∈ gs_B := gs_in (i := 154) (rfl) (rfl)
theorem kI_X7_init : Cond.instanceMethod yX7_init ∈ gs_B := gs_in (i := 159) (by decide +kernel) (by decide +kernel)
set_option maxRecDepth 40000 in
theorem kC_X7_init : Cond.code yX7_init cX7_init 1 none ∈ gs_B := gs_in (i := 160) (rfl) (rfl)
theorem kF_X7_24 : Cond.fieldLink RX7 24 RX7 "entries" "I" ∈ gs_B := gs_in (i := 162) (by decide +kernel) (by decide +kernel)
theorem kF_X3_67 : Cond.fieldLink RX3 67 RX7 "entries" "I" ∈ gs_B := gs_in (i := 163) (by decide +kernel) (by decide +kernel)
theorem kF_X8_190 : Cond.fieldLink RX8 190 RX7 "entries" "I" ∈ gs_B := gs_in (i := 164) (by decide +kernel) (by decide +kernel)
theorem kF_X7_9 : Cond.fieldLink RX7 9 RX7 "things" "[I" ∈ gs_B := gs_in (i := 165) (by decide +kernel) (by decide +kernel)
theorem kF_X7_15 : Cond.fieldLink RX7 15 RX7 "rods" "[I" ∈ gs_B := gs_in (i := 166) (by decide +kernel) (by decide +kernel)
theorem kF_X7_18 : Cond.fieldLink RX7 18 RX7 "beads" "[I" ∈ gs_B := gs_in (i := 167) (by decide +kernel) (by decide +kernel)
theorem kF_X7_21 : Cond.fieldLink RX7 21 RX7 "hows" "[I" ∈ gs_B := gs_in (i := 168) (by decide +kernel) (by decide +kernel)
theorem kF_X3_47 : Cond.fieldLink RX3 47 RX3 "rods" "I" ∈ gs_B := gs_in (i := 180) (by decide +kernel) (by decide +kernel)
theorem kF_X6_60 : Cond.fieldLink RX6 60 RX3 "rods" "I" ∈ gs_B := gs_in (i := 181) (by decide +kernel) (by decide +kernel)
theorem kF_X8_223 : Cond.fieldLink RX8 223 RX3 "rods" "I" ∈ gs_B := gs_in (i := 182) (by decide +kernel) (by decide +kernel)
theorem kF_X3_53 : Cond.fieldLink RX3 53 RX3 "things" "I" ∈ gs_B := gs_in (i := 183) (by decide +kernel) (by decide +kernel)
theorem kF_X2_42 : Cond.fieldLink RX2 42 RX3 "things" "I" ∈ gs_B := gs_in (i := 184) (by decide +kernel) (by decide +kernel)
theorem kF_X6_42 : Cond.fieldLink RX6 42 RX3 "things" "I" ∈ gs_B := gs_in (i := 185) (by decide +kernel) (by decide +kernel)
theorem kF_X0_43 : Cond.fieldLink RX0 43 RX3 "things" "I" ∈ gs_B := gs_in (i := 186) (by decide +kernel) (by decide +kernel)
theorem kF_X8_81 : Cond.fieldLink RX8 81 RX3 "things" "I" ∈ gs_B := gs_in (i := 187) (by decide +kernel) (by decide +kernel)
theorem kF_X6_25 : Cond.fieldLink RX6 25 RX3 "hours" "I" ∈ gs_B := gs_in (i := 188) (by decide +kernel) (by decide +kernel)
theorem kF_X0_22 : Cond.fieldLink RX0 22 RX3 "hours" "I" ∈ gs_B := gs_in (i := 189) (by decide +kernel) (by decide +kernel)
theorem kF_X3_56 : Cond.fieldLink RX3 56 RX3 "hours" "I" ∈ gs_B := gs_in (i := 190) (by decide +kernel) (by decide +kernel)
theorem kF_X7_56 : Cond.fieldLink RX7 56 RX3 "hours" "I" ∈ gs_B := gs_in (i := 191) (by decide +kernel) (by decide +kernel)
theorem kF_X2_106 : Cond.fieldLink RX2 106 RX3 "hours" "I" ∈ gs_B := gs_in (i := 192) (by decide +kernel) (by decide +kernel)
theorem kF_X8_117 : Cond.fieldLink RX8 117 RX3 "hours" "I" ∈ gs_B := gs_in (i := 193) (by decide +kernel) (by decide +kernel)
theorem kF_X3_9 : Cond.fieldLink RX3 9 RX3 "lengths" "[I" ∈ gs_B := gs_in (i := 194) (by decide +kernel) (by decide +kernel)
theorem kF_X7_48 : Cond.fieldLink RX7 48 RX3 "lengths" "[I" ∈ gs_B := gs_in (i := 195) (by decide +kernel) (by decide +kernel)
theorem kF_X6_77 : Cond.fieldLink RX6 77 RX3 "lengths" "[I" ∈ gs_B := gs_in (i := 196) (by decide +kernel) (by decide +kernel)
theorem kF_X8_135 : Cond.fieldLink RX8 135 RX3 "lengths" "[I" ∈ gs_B := gs_in (i := 197) (by decide +kernel) (by decide +kernel)
theorem kF_X3_15 : Cond.fieldLink RX3 15 RX3 "ends" "[I" ∈ gs_B := gs_in (i := 198) (by decide +kernel) (by decide +kernel)
theorem kF_X6_63 : Cond.fieldLink RX6 63 RX3 "ends" "[I" ∈ gs_B := gs_in (i := 199) (by decide +kernel) (by decide +kernel)
theorem kF_X3_18 : Cond.fieldLink RX3 18 RX3 "laid" "[I" ∈ gs_B := gs_in (i := 200) (by decide +kernel) (by decide +kernel)
theorem kF_X6_35 : Cond.fieldLink RX6 35 RX3 "laid" "[I" ∈ gs_B := gs_in (i := 201) (by decide +kernel) (by decide +kernel)
theorem kF_X0_32 : Cond.fieldLink RX0 32 RX3 "laid" "[I" ∈ gs_B := gs_in (i := 202) (by decide +kernel) (by decide +kernel)
theorem kF_X2_113 : Cond.fieldLink RX2 113 RX3 "laid" "[I" ∈ gs_B := gs_in (i := 203) (by decide +kernel) (by decide +kernel)
theorem kF_X8_124 : Cond.fieldLink RX8 124 RX3 "laid" "[I" ∈ gs_B := gs_in (i := 204) (by decide +kernel) (by decide +kernel)
theorem kF_X3_21 : Cond.fieldLink RX3 21 RX3 "kinds" "[I" ∈ gs_B := gs_in (i := 205) (by decide +kernel) (by decide +kernel)
theorem kF_X6_45 : Cond.fieldLink RX6 45 RX3 "kinds" "[I" ∈ gs_B := gs_in (i := 206) (by decide +kernel) (by decide +kernel)
theorem kF_X7_53 : Cond.fieldLink RX7 53 RX3 "kinds" "[I" ∈ gs_B := gs_in (i := 207) (by decide +kernel) (by decide +kernel)
theorem kF_X8_107 : Cond.fieldLink RX8 107 RX3 "kinds" "[I" ∈ gs_B := gs_in (i := 208) (by decide +kernel) (by decide +kernel)
theorem kF_X3_24 : Cond.fieldLink RX3 24 RX3 "sizes" "[I" ∈ gs_B := gs_in (i := 209) (by decide +kernel) (by decide +kernel)
theorem kF_X6_48 : Cond.fieldLink RX6 48 RX3 "sizes" "[I" ∈ gs_B := gs_in (i := 210) (by decide +kernel) (by decide +kernel)
theorem kF_X8_151 : Cond.fieldLink RX8 151 RX3 "sizes" "[I" ∈ gs_B := gs_in (i := 211) (by decide +kernel) (by decide +kernel)
theorem kF_X3_27 : Cond.fieldLink RX3 27 RX3 "thingCut" "[Z" ∈ gs_B := gs_in (i := 212) (by decide +kernel) (by decide +kernel)
theorem kF_X2_52 : Cond.fieldLink RX2 52 RX3 "thingCut" "[Z" ∈ gs_B := gs_in (i := 213) (by decide +kernel) (by decide +kernel)
theorem kF_X6_57 : Cond.fieldLink RX6 57 RX3 "thingCut" "[Z" ∈ gs_B := gs_in (i := 214) (by decide +kernel) (by decide +kernel)
theorem kF_X0_50 : Cond.fieldLink RX0 50 RX3 "thingCut" "[Z" ∈ gs_B := gs_in (i := 215) (by decide +kernel) (by decide +kernel)
theorem kF_X8_120 : Cond.fieldLink RX8 120 RX3 "thingCut" "[Z" ∈ gs_B := gs_in (i := 216) (by decide +kernel) (by decide +kernel)
theorem kF_X3_31 : Cond.fieldLink RX3 31 RX3 "rodCut" "[Z" ∈ gs_B := gs_in (i := 217) (by decide +kernel) (by decide +kernel)
theorem kF_X6_66 : Cond.fieldLink RX6 66 RX3 "rodCut" "[Z" ∈ gs_B := gs_in (i := 218) (by decide +kernel) (by decide +kernel)
theorem kF_X8_138 : Cond.fieldLink RX8 138 RX3 "rodCut" "[Z" ∈ gs_B := gs_in (i := 219) (by decide +kernel) (by decide +kernel)
theorem kF_X3_37 : Cond.fieldLink RX3 37 RX3 "seen" "LHungMobile$Seen;" ∈ gs_B := gs_in (i := 220) (by decide +kernel) (by decide +kernel)
theorem kF_X8_186 : Cond.fieldLink RX8 186 RX3 "seen" "LHungMobile$Seen;" ∈ gs_B := gs_in (i := 221) (by decide +kernel) (by decide +kernel)
theorem kI_X6_init : Cond.instanceMethod yX6_init ∈ gs_B := gs_in (i := 248) (by decide +kernel) (by decide +kernel)
set_option maxRecDepth 40000 in
theorem kC_X6_init : Cond.code yX6_init cX6_init 1 none ∈ gs_B := gs_in (i := 249) (rfl) (rfl)
theorem kF_X6_9 : Cond.fieldLink RX6 9 RX6 "loads" "[I" ∈ gs_B := gs_in (i := 251) (by decide +kernel) (by decide +kernel)
theorem kF_X8_240 : Cond.fieldLink RX8 240 RX6 "loads" "[I" ∈ gs_B := gs_in (i := 252) (by decide +kernel) (by decide +kernel)
theorem kF_X6_15 : Cond.fieldLink RX6 15 RX6 "tilts" "[I" ∈ gs_B := gs_in (i := 253) (by decide +kernel) (by decide +kernel)
theorem kF_X0_66 : Cond.fieldLink RX0 66 RX6 "tilts" "[I" ∈ gs_B := gs_in (i := 254) (by decide +kernel) (by decide +kernel)
theorem kF_X8_243 : Cond.fieldLink RX8 243 RX6 "tilts" "[I" ∈ gs_B := gs_in (i := 255) (by decide +kernel) (by decide +kernel)
theorem kF_X6_18 : Cond.fieldLink RX6 18 RX6 "there" "[Z" ∈ gs_B := gs_in (i := 256) (by decide +kernel) (by decide +kernel)
theorem kF_X8_246 : Cond.fieldLink RX8 246 RX6 "there" "[Z" ∈ gs_B := gs_in (i := 257) (by decide +kernel) (by decide +kernel)
theorem kF_X6_22 : Cond.fieldLink RX6 22 RX6 "weights" "[I" ∈ gs_B := gs_in (i := 258) (by decide +kernel) (by decide +kernel)
theorem kI_X2_init : Cond.instanceMethod yX2_init ∈ gs_B := gs_in (i := 271) (by decide +kernel) (by decide +kernel)
set_option maxRecDepth 40000 in
theorem kC_X2_init : Cond.code yX2_init cX2_init 1 none ∈ gs_B := gs_in (i := 272) (rfl) (rfl)
theorem kF_X2_67 : Cond.fieldLink RX2 67 RX2 "mostLevel" "I" ∈ gs_B := gs_in (i := 276) (by decide +kernel) (by decide +kernel)
theorem kF_X8_166 : Cond.fieldLink RX8 166 RX2 "mostLevel" "I" ∈ gs_B := gs_in (i := 277) (by decide +kernel) (by decide +kernel)
theorem kF_X2_86 : Cond.fieldLink RX2 86 RX2 "leastTilt" "I" ∈ gs_B := gs_in (i := 278) (by decide +kernel) (by decide +kernel)
theorem kF_X8_169 : Cond.fieldLink RX8 169 RX2 "leastTilt" "I" ∈ gs_B := gs_in (i := 279) (by decide +kernel) (by decide +kernel)
theorem kF_X2_9 : Cond.fieldLink RX2 9 RX2 "bestLaid" "[I" ∈ gs_B := gs_in (i := 280) (by decide +kernel) (by decide +kernel)
theorem kF_X8_163 : Cond.fieldLink RX8 163 RX2 "bestLaid" "[I" ∈ gs_B := gs_in (i := 281) (by decide +kernel) (by decide +kernel)
theorem kF_X2_100 : Cond.fieldLink RX2 100 RX2 "oddsAbove" "I" ∈ gs_B := gs_in (i := 282) (by decide +kernel) (by decide +kernel)
theorem kF_X8_178 : Cond.fieldLink RX8 178 RX2 "oddsAbove" "I" ∈ gs_B := gs_in (i := 283) (by decide +kernel) (by decide +kernel)
theorem kF_X2_103 : Cond.fieldLink RX2 103 RX2 "oddsBelow" "I" ∈ gs_B := gs_in (i := 284) (by decide +kernel) (by decide +kernel)
theorem kF_X8_181 : Cond.fieldLink RX8 181 RX2 "oddsBelow" "I" ∈ gs_B := gs_in (i := 285) (by decide +kernel) (by decide +kernel)
theorem kF_X2_18 : Cond.fieldLink RX2 18 RX2 "scale" "LHungMobile$Scale;" ∈ gs_B := gs_in (i := 286) (by decide +kernel) (by decide +kernel)
theorem kF_X2_22 : Cond.fieldLink RX2 22 RX2 "laid" "[I" ∈ gs_B := gs_in (i := 287) (by decide +kernel) (by decide +kernel)
theorem kF_X2_25 : Cond.fieldLink RX2 25 RX2 "places" "[I" ∈ gs_B := gs_in (i := 288) (by decide +kernel) (by decide +kernel)
theorem kF_X2_28 : Cond.fieldLink RX2 28 RX2 "order" "[I" ∈ gs_B := gs_in (i := 289) (by decide +kernel) (by decide +kernel)
theorem kF_X2_89 : Cond.fieldLink RX2 89 RX2 "uncut" "I" ∈ gs_B := gs_in (i := 290) (by decide +kernel) (by decide +kernel)
theorem kF_X2_70 : Cond.fieldLink RX2 70 RX2 "orders" "I" ∈ gs_B := gs_in (i := 291) (by decide +kernel) (by decide +kernel)
theorem kI_X0_init : Cond.instanceMethod yX0_init ∈ gs_B := gs_in (i := 318) (by decide +kernel) (by decide +kernel)
set_option maxRecDepth 40000 in
theorem kC_X0_init : Cond.code yX0_init cX0_init 1 none ∈ gs_B := gs_in (i := 319) (rfl) (rfl)
theorem kF_X0_40 : Cond.fieldLink RX0 40 RX0 "level" "I" ∈ gs_B := gs_in (i := 323) (by decide +kernel) (by decide +kernel)
theorem kF_X8_205 : Cond.fieldLink RX8 205 RX0 "level" "I" ∈ gs_B := gs_in (i := 324) (by decide +kernel) (by decide +kernel)
theorem kF_X0_69 : Cond.fieldLink RX0 69 RX0 "tilt" "I" ∈ gs_B := gs_in (i := 325) (by decide +kernel) (by decide +kernel)
theorem kF_X8_208 : Cond.fieldLink RX8 208 RX0 "tilt" "I" ∈ gs_B := gs_in (i := 326) (by decide +kernel) (by decide +kernel)
theorem kF_X0_37 : Cond.fieldLink RX0 37 RX0 "seed" "I" ∈ gs_B := gs_in (i := 327) (by decide +kernel) (by decide +kernel)
theorem kF_X8_211 : Cond.fieldLink RX8 211 RX0 "seed" "I" ∈ gs_B := gs_in (i := 328) (by decide +kernel) (by decide +kernel)
theorem kF_X0_12 : Cond.fieldLink RX0 12 RX0 "scale" "LHungMobile$Scale;" ∈ gs_B := gs_in (i := 329) (by decide +kernel) (by decide +kernel)
theorem kF_X0_18 : Cond.fieldLink RX0 18 RX0 "laid" "[I" ∈ gs_B := gs_in (i := 330) (by decide +kernel) (by decide +kernel)
theorem kF_X8_12 : Cond.fieldLink RX8 12 RX8 "page" "LHungMobile$Page;" ∈ gs_B := gs_in (i := 342) (by decide +kernel) (by decide +kernel)
theorem kF_X8_19 : Cond.fieldLink RX8 19 RX8 "reader" "LHungMobile$Reader;" ∈ gs_B := gs_in (i := 343) (by decide +kernel) (by decide +kernel)
theorem kF_X8_26 : Cond.fieldLink RX8 26 RX8 "now" "LHungMobile$Mobile;" ∈ gs_B := gs_in (i := 344) (by decide +kernel) (by decide +kernel)
theorem kF_X8_30 : Cond.fieldLink RX8 30 RX8 "kept" "LHungMobile$Mobile;" ∈ gs_B := gs_in (i := 345) (by decide +kernel) (by decide +kernel)
theorem kF_X8_36 : Cond.fieldLink RX8 36 RX8 "scale" "LHungMobile$Scale;" ∈ gs_B := gs_in (i := 346) (by decide +kernel) (by decide +kernel)
theorem kF_X8_43 : Cond.fieldLink RX8 43 RX8 "layings" "LHungMobile$Layings;" ∈ gs_B := gs_in (i := 347) (by decide +kernel) (by decide +kernel)
theorem kF_X8_50 : Cond.fieldLink RX8 50 RX8 "nights" "LHungMobile$Evenings;" ∈ gs_B := gs_in (i := 348) (by decide +kernel) (by decide +kernel)
theorem kF_X8_74 : Cond.fieldLink RX8 74 RX8 "isKept" "Z" ∈ gs_B := gs_in (i := 349) (by decide +kernel) (by decide +kernel)
theorem kF_X8_78 : Cond.fieldLink RX8 78 RX8 "reads" "I" ∈ gs_B := gs_in (i := 350) (by decide +kernel) (by decide +kernel)
theorem kF_X8_157 : Cond.fieldLink RX8 157 RX8 "lays" "I" ∈ gs_B := gs_in (i := 351) (by decide +kernel) (by decide +kernel)
theorem kM_L_13 : Cond.methodLink RL 13 yX8_letter ∈ gs_B := gs_in (i := 373) (by decide +kernel) (by decide +kernel)
theorem kI_X8_letter : Cond.instanceMethod yX8_letter ∈ gs_B := gs_in (i := 374) (by decide +kernel) (by decide +kernel)
theorem kS_X8_letter : Cond.selects RX8 yX8_letter yX8_letter ∈ gs_B := gs_in (i := 375) (by decide +kernel) (by decide +kernel)
set_option maxRecDepth 40000 in
theorem kC_X8_letter : Cond.code yX8_letter cX8_letter 2 (some .int) ∈ gs_B := gs_in (i := 376) (rfl) (rfl)
theorem kM_L_18 : Cond.methodLink RL 18 yX8_blank ∈ gs_B := gs_in (i := 377) (by decide +kernel) (by decide +kernel)
theorem kI_X8_blank : Cond.instanceMethod yX8_blank ∈ gs_B := gs_in (i := 378) (by decide +kernel) (by decide +kernel)
theorem kS_X8_blank : Cond.selects RX8 yX8_blank yX8_blank ∈ gs_B := gs_in (i := 379) (by decide +kernel) (by decide +kernel)
set_option maxRecDepth 40000 in
theorem kC_X8_blank : Cond.code yX8_blank cX8_blank 2 (some .int) ∈ gs_B := gs_in (i := 380) (rfl) (rfl)
theorem kM_L_23 : Cond.methodLink RL 23 yX8_fault ∈ gs_B := gs_in (i := 381) (by decide +kernel) (by decide +kernel)
theorem kI_X8_fault : Cond.instanceMethod yX8_fault ∈ gs_B := gs_in (i := 382) (by decide +kernel) (by decide +kernel)
theorem kS_X8_fault : Cond.selects RX8 yX8_fault yX8_fault ∈ gs_B := gs_in (i := 383) (by decide +kernel) (by decide +kernel)
set_option maxRecDepth 40000 in
theorem kC_X8_fault : Cond.code yX8_fault cX8_fault 1 (some .int) ∈ gs_B := gs_in (i := 384) (rfl) (rfl)
theorem kM_X8_62 : Cond.methodLink RX8 62 yX5_readLetters ∈ gs_B := gs_in (i := 385) (by decide +kernel) (by decide +kernel)
theorem kI_X5_readLetters : Cond.instanceMethod yX5_readLetters ∈ gs_B := gs_in (i := 386) (by decide +kernel) (by decide +kernel)
theorem kS_X5_readLetters : Cond.selects RX5 yX5_readLetters yX5_readLetters ∈ gs_B := gs_in (i := 387) (by decide +kernel) (by decide +kernel)
set_option maxRecDepth 40000 in
theorem kC_X5_readLetters : Cond.code yX5_readLetters cX5_readLetters 3 (some .int) ∈ gs_B := gs_in (i := 388) (rfl) (rfl)
theorem kM_X5_28 : Cond.methodLink RX5 28 yX5_begin ∈ gs_B := gs_in (i := 389) (by decide +kernel) (by decide +kernel)
theorem kI_X5_begin : Cond.instanceMethod yX5_begin ∈ gs_B := gs_in (i := 391) (by decide +kernel) (by decide +kernel)
set_option maxRecDepth 40000 in
theorem kC_X5_begin : Cond.code yX5_begin cX5_begin 2 none ∈ gs_B := gs_in (i := 392) (rfl) (rfl)
theorem kM_X5_40 : Cond.methodLink RX5 40 yX5_takes ∈ gs_B := gs_in (i := 393) (by decide +kernel) (by decide +kernel)
theorem kI_X5_takes : Cond.instanceMethod yX5_takes ∈ gs_B := gs_in (i := 395) (by decide +kernel) (by decide +kernel)
set_option maxRecDepth 40000 in
theorem kC_X5_takes : Cond.code yX5_takes cX5_takes 2 (some .boolean) ∈ gs_B := gs_in (i := 396) (rfl) (rfl)
theorem kM_X5_59 : Cond.methodLink RX5 59 yX5_takesLength ∈ gs_B := gs_in (i := 397) (by decide +kernel) (by decide +kernel)
theorem kI_X5_takesLength : Cond.instanceMethod yX5_takesLength ∈ gs_B := gs_in (i := 399) (by decide +kernel) (by decide +kernel)
set_option maxRecDepth 40000 in
theorem kC_X5_takesLength : Cond.code yX5_takesLength cX5_takesLength 2 (some .boolean) ∈ gs_B := gs_in (i := 400) (rfl) (rfl)
theorem kM_X5_62 : Cond.methodLink RX5 62 yX5_takesEnd ∈ gs_B := gs_in (i := 401) (by decide +kernel) (by decide +kernel)
theorem kI_X5_takesEnd : Cond.instanceMethod yX5_takesEnd ∈ gs_B := gs_in (i := 403) (by decide +kernel) (by decide +kernel)
set_option maxRecDepth 40000 in
theorem kC_X5_takesEnd : Cond.code yX5_takesEnd cX5_takesEnd 4 (some .boolean) ∈ gs_B := gs_in (i := 404) (rfl) (rfl)
theorem kM_X5_77 : Cond.methodLink RX5 77 yX5_canTell ∈ gs_B := gs_in (i := 405) (by decide +kernel) (by decide +kernel)
theorem kI_X5_canTell : Cond.instanceMethod yX5_canTell ∈ gs_B := gs_in (i := 407) (by decide +kernel) (by decide +kernel)
set_option maxRecDepth 40000 in
theorem kC_X5_canTell : Cond.code yX5_canTell cX5_canTell 3 (some .boolean) ∈ gs_B := gs_in (i := 408) (rfl) (rfl)
theorem kM_X5_81 : Cond.methodLink RX5 81 Lib.Math.max.name ∈ gs_B := gs_in (i := 409) (by decide +kernel) (by decide +kernel)
theorem kT_Math_max : Cond.static Lib.Math.max.name ∈ gs_B := gs_in (i := 410) (by decide +kernel) (by decide +kernel)
theorem kC_Math_max : Cond.code Lib.Math.max.name Lib.Math.max.code 2 (some .int) ∈ gs_B := gs_in (i := 411) (by decide +kernel) (by decide +kernel)
theorem kM_X5_87 : Cond.methodLink RX5 87 yX5_canFollow ∈ gs_B := gs_in (i := 412) (by decide +kernel) (by decide +kernel)
theorem kI_X5_canFollow : Cond.instanceMethod yX5_canFollow ∈ gs_B := gs_in (i := 414) (by decide +kernel) (by decide +kernel)
set_option maxRecDepth 40000 in
theorem kC_X5_canFollow : Cond.code yX5_canFollow cX5_canFollow 2 (some .boolean) ∈ gs_B := gs_in (i := 415) (rfl) (rfl)
theorem kM_X5_65 : Cond.methodLink RX5 65 yX5_takesBehindRod ∈ gs_B := gs_in (i := 416) (by decide +kernel) (by decide +kernel)
theorem kI_X5_takesBehindRod : Cond.instanceMethod yX5_takesBehindRod ∈ gs_B := gs_in (i := 418) (by decide +kernel) (by decide +kernel)
set_option maxRecDepth 40000 in
theorem kC_X5_takesBehindRod : Cond.code yX5_takesBehindRod cX5_takesBehindRod 3 (some .boolean) ∈ gs_B := gs_in (i := 419) (rfl) (rfl)
theorem kM_X5_68 : Cond.methodLink RX5 68 yX5_takesKind ∈ gs_B := gs_in (i := 420) (by decide +kernel) (by decide +kernel)
theorem kI_X5_takesKind : Cond.instanceMethod yX5_takesKind ∈ gs_B := gs_in (i := 422) (by decide +kernel) (by decide +kernel)
set_option maxRecDepth 40000 in
theorem kC_X5_takesKind : Cond.code yX5_takesKind cX5_takesKind 3 (some .boolean) ∈ gs_B := gs_in (i := 423) (rfl) (rfl)
theorem kM_X5_94 : Cond.methodLink RX5 94 yJ0_indexOf_0f7a4 ∈ gs_B := gs_in (i := 425) (by decide +kernel) (by decide +kernel)
theorem kI_J0_indexOf_0f7a4 : Cond.instanceMethod yJ0_indexOf_0f7a4 ∈ gs_B := gs_in (i := 426) (by decide +kernel) (by decide +kernel)
theorem kS_J0_indexOf_0f7a4 : Cond.selects RJ0 yJ0_indexOf_0f7a4 yJ0_indexOf_0f7a4 ∈ gs_B := gs_in (i := 427) (by decide +kernel) (by decide +kernel)
set_option maxRecDepth 40000 in
theorem kC_J0_indexOf_0f7a4 : Cond.code yJ0_indexOf_0f7a4 cJ0_indexOf_0f7a4 2 (some .int) ∈ gs_B := gs_in (i := 428) (rfl) (rfl)
theorem kM_J0_633 : Cond.methodLink RJ0 633 yJ0_indexOf_7cf53 ∈ gs_B := gs_in (i := 429) (by decide +kernel) (by decide +kernel)
theorem kI_J0_indexOf_7cf53 : Cond.instanceMethod yJ0_indexOf_7cf53 ∈ gs_B := gs_in (i := 430) (by decide +kernel) (by decide +kernel)
theorem kS_J0_indexOf_7cf53 : Cond.selects RJ0 yJ0_indexOf_7cf53 yJ0_indexOf_7cf53 ∈ gs_B := gs_in (i := 431) (by decide +kernel) (by decide +kernel)
set_option maxRecDepth 40000 in
theorem kC_J0_indexOf_7cf53 : Cond.code yJ0_indexOf_7cf53 cJ0_indexOf_7cf53 3 (some .int) ∈ gs_B := gs_in (i := 432) (rfl) (rfl)
theorem kM_J0_492 : Cond.methodLink RJ0 492 yJ0_isLatin1_aae02 ∈ gs_B := gs_in (i := 433) (by decide +kernel) (by decide +kernel)
theorem kI_J0_isLatin1_aae02 : Cond.instanceMethod yJ0_isLatin1_aae02 ∈ gs_B := gs_in (i := 434) (by decide +kernel) (by decide +kernel)
theorem kS_J0_isLatin1_aae02 : Cond.selects RJ0 yJ0_isLatin1_aae02 yJ0_isLatin1_aae02 ∈ gs_B := gs_in (i := 435) (by decide +kernel) (by decide +kernel)
set_option maxRecDepth 40000 in
theorem kC_J0_isLatin1_aae02 : Cond.code yJ0_isLatin1_aae02 cJ0_isLatin1_aae02 1 (some .boolean) ∈ gs_B := gs_in (i := 436) (rfl) (rfl)
theorem kM_J0_505 : Cond.methodLink RJ0 505 yJ0_length_8abf5 ∈ gs_B := gs_in (i := 439) (by decide +kernel) (by decide +kernel)
theorem kI_J0_length_8abf5 : Cond.instanceMethod yJ0_length_8abf5 ∈ gs_B := gs_in (i := 440) (by decide +kernel) (by decide +kernel)
theorem kS_J0_length_8abf5 : Cond.selects RJ0 yJ0_length_8abf5 yJ0_length_8abf5 ∈ gs_B := gs_in (i := 441) (by decide +kernel) (by decide +kernel)
set_option maxRecDepth 40000 in
theorem kC_J0_length_8abf5 : Cond.code yJ0_length_8abf5 cJ0_length_8abf5 1 (some .int) ∈ gs_B := gs_in (i := 442) (rfl) (rfl)
theorem kM_J0_335 : Cond.methodLink RJ0 335 yJ0_coder_7d493 ∈ gs_B := gs_in (i := 443) (by decide +kernel) (by decide +kernel)
theorem kI_J0_coder_7d493 : Cond.instanceMethod yJ0_coder_7d493 ∈ gs_B := gs_in (i := 444) (by decide +kernel) (by decide +kernel)
theorem kS_J0_coder_7d493 : Cond.selects RJ0 yJ0_coder_7d493 yJ0_coder_7d493 ∈ gs_B := gs_in (i := 445) (by decide +kernel) (by decide +kernel)
set_option maxRecDepth 40000 in
theorem kC_J0_coder_7d493 : Cond.code yJ0_coder_7d493 cJ0_coder_7d493 1 (some .byte) ∈ gs_B := gs_in (i := 446) (rfl) (rfl)
theorem kM_J0_637 : Cond.methodLink RJ0 637 yJ1_indexOf_4cfef ∈ gs_B := gs_in (i := 447) (by decide +kernel) (by decide +kernel)
theorem kT_J1_indexOf_4cfef : Cond.static yJ1_indexOf_4cfef ∈ gs_B := gs_in (i := 448) (by decide +kernel) (by decide +kernel)
set_option maxRecDepth 40000 in
theorem kC_J1_indexOf_4cfef : Cond.code yJ1_indexOf_4cfef cJ1_indexOf_4cfef 4 (some .int) ∈ gs_B := gs_in (i := 449) (rfl) (rfl)
theorem kM_J1_88 : Cond.methodLink RJ1 88 yJ1_canEncode_9a6ad ∈ gs_B := gs_in (i := 450) (by decide +kernel) (by decide +kernel)
theorem kT_J1_canEncode_9a6ad : Cond.static yJ1_canEncode_9a6ad ∈ gs_B := gs_in (i := 451) (by decide +kernel) (by decide +kernel)
set_option maxRecDepth 40000 in
theorem kC_J1_canEncode_9a6ad : Cond.code yJ1_canEncode_9a6ad cJ1_canEncode_9a6ad 1 (some .boolean) ∈ gs_B := gs_in (i := 452) (rfl) (rfl)
theorem kM_J1_92 : Cond.methodLink RJ1 92 Lib.Math.max.name ∈ gs_B := gs_in (i := 453) (by decide +kernel) (by decide +kernel)
theorem kM_J1_38 : Cond.methodLink RJ1 38 yJ9_min_7cf53 ∈ gs_B := gs_in (i := 454) (by decide +kernel) (by decide +kernel)
theorem kT_J9_min_7cf53 : Cond.static yJ9_min_7cf53 ∈ gs_B := gs_in (i := 455) (by decide +kernel) (by decide +kernel)
set_option maxRecDepth 40000 in
theorem kC_J9_min_7cf53 : Cond.code yJ9_min_7cf53 cJ9_min_7cf53 2 (some .int) ∈ gs_B := gs_in (i := 456) (rfl) (rfl)
theorem kM_J1_95 : Cond.methodLink RJ1 95 yJ1_indexOfChar_4cfef ∈ gs_B := gs_in (i := 457) (by decide +kernel) (by decide +kernel)
theorem kT_J1_indexOfChar_4cfef : Cond.static yJ1_indexOfChar_4cfef ∈ gs_B := gs_in (i := 458) (by decide +kernel) (by decide +kernel)
set_option maxRecDepth 40000 in
theorem kC_J1_indexOfChar_4cfef : Cond.code yJ1_indexOfChar_4cfef cJ1_indexOfChar_4cfef 6 (some .int) ∈ gs_B := gs_in (i := 459) (rfl) (rfl)
theorem kM_J0_640 : Cond.methodLink RJ0 640 yJ2_indexOf_4cfef ∈ gs_B := gs_in (i := 460) (by decide +kernel) (by decide +kernel)
theorem kT_J2_indexOf_4cfef : Cond.static yJ2_indexOf_4cfef ∈ gs_B := gs_in (i := 461) (by decide +kernel) (by decide +kernel)
set_option maxRecDepth 40000 in
theorem kC_J2_indexOf_4cfef : Cond.code yJ2_indexOf_4cfef cJ2_indexOf_4cfef 4 (some .int) ∈ gs_B := gs_in (i := 462) (rfl) (rfl)
theorem kM_J2_224 : Cond.methodLink RJ2 224 Lib.Math.max.name ∈ gs_B := gs_in (i := 463) (by decide +kernel) (by decide +kernel)
theorem kM_J2_183 : Cond.methodLink RJ2 183 yJ9_min_7cf53 ∈ gs_B := gs_in (i := 464) (by decide +kernel) (by decide +kernel)
theorem kK_J2_227 : Cond.constant RJ2 227 (65536) ∈ gs_B := gs_in (i := 465) (by decide +kernel) (by decide +kernel)
theorem kM_J2_228 : Cond.methodLink RJ2 228 yJ2_indexOfChar_4cfef ∈ gs_B := gs_in (i := 466) (by decide +kernel) (by decide +kernel)
theorem kT_J2_indexOfChar_4cfef : Cond.static yJ2_indexOfChar_4cfef ∈ gs_B := gs_in (i := 467) (by decide +kernel) (by decide +kernel)
set_option maxRecDepth 40000 in
theorem kC_J2_indexOfChar_4cfef : Cond.code yJ2_indexOfChar_4cfef cJ2_indexOfChar_4cfef 4 (some .int) ∈ gs_B := gs_in (i := 468) (rfl) (rfl)
theorem kM_J2_96 : Cond.methodLink RJ2 96 yJ2_checkBoundsBeginEnd_d044e ∈ gs_B := gs_in (i := 469) (by decide +kernel) (by decide +kernel)
theorem kT_J2_checkBoundsBeginEnd_d044e : Cond.static yJ2_checkBoundsBeginEnd_d044e ∈ gs_B := gs_in (i := 470) (by decide +kernel) (by decide +kernel)
set_option maxRecDepth 40000 in
theorem kC_J2_checkBoundsBeginEnd_d044e : Cond.code yJ2_checkBoundsBeginEnd_d044e cJ2_checkBoundsBeginEnd_d044e 3 none ∈ gs_B := gs_in (i := 471) (rfl) (rfl)
theorem kM_J2_48 : Cond.methodLink RJ2 48 yJ2_length_9d52b ∈ gs_B := gs_in (i := 472) (by decide +kernel) (by decide +kernel)
theorem kT_J2_length_9d52b : Cond.static yJ2_length_9d52b ∈ gs_B := gs_in (i := 473) (by decide +kernel) (by decide +kernel)
set_option maxRecDepth 40000 in
theorem kC_J2_length_9d52b : Cond.code yJ2_length_9d52b cJ2_length_9d52b 1 (some .int) ∈ gs_B := gs_in (i := 474) (rfl) (rfl)
theorem kM_J2_241 : Cond.methodLink RJ2 241 yJ0_checkBoundsBeginEnd_23922 ∈ gs_B := gs_in (i := 475) (by decide +kernel) (by decide +kernel)
theorem kT_J0_checkBoundsBeginEnd_23922 : Cond.static yJ0_checkBoundsBeginEnd_23922 ∈ gs_B := gs_in (i := 476) (by decide +kernel) (by decide +kernel)
set_option maxRecDepth 40000 in
theorem kC_J0_checkBoundsBeginEnd_23922 : Cond.code yJ0_checkBoundsBeginEnd_23922 cJ0_checkBoundsBeginEnd_23922 3 none ∈ gs_B := gs_in (i := 477) (rfl) (rfl)
theorem kM_J0_1062 : Cond.methodLink RJ0 1062 yJ3_checkFromToIndex_8c36e ∈ gs_B := gs_in (i := 480) (by decide +kernel) (by decide +kernel)
theorem kT_J3_checkFromToIndex_8c36e : Cond.static yJ3_checkFromToIndex_8c36e ∈ gs_B := gs_in (i := 481) (by decide +kernel) (by decide +kernel)
set_option maxRecDepth 40000 in
theorem kC_J3_checkFromToIndex_8c36e : Cond.code yJ3_checkFromToIndex_8c36e cJ3_checkFromToIndex_8c36e 4 (some .int) ∈ gs_B := gs_in (i := 482) (rfl) (rfl)
theorem kM_J2_244 : Cond.methodLink RJ2 244 yJ2_indexOfCharUnsafe_4cfef ∈ gs_B := gs_in (i := 483) (by decide +kernel) (by decide +kernel)
theorem kT_J2_indexOfCharUnsafe_4cfef : Cond.static yJ2_indexOfCharUnsafe_4cfef ∈ gs_B := gs_in (i := 484) (by decide +kernel) (by decide +kernel)
set_option maxRecDepth 40000 in
theorem kC_J2_indexOfCharUnsafe_4cfef : Cond.code yJ2_indexOfCharUnsafe_4cfef cJ2_indexOfCharUnsafe_4cfef 5 (some .int) ∈ gs_B := gs_in (i := 485) (rfl) (rfl)
theorem kM_J2_71 : Cond.methodLink RJ2 71 yJ2_getChar_3b067 ∈ gs_B := gs_in (i := 486) (by decide +kernel) (by decide +kernel)
theorem kT_J2_getChar_3b067 : Cond.static yJ2_getChar_3b067 ∈ gs_B := gs_in (i := 487) (by decide +kernel) (by decide +kernel)
set_option maxRecDepth 40000 in
theorem kC_J2_getChar_3b067 : Cond.code yJ2_getChar_3b067 cJ2_getChar_3b067 2 (some .char) ∈ gs_B := gs_in (i := 488) (rfl) (rfl)
theorem kM_J2_232 : Cond.methodLink RJ2 232 yJ2_indexOfSupplementary_4cfef ∈ gs_B := gs_in (i := 495) (by decide +kernel) (by decide +kernel)
theorem kT_J2_indexOfSupplementary_4cfef : Cond.static yJ2_indexOfSupplementary_4cfef ∈ gs_B := gs_in (i := 496) (by decide +kernel) (by decide +kernel)
set_option maxRecDepth 40000 in
theorem kC_J2_indexOfSupplementary_4cfef : Cond.code yJ2_indexOfSupplementary_4cfef cJ2_indexOfSupplementary_4cfef 7 (some .int) ∈ gs_B := gs_in (i := 497) (rfl) (rfl)
theorem kM_J2_164 : Cond.methodLink RJ2 164 yJ11_isValidCodePoint_9a6ad ∈ gs_B := gs_in (i := 498) (by decide +kernel) (by decide +kernel)
theorem kT_J11_isValidCodePoint_9a6ad : Cond.static yJ11_isValidCodePoint_9a6ad ∈ gs_B := gs_in (i := 499) (by decide +kernel) (by decide +kernel)
set_option maxRecDepth 40000 in
theorem kC_J11_isValidCodePoint_9a6ad : Cond.code yJ11_isValidCodePoint_9a6ad cJ11_isValidCodePoint_9a6ad 2 (some .boolean) ∈ gs_B := gs_in (i := 500) (rfl) (rfl)
theorem kM_J2_157 : Cond.methodLink RJ2 157 yJ11_highSurrogate_5068e ∈ gs_B := gs_in (i := 501) (by decide +kernel) (by decide +kernel)
theorem kT_J11_highSurrogate_5068e : Cond.static yJ11_highSurrogate_5068e ∈ gs_B := gs_in (i := 502) (by decide +kernel) (by decide +kernel)
set_option maxRecDepth 40000 in
theorem kC_J11_highSurrogate_5068e : Cond.code yJ11_highSurrogate_5068e cJ11_highSurrogate_5068e 1 (some .char) ∈ gs_B := gs_in (i := 503) (rfl) (rfl)
theorem kK_J11_110 : Cond.constant RJ11 110 (55232) ∈ gs_B := gs_in (i := 504) (by decide +kernel) (by decide +kernel)
theorem kM_J2_161 : Cond.methodLink RJ2 161 yJ11_lowSurrogate_5068e ∈ gs_B := gs_in (i := 505) (by decide +kernel) (by decide +kernel)
theorem kT_J11_lowSurrogate_5068e : Cond.static yJ11_lowSurrogate_5068e ∈ gs_B := gs_in (i := 506) (by decide +kernel) (by decide +kernel)
set_option maxRecDepth 40000 in
theorem kC_J11_lowSurrogate_5068e : Cond.code yJ11_lowSurrogate_5068e cJ11_lowSurrogate_5068e 1 (some .char) ∈ gs_B := gs_in (i := 507) (rfl) (rfl)
theorem kK_J11_76 : Cond.constant RJ11 76 (56320) ∈ gs_B := gs_in (i := 508) (by decide +kernel) (by decide +kernel)
theorem kM_X5_71 : Cond.methodLink RX5 71 yX5_takesSize ∈ gs_B := gs_in (i := 509) (by decide +kernel) (by decide +kernel)
theorem kI_X5_takesSize : Cond.instanceMethod yX5_takesSize ∈ gs_B := gs_in (i := 511) (by decide +kernel) (by decide +kernel)
set_option maxRecDepth 40000 in
theorem kC_X5_takesSize : Cond.code yX5_takesSize cX5_takesSize 2 (some .boolean) ∈ gs_B := gs_in (i := 512) (rfl) (rfl)
theorem kM_X5_74 : Cond.methodLink RX5 74 yX5_takesBehindThing ∈ gs_B := gs_in (i := 513) (by decide +kernel) (by decide +kernel)
theorem kI_X5_takesBehindThing : Cond.instanceMethod yX5_takesBehindThing ∈ gs_B := gs_in (i := 515) (by decide +kernel) (by decide +kernel)
set_option maxRecDepth 40000 in
theorem kC_X5_takesBehindThing : Cond.code yX5_takesBehindThing cX5_takesBehindThing 2 (some .boolean) ∈ gs_B := gs_in (i := 516) (rfl) (rfl)
theorem kM_L_27 : Cond.methodLink RL 27 yX8_mobile ∈ gs_B := gs_in (i := 518) (by decide +kernel) (by decide +kernel)
theorem kI_X8_mobile : Cond.instanceMethod yX8_mobile ∈ gs_B := gs_in (i := 519) (by decide +kernel) (by decide +kernel)
theorem kS_X8_mobile : Cond.selects RX8 yX8_mobile yX8_mobile ∈ gs_B := gs_in (i := 520) (by decide +kernel) (by decide +kernel)
set_option maxRecDepth 40000 in
theorem kC_X8_mobile : Cond.code yX8_mobile cX8_mobile 1 (some .int) ∈ gs_B := gs_in (i := 521) (rfl) (rfl)
theorem kM_X8_66 : Cond.methodLink RX8 66 yX5_isWhole ∈ gs_B := gs_in (i := 522) (by decide +kernel) (by decide +kernel)
theorem kI_X5_isWhole : Cond.instanceMethod yX5_isWhole ∈ gs_B := gs_in (i := 523) (by decide +kernel) (by decide +kernel)
theorem kS_X5_isWhole : Cond.selects RX5 yX5_isWhole yX5_isWhole ∈ gs_B := gs_in (i := 524) (by decide +kernel) (by decide +kernel)
set_option maxRecDepth 40000 in
theorem kC_X5_isWhole : Cond.code yX5_isWhole cX5_isWhole 1 (some .boolean) ∈ gs_B := gs_in (i := 525) (rfl) (rfl)
theorem kM_X8_70 : Cond.methodLink RX8 70 yX3_hangAsRead ∈ gs_B := gs_in (i := 526) (by decide +kernel) (by decide +kernel)
theorem kI_X3_hangAsRead : Cond.instanceMethod yX3_hangAsRead ∈ gs_B := gs_in (i := 527) (by decide +kernel) (by decide +kernel)
theorem kS_X3_hangAsRead : Cond.selects RX3 yX3_hangAsRead yX3_hangAsRead ∈ gs_B := gs_in (i := 528) (by decide +kernel) (by decide +kernel)
set_option maxRecDepth 40000 in
theorem kC_X3_hangAsRead : Cond.code yX3_hangAsRead cX3_hangAsRead 3 none ∈ gs_B := gs_in (i := 529) (rfl) (rfl)
theorem kM_X3_63 : Cond.methodLink RX3 63 yX3_hangAllAgain ∈ gs_B := gs_in (i := 530) (by decide +kernel) (by decide +kernel)
theorem kI_X3_hangAllAgain : Cond.instanceMethod yX3_hangAllAgain ∈ gs_B := gs_in (i := 531) (by decide +kernel) (by decide +kernel)
theorem kS_X3_hangAllAgain : Cond.selects RX3 yX3_hangAllAgain yX3_hangAllAgain ∈ gs_B := gs_in (i := 532) (by decide +kernel) (by decide +kernel)
set_option maxRecDepth 40000 in
theorem kC_X3_hangAllAgain : Cond.code yX3_hangAllAgain cX3_hangAllAgain 3 (some .int) ∈ gs_B := gs_in (i := 533) (rfl) (rfl)
theorem kM_L_31 : Cond.methodLink RL 31 yX8_rod ∈ gs_B := gs_in (i := 534) (by decide +kernel) (by decide +kernel)
theorem kI_X8_rod : Cond.instanceMethod yX8_rod ∈ gs_B := gs_in (i := 535) (by decide +kernel) (by decide +kernel)
theorem kS_X8_rod : Cond.selects RX8 yX8_rod yX8_rod ∈ gs_B := gs_in (i := 536) (by decide +kernel) (by decide +kernel)
set_option maxRecDepth 40000 in
theorem kC_X8_rod : Cond.code yX8_rod cX8_rod 3 (some .int) ∈ gs_B := gs_in (i := 537) (rfl) (rfl)
theorem kM_X8_84 : Cond.methodLink RX8 84 yX8_isRod ∈ gs_B := gs_in (i := 538) (by decide +kernel) (by decide +kernel)
theorem kI_X8_isRod : Cond.instanceMethod yX8_isRod ∈ gs_B := gs_in (i := 540) (by decide +kernel) (by decide +kernel)
set_option maxRecDepth 40000 in
theorem kC_X8_isRod : Cond.code yX8_isRod cX8_isRod 2 (some .boolean) ∈ gs_B := gs_in (i := 541) (rfl) (rfl)
theorem kM_X8_88 : Cond.methodLink RX8 88 yX6_weigh ∈ gs_B := gs_in (i := 542) (by decide +kernel) (by decide +kernel)
theorem kI_X6_weigh : Cond.instanceMethod yX6_weigh ∈ gs_B := gs_in (i := 543) (by decide +kernel) (by decide +kernel)
theorem kS_X6_weigh : Cond.selects RX6 yX6_weigh yX6_weigh ∈ gs_B := gs_in (i := 544) (by decide +kernel) (by decide +kernel)
set_option maxRecDepth 40000 in
theorem kC_X6_weigh : Cond.code yX6_weigh cX6_weigh 2 none ∈ gs_B := gs_in (i := 545) (rfl) (rfl)
theorem kM_X6_31 : Cond.methodLink RX6 31 yX6_prepare ∈ gs_B := gs_in (i := 546) (by decide +kernel) (by decide +kernel)
theorem kI_X6_prepare : Cond.instanceMethod yX6_prepare ∈ gs_B := gs_in (i := 547) (by decide +kernel) (by decide +kernel)
theorem kS_X6_prepare : Cond.selects RX6 yX6_prepare yX6_prepare ∈ gs_B := gs_in (i := 548) (by decide +kernel) (by decide +kernel)
set_option maxRecDepth 40000 in
theorem kC_X6_prepare : Cond.code yX6_prepare cX6_prepare 5 none ∈ gs_B := gs_in (i := 549) (rfl) (rfl)
theorem kM_X6_51 : Cond.methodLink RX6 51 yX1_weight ∈ gs_B := gs_in (i := 550) (by decide +kernel) (by decide +kernel)
theorem kT_X1_weight : Cond.static yX1_weight ∈ gs_B := gs_in (i := 551) (by decide +kernel) (by decide +kernel)
set_option maxRecDepth 40000 in
theorem kC_X1_weight : Cond.code yX1_weight cX1_weight 3 (some .int) ∈ gs_B := gs_in (i := 552) (rfl) (rfl)
theorem kM_X1_9 : Cond.methodLink RX1 9 Lib.Math.max.name ∈ gs_B := gs_in (i := 553) (by decide +kernel) (by decide +kernel)
theorem kM_X6_38 : Cond.methodLink RX6 38 yX6_hang ∈ gs_B := gs_in (i := 554) (by decide +kernel) (by decide +kernel)
theorem kI_X6_hang : Cond.instanceMethod yX6_hang ∈ gs_B := gs_in (i := 555) (by decide +kernel) (by decide +kernel)
theorem kS_X6_hang : Cond.selects RX6 yX6_hang yX6_hang ∈ gs_B := gs_in (i := 556) (by decide +kernel) (by decide +kernel)
set_option maxRecDepth 40000 in
theorem kC_X6_hang : Cond.code yX6_hang cX6_hang 4 none ∈ gs_B := gs_in (i := 557) (rfl) (rfl)
theorem kM_X6_69 : Cond.methodLink RX6 69 yX6_hangRod ∈ gs_B := gs_in (i := 558) (by decide +kernel) (by decide +kernel)
theorem kI_X6_hangRod : Cond.instanceMethod yX6_hangRod ∈ gs_B := gs_in (i := 560) (by decide +kernel) (by decide +kernel)
set_option maxRecDepth 40000 in
theorem kC_X6_hangRod : Cond.code yX6_hangRod cX6_hangRod 6 none ∈ gs_B := gs_in (i := 561) (rfl) (rfl)
theorem kM_X6_73 : Cond.methodLink RX6 73 yX6_loadOf ∈ gs_B := gs_in (i := 562) (by decide +kernel) (by decide +kernel)
theorem kI_X6_loadOf : Cond.instanceMethod yX6_loadOf ∈ gs_B := gs_in (i := 564) (by decide +kernel) (by decide +kernel)
set_option maxRecDepth 40000 in
theorem kC_X6_loadOf : Cond.code yX6_loadOf cX6_loadOf 5 (some .int) ∈ gs_B := gs_in (i := 565) (rfl) (rfl)
theorem kM_X8_92 : Cond.methodLink RX8 92 yX8_aboutRod ∈ gs_B := gs_in (i := 566) (by decide +kernel) (by decide +kernel)
theorem kI_X8_aboutRod : Cond.instanceMethod yX8_aboutRod ∈ gs_B := gs_in (i := 568) (by decide +kernel) (by decide +kernel)
set_option maxRecDepth 40000 in
theorem kC_X8_aboutRod : Cond.code yX8_aboutRod cX8_aboutRod 3 (some .int) ∈ gs_B := gs_in (i := 569) (rfl) (rfl)
theorem kM_X8_237 : Cond.methodLink RX8 237 yX3_hangingFrom ∈ gs_B := gs_in (i := 570) (by decide +kernel) (by decide +kernel)
theorem kI_X3_hangingFrom : Cond.instanceMethod yX3_hangingFrom ∈ gs_B := gs_in (i := 571) (by decide +kernel) (by decide +kernel)
theorem kS_X3_hangingFrom : Cond.selects RX3 yX3_hangingFrom yX3_hangingFrom ∈ gs_B := gs_in (i := 572) (by decide +kernel) (by decide +kernel)
set_option maxRecDepth 40000 in
theorem kC_X3_hangingFrom : Cond.code yX3_hangingFrom cX3_hangingFrom 3 (some .int) ∈ gs_B := gs_in (i := 573) (rfl) (rfl)
theorem kM_X8_249 : Cond.methodLink RX8 249 yX6_hookFor ∈ gs_B := gs_in (i := 574) (by decide +kernel) (by decide +kernel)
theorem kI_X6_hookFor : Cond.instanceMethod yX6_hookFor ∈ gs_B := gs_in (i := 575) (by decide +kernel) (by decide +kernel)
theorem kS_X6_hookFor : Cond.selects RX6 yX6_hookFor yX6_hookFor ∈ gs_B := gs_in (i := 576) (by decide +kernel) (by decide +kernel)
set_option maxRecDepth 40000 in
theorem kC_X6_hookFor : Cond.code yX6_hookFor cX6_hookFor 5 (some .int) ∈ gs_B := gs_in (i := 577) (rfl) (rfl)
theorem kM_X8_253 : Cond.methodLink RX8 253 yX6_beadToAdd ∈ gs_B := gs_in (i := 578) (by decide +kernel) (by decide +kernel)
theorem kI_X6_beadToAdd : Cond.instanceMethod yX6_beadToAdd ∈ gs_B := gs_in (i := 579) (by decide +kernel) (by decide +kernel)
theorem kS_X6_beadToAdd : Cond.selects RX6 yX6_beadToAdd yX6_beadToAdd ∈ gs_B := gs_in (i := 580) (by decide +kernel) (by decide +kernel)
set_option maxRecDepth 40000 in
theorem kC_X6_beadToAdd : Cond.code yX6_beadToAdd cX6_beadToAdd 4 (some .int) ∈ gs_B := gs_in (i := 581) (rfl) (rfl)
theorem kM_L_36 : Cond.methodLink RL 36 yX8_thing ∈ gs_B := gs_in (i := 582) (by decide +kernel) (by decide +kernel)
theorem kI_X8_thing : Cond.instanceMethod yX8_thing ∈ gs_B := gs_in (i := 583) (by decide +kernel) (by decide +kernel)
theorem kS_X8_thing : Cond.selects RX8 yX8_thing yX8_thing ∈ gs_B := gs_in (i := 584) (by decide +kernel) (by decide +kernel)
set_option maxRecDepth 40000 in
theorem kC_X8_thing : Cond.code yX8_thing cX8_thing 3 (some .int) ∈ gs_B := gs_in (i := 585) (rfl) (rfl)
theorem kM_X8_96 : Cond.methodLink RX8 96 yX8_isThing ∈ gs_B := gs_in (i := 586) (by decide +kernel) (by decide +kernel)
theorem kI_X8_isThing : Cond.instanceMethod yX8_isThing ∈ gs_B := gs_in (i := 588) (by decide +kernel) (by decide +kernel)
set_option maxRecDepth 40000 in
theorem kC_X8_isThing : Cond.code yX8_isThing cX8_isThing 2 (some .boolean) ∈ gs_B := gs_in (i := 589) (rfl) (rfl)
theorem kM_X8_99 : Cond.methodLink RX8 99 yX8_aboutThing ∈ gs_B := gs_in (i := 590) (by decide +kernel) (by decide +kernel)
theorem kI_X8_aboutThing : Cond.instanceMethod yX8_aboutThing ∈ gs_B := gs_in (i := 592) (by decide +kernel) (by decide +kernel)
set_option maxRecDepth 40000 in
theorem kC_X8_aboutThing : Cond.code yX8_aboutThing cX8_aboutThing 3 (some .int) ∈ gs_B := gs_in (i := 593) (rfl) (rfl)
theorem kM_X8_256 : Cond.methodLink RX8 256 yX1_weight ∈ gs_B := gs_in (i := 594) (by decide +kernel) (by decide +kernel)
theorem kM_X8_260 : Cond.methodLink RX8 260 yX3_armOf ∈ gs_B := gs_in (i := 595) (by decide +kernel) (by decide +kernel)
theorem kI_X3_armOf : Cond.instanceMethod yX3_armOf ∈ gs_B := gs_in (i := 596) (by decide +kernel) (by decide +kernel)
theorem kS_X3_armOf : Cond.selects RX3 yX3_armOf yX3_armOf ∈ gs_B := gs_in (i := 597) (by decide +kernel) (by decide +kernel)
set_option maxRecDepth 40000 in
theorem kC_X3_armOf : Cond.code yX3_armOf cX3_armOf 3 (some .int) ∈ gs_B := gs_in (i := 598) (rfl) (rfl)
theorem kM_X3_74 : Cond.methodLink RX3 74 yX3_hangingFrom ∈ gs_B := gs_in (i := 599) (by decide +kernel) (by decide +kernel)
theorem kM_X8_263 : Cond.methodLink RX8 263 yX7_sizesOf ∈ gs_B := gs_in (i := 600) (by decide +kernel) (by decide +kernel)
theorem kI_X7_sizesOf : Cond.instanceMethod yX7_sizesOf ∈ gs_B := gs_in (i := 601) (by decide +kernel) (by decide +kernel)
theorem kS_X7_sizesOf : Cond.selects RX7 yX7_sizesOf yX7_sizesOf ∈ gs_B := gs_in (i := 602) (by decide +kernel) (by decide +kernel)
set_option maxRecDepth 40000 in
theorem kC_X7_sizesOf : Cond.code yX7_sizesOf cX7_sizesOf 5 (some .int) ∈ gs_B := gs_in (i := 603) (rfl) (rfl)
theorem kM_X7_28 : Cond.methodLink RX7 28 yX7_sizesTilting ∈ gs_B := gs_in (i := 604) (by decide +kernel) (by decide +kernel)
theorem kT_X7_sizesTilting : Cond.static yX7_sizesTilting ∈ gs_B := gs_in (i := 605) (by decide +kernel) (by decide +kernel)
set_option maxRecDepth 40000 in
theorem kC_X7_sizesTilting : Cond.code yX7_sizesTilting cX7_sizesTilting 10 (some .int) ∈ gs_B := gs_in (i := 606) (rfl) (rfl)
theorem kM_X7_59 : Cond.methodLink RX7 59 yX1_weight ∈ gs_B := gs_in (i := 607) (by decide +kernel) (by decide +kernel)
theorem kM_X7_65 : Cond.methodLink RX7 65 yX7_wayOf ∈ gs_B := gs_in (i := 608) (by decide +kernel) (by decide +kernel)
theorem kT_X7_wayOf : Cond.static yX7_wayOf ∈ gs_B := gs_in (i := 609) (by decide +kernel) (by decide +kernel)
set_option maxRecDepth 40000 in
theorem kC_X7_wayOf : Cond.code yX7_wayOf cX7_wayOf 1 (some .int) ∈ gs_B := gs_in (i := 610) (rfl) (rfl)
theorem kM_L_40 : Cond.methodLink RL 40 yX8_as ∈ gs_B := gs_in (i := 611) (by decide +kernel) (by decide +kernel)
theorem kI_X8_as : Cond.instanceMethod yX8_as ∈ gs_B := gs_in (i := 612) (by decide +kernel) (by decide +kernel)
theorem kS_X8_as : Cond.selects RX8 yX8_as yX8_as ∈ gs_B := gs_in (i := 613) (by decide +kernel) (by decide +kernel)
set_option maxRecDepth 40000 in
theorem kC_X8_as : Cond.code yX8_as cX8_as 3 (some .int) ∈ gs_B := gs_in (i := 614) (rfl) (rfl)
theorem kM_X8_102 : Cond.methodLink RX8 102 yX1_isKind ∈ gs_B := gs_in (i := 615) (by decide +kernel) (by decide +kernel)
theorem kT_X1_isKind : Cond.static yX1_isKind ∈ gs_B := gs_in (i := 616) (by decide +kernel) (by decide +kernel)
set_option maxRecDepth 40000 in
theorem kC_X1_isKind : Cond.code yX1_isKind cX1_isKind 1 (some .boolean) ∈ gs_B := gs_in (i := 617) (rfl) (rfl)
theorem kM_X8_110 : Cond.methodLink RX8 110 yX1_isA ∈ gs_B := gs_in (i := 618) (by decide +kernel) (by decide +kernel)
theorem kT_X1_isA : Cond.static yX1_isA ∈ gs_B := gs_in (i := 619) (by decide +kernel) (by decide +kernel)
set_option maxRecDepth 40000 in
theorem kC_X1_isA : Cond.code yX1_isA cX1_isA 2 (some .boolean) ∈ gs_B := gs_in (i := 620) (rfl) (rfl)
theorem kM_L_44 : Cond.methodLink RL 44 yX8_hour ∈ gs_B := gs_in (i := 621) (by decide +kernel) (by decide +kernel)
theorem kI_X8_hour : Cond.instanceMethod yX8_hour ∈ gs_B := gs_in (i := 622) (by decide +kernel) (by decide +kernel)
theorem kS_X8_hour : Cond.selects RX8 yX8_hour yX8_hour ∈ gs_B := gs_in (i := 623) (by decide +kernel) (by decide +kernel)
set_option maxRecDepth 40000 in
theorem kC_X8_hour : Cond.code yX8_hour cX8_hour 1 (some .int) ∈ gs_B := gs_in (i := 624) (rfl) (rfl)
theorem kM_X8_114 : Cond.methodLink RX8 114 yX8_hasMobile ∈ gs_B := gs_in (i := 625) (by decide +kernel) (by decide +kernel)
theorem kI_X8_hasMobile : Cond.instanceMethod yX8_hasMobile ∈ gs_B := gs_in (i := 627) (by decide +kernel) (by decide +kernel)
set_option maxRecDepth 40000 in
theorem kC_X8_hasMobile : Cond.code yX8_hasMobile cX8_hasMobile 1 (some .boolean) ∈ gs_B := gs_in (i := 628) (rfl) (rfl)
theorem kM_L_48 : Cond.methodLink RL 48 yX8_exchange ∈ gs_B := gs_in (i := 629) (by decide +kernel) (by decide +kernel)
theorem kI_X8_exchange : Cond.instanceMethod yX8_exchange ∈ gs_B := gs_in (i := 630) (by decide +kernel) (by decide +kernel)
theorem kS_X8_exchange : Cond.selects RX8 yX8_exchange yX8_exchange ∈ gs_B := gs_in (i := 631) (by decide +kernel) (by decide +kernel)
set_option maxRecDepth 40000 in
theorem kC_X8_exchange : Cond.code yX8_exchange cX8_exchange 3 (some .int) ∈ gs_B := gs_in (i := 632) (rfl) (rfl)
theorem kM_X8_127 : Cond.methodLink RX8 127 yX8_swapThings ∈ gs_B := gs_in (i := 633) (by decide +kernel) (by decide +kernel)
theorem kT_X8_swapThings : Cond.static yX8_swapThings ∈ gs_B := gs_in (i := 634) (by decide +kernel) (by decide +kernel)
set_option maxRecDepth 40000 in
theorem kC_X8_swapThings : Cond.code yX8_swapThings cX8_swapThings 4 none ∈ gs_B := gs_in (i := 635) (rfl) (rfl)
theorem kM_X8_131 : Cond.methodLink RX8 131 yX8_levelNow ∈ gs_B := gs_in (i := 636) (by decide +kernel) (by decide +kernel)
theorem kI_X8_levelNow : Cond.instanceMethod yX8_levelNow ∈ gs_B := gs_in (i := 638) (by decide +kernel) (by decide +kernel)
set_option maxRecDepth 40000 in
theorem kC_X8_levelNow : Cond.code yX8_levelNow cX8_levelNow 1 (some .int) ∈ gs_B := gs_in (i := 639) (rfl) (rfl)
theorem kM_X8_234 : Cond.methodLink RX8 234 yX6_rodsLevel ∈ gs_B := gs_in (i := 640) (by decide +kernel) (by decide +kernel)
theorem kI_X6_rodsLevel : Cond.instanceMethod yX6_rodsLevel ∈ gs_B := gs_in (i := 641) (by decide +kernel) (by decide +kernel)
theorem kS_X6_rodsLevel : Cond.selects RX6 yX6_rodsLevel yX6_rodsLevel ∈ gs_B := gs_in (i := 642) (by decide +kernel) (by decide +kernel)
set_option maxRecDepth 40000 in
theorem kC_X6_rodsLevel : Cond.code yX6_rodsLevel cX6_rodsLevel 4 (some .int) ∈ gs_B := gs_in (i := 643) (rfl) (rfl)
theorem kM_L_52 : Cond.methodLink RL 52 yX8_move ∈ gs_B := gs_in (i := 644) (by decide +kernel) (by decide +kernel)
theorem kI_X8_move : Cond.instanceMethod yX8_move ∈ gs_B := gs_in (i := 645) (by decide +kernel) (by decide +kernel)
theorem kS_X8_move : Cond.selects RX8 yX8_move yX8_move ∈ gs_B := gs_in (i := 646) (by decide +kernel) (by decide +kernel)
set_option maxRecDepth 40000 in
theorem kC_X8_move : Cond.code yX8_move cX8_move 5 (some .int) ∈ gs_B := gs_in (i := 647) (rfl) (rfl)
theorem kM_L_56 : Cond.methodLink RL 56 yX8_cut ∈ gs_B := gs_in (i := 648) (by decide +kernel) (by decide +kernel)
theorem kI_X8_cut : Cond.instanceMethod yX8_cut ∈ gs_B := gs_in (i := 649) (by decide +kernel) (by decide +kernel)
theorem kS_X8_cut : Cond.selects RX8 yX8_cut yX8_cut ∈ gs_B := gs_in (i := 650) (by decide +kernel) (by decide +kernel)
set_option maxRecDepth 40000 in
theorem kC_X8_cut : Cond.code yX8_cut cX8_cut 2 (some .int) ∈ gs_B := gs_in (i := 651) (rfl) (rfl)
theorem kM_L_60 : Cond.methodLink RL 60 yX8_drop ∈ gs_B := gs_in (i := 652) (by decide +kernel) (by decide +kernel)
theorem kI_X8_drop : Cond.instanceMethod yX8_drop ∈ gs_B := gs_in (i := 653) (by decide +kernel) (by decide +kernel)
theorem kS_X8_drop : Cond.selects RX8 yX8_drop yX8_drop ∈ gs_B := gs_in (i := 654) (by decide +kernel) (by decide +kernel)
set_option maxRecDepth 40000 in
theorem kC_X8_drop : Cond.code yX8_drop cX8_drop 2 (some .int) ∈ gs_B := gs_in (i := 655) (rfl) (rfl)
theorem kM_X8_141 : Cond.methodLink RX8 141 yX6_rodsThere ∈ gs_B := gs_in (i := 656) (by decide +kernel) (by decide +kernel)
theorem kI_X6_rodsThere : Cond.instanceMethod yX6_rodsThere ∈ gs_B := gs_in (i := 657) (by decide +kernel) (by decide +kernel)
theorem kS_X6_rodsThere : Cond.selects RX6 yX6_rodsThere yX6_rodsThere ∈ gs_B := gs_in (i := 658) (by decide +kernel) (by decide +kernel)
set_option maxRecDepth 40000 in
theorem kC_X6_rodsThere : Cond.code yX6_rodsThere cX6_rodsThere 4 (some .int) ∈ gs_B := gs_in (i := 659) (rfl) (rfl)
theorem kM_L_64 : Cond.methodLink RL 64 yX8_mend ∈ gs_B := gs_in (i := 660) (by decide +kernel) (by decide +kernel)
theorem kI_X8_mend : Cond.instanceMethod yX8_mend ∈ gs_B := gs_in (i := 661) (by decide +kernel) (by decide +kernel)
theorem kS_X8_mend : Cond.selects RX8 yX8_mend yX8_mend ∈ gs_B := gs_in (i := 662) (by decide +kernel) (by decide +kernel)
set_option maxRecDepth 40000 in
theorem kC_X8_mend : Cond.code yX8_mend cX8_mend 1 (some .int) ∈ gs_B := gs_in (i := 663) (rfl) (rfl)
theorem kM_X8_145 : Cond.methodLink RX8 145 yX3_hangAllAgain ∈ gs_B := gs_in (i := 664) (by decide +kernel) (by decide +kernel)
theorem kM_L_68 : Cond.methodLink RL 68 yX8_change ∈ gs_B := gs_in (i := 665) (by decide +kernel) (by decide +kernel)
theorem kI_X8_change : Cond.instanceMethod yX8_change ∈ gs_B := gs_in (i := 666) (by decide +kernel) (by decide +kernel)
theorem kS_X8_change : Cond.selects RX8 yX8_change yX8_change ∈ gs_B := gs_in (i := 667) (by decide +kernel) (by decide +kernel)
set_option maxRecDepth 40000 in
theorem kC_X8_change : Cond.code yX8_change cX8_change 5 (some .int) ∈ gs_B := gs_in (i := 668) (rfl) (rfl)
theorem kM_X8_148 : Cond.methodLink RX8 148 yX8_isSize ∈ gs_B := gs_in (i := 669) (by decide +kernel) (by decide +kernel)
theorem kT_X8_isSize : Cond.static yX8_isSize ∈ gs_B := gs_in (i := 670) (by decide +kernel) (by decide +kernel)
set_option maxRecDepth 40000 in
theorem kC_X8_isSize : Cond.code yX8_isSize cX8_isSize 1 (some .boolean) ∈ gs_B := gs_in (i := 671) (rfl) (rfl)
theorem kM_L_73 : Cond.methodLink RL 73 yX8_best ∈ gs_B := gs_in (i := 672) (by decide +kernel) (by decide +kernel)
theorem kI_X8_best : Cond.instanceMethod yX8_best ∈ gs_B := gs_in (i := 673) (by decide +kernel) (by decide +kernel)
theorem kS_X8_best : Cond.selects RX8 yX8_best yX8_best ∈ gs_B := gs_in (i := 674) (by decide +kernel) (by decide +kernel)
set_option maxRecDepth 40000 in
theorem kC_X8_best : Cond.code yX8_best cX8_best 1 (some .int) ∈ gs_B := gs_in (i := 675) (rfl) (rfl)
theorem kM_X8_154 : Cond.methodLink RX8 154 yX2_bestExchange ∈ gs_B := gs_in (i := 676) (by decide +kernel) (by decide +kernel)
theorem kI_X2_bestExchange : Cond.instanceMethod yX2_bestExchange ∈ gs_B := gs_in (i := 677) (by decide +kernel) (by decide +kernel)
theorem kS_X2_bestExchange : Cond.selects RX2 yX2_bestExchange yX2_bestExchange ∈ gs_B := gs_in (i := 678) (by decide +kernel) (by decide +kernel)
set_option maxRecDepth 40000 in
theorem kC_X2_bestExchange : Cond.code yX2_bestExchange cX2_bestExchange 7 (some .int) ∈ gs_B := gs_in (i := 679) (rfl) (rfl)
theorem kM_X2_31 : Cond.methodLink RX2 31 yX6_weigh ∈ gs_B := gs_in (i := 680) (by decide +kernel) (by decide +kernel)
theorem kM_X2_35 : Cond.methodLink RX2 35 yX6_rodsLevel ∈ gs_B := gs_in (i := 681) (by decide +kernel) (by decide +kernel)
theorem kM_X2_39 : Cond.methodLink RX2 39 yX2_copyLaid ∈ gs_B := gs_in (i := 682) (by decide +kernel) (by decide +kernel)
theorem kI_X2_copyLaid : Cond.instanceMethod yX2_copyLaid ∈ gs_B := gs_in (i := 684) (by decide +kernel) (by decide +kernel)
set_option maxRecDepth 40000 in
theorem kC_X2_copyLaid : Cond.code yX2_copyLaid cX2_copyLaid 3 none ∈ gs_B := gs_in (i := 685) (rfl) (rfl)
theorem kM_X2_48 : Cond.methodLink RX2 48 yX2_levelIfSwapped ∈ gs_B := gs_in (i := 686) (by decide +kernel) (by decide +kernel)
theorem kI_X2_levelIfSwapped : Cond.instanceMethod yX2_levelIfSwapped ∈ gs_B := gs_in (i := 688) (by decide +kernel) (by decide +kernel)
set_option maxRecDepth 40000 in
theorem kC_X2_levelIfSwapped : Cond.code yX2_levelIfSwapped cX2_levelIfSwapped 4 (some .int) ∈ gs_B := gs_in (i := 689) (rfl) (rfl)
theorem kM_X2_60 : Cond.methodLink RX2 60 yX6_hang ∈ gs_B := gs_in (i := 691) (by decide +kernel) (by decide +kernel)
theorem kM_L_77 : Cond.methodLink RL 77 yX8_lay ∈ gs_B := gs_in (i := 692) (by decide +kernel) (by decide +kernel)
theorem kI_X8_lay : Cond.instanceMethod yX8_lay ∈ gs_B := gs_in (i := 693) (by decide +kernel) (by decide +kernel)
theorem kS_X8_lay : Cond.selects RX8 yX8_lay yX8_lay ∈ gs_B := gs_in (i := 694) (by decide +kernel) (by decide +kernel)
set_option maxRecDepth 40000 in
theorem kC_X8_lay : Cond.code yX8_lay cX8_lay 3 (some .int) ∈ gs_B := gs_in (i := 695) (rfl) (rfl)
theorem kM_X8_160 : Cond.methodLink RX8 160 yX2_findBestLaying ∈ gs_B := gs_in (i := 696) (by decide +kernel) (by decide +kernel)
theorem kI_X2_findBestLaying : Cond.instanceMethod yX2_findBestLaying ∈ gs_B := gs_in (i := 697) (by decide +kernel) (by decide +kernel)
theorem kS_X2_findBestLaying : Cond.selects RX2 yX2_findBestLaying yX2_findBestLaying ∈ gs_B := gs_in (i := 698) (by decide +kernel) (by decide +kernel)
set_option maxRecDepth 40000 in
theorem kC_X2_findBestLaying : Cond.code yX2_findBestLaying cX2_findBestLaying 3 none ∈ gs_B := gs_in (i := 699) (rfl) (rfl)
theorem kM_X2_64 : Cond.methodLink RX2 64 yX2_beginOrders ∈ gs_B := gs_in (i := 700) (by decide +kernel) (by decide +kernel)
theorem kI_X2_beginOrders : Cond.instanceMethod yX2_beginOrders ∈ gs_B := gs_in (i := 702) (by decide +kernel) (by decide +kernel)
set_option maxRecDepth 40000 in
theorem kC_X2_beginOrders : Cond.code yX2_beginOrders cX2_beginOrders 4 none ∈ gs_B := gs_in (i := 703) (rfl) (rfl)
theorem kM_X2_109 : Cond.methodLink RX2 109 yX6_prepare ∈ gs_B := gs_in (i := 704) (by decide +kernel) (by decide +kernel)
theorem kM_X2_73 : Cond.methodLink RX2 73 yX2_layInOrder ∈ gs_B := gs_in (i := 705) (by decide +kernel) (by decide +kernel)
theorem kI_X2_layInOrder : Cond.instanceMethod yX2_layInOrder ∈ gs_B := gs_in (i := 707) (by decide +kernel) (by decide +kernel)
set_option maxRecDepth 40000 in
theorem kC_X2_layInOrder : Cond.code yX2_layInOrder cX2_layInOrder 2 none ∈ gs_B := gs_in (i := 708) (rfl) (rfl)
theorem kM_X2_76 : Cond.methodLink RX2 76 yX6_tiltTogether ∈ gs_B := gs_in (i := 709) (by decide +kernel) (by decide +kernel)
theorem kI_X6_tiltTogether : Cond.instanceMethod yX6_tiltTogether ∈ gs_B := gs_in (i := 710) (by decide +kernel) (by decide +kernel)
theorem kS_X6_tiltTogether : Cond.selects RX6 yX6_tiltTogether yX6_tiltTogether ∈ gs_B := gs_in (i := 711) (by decide +kernel) (by decide +kernel)
set_option maxRecDepth 40000 in
theorem kC_X6_tiltTogether : Cond.code yX6_tiltTogether cX6_tiltTogether 4 (some .int) ∈ gs_B := gs_in (i := 712) (rfl) (rfl)
theorem kM_X6_84 : Cond.methodLink RX6 84 Lib.Math.abs.name ∈ gs_B := gs_in (i := 713) (by decide +kernel) (by decide +kernel)
theorem kT_Math_abs : Cond.static Lib.Math.abs.name ∈ gs_B := gs_in (i := 714) (by decide +kernel) (by decide +kernel)
theorem kC_Math_abs : Cond.code Lib.Math.abs.name Lib.Math.abs.code 1 (some .int) ∈ gs_B := gs_in (i := 715) (by decide +kernel) (by decide +kernel)
theorem kM_X2_79 : Cond.methodLink RX2 79 yX2_keepIfBetter ∈ gs_B := gs_in (i := 716) (by decide +kernel) (by decide +kernel)
theorem kI_X2_keepIfBetter : Cond.instanceMethod yX2_keepIfBetter ∈ gs_B := gs_in (i := 718) (by decide +kernel) (by decide +kernel)
set_option maxRecDepth 40000 in
theorem kC_X2_keepIfBetter : Cond.code yX2_keepIfBetter cX2_keepIfBetter 4 none ∈ gs_B := gs_in (i := 719) (rfl) (rfl)
theorem kM_X2_83 : Cond.methodLink RX2 83 yX2_nextOrder ∈ gs_B := gs_in (i := 720) (by decide +kernel) (by decide +kernel)
theorem kI_X2_nextOrder : Cond.instanceMethod yX2_nextOrder ∈ gs_B := gs_in (i := 722) (by decide +kernel) (by decide +kernel)
set_option maxRecDepth 40000 in
theorem kC_X2_nextOrder : Cond.code yX2_nextOrder cX2_nextOrder 5 none ∈ gs_B := gs_in (i := 723) (rfl) (rfl)
theorem kM_X2_114 : Cond.methodLink RX2 114 yX2_swapAt ∈ gs_B := gs_in (i := 724) (by decide +kernel) (by decide +kernel)
theorem kI_X2_swapAt : Cond.instanceMethod yX2_swapAt ∈ gs_B := gs_in (i := 726) (by decide +kernel) (by decide +kernel)
set_option maxRecDepth 40000 in
theorem kC_X2_swapAt : Cond.code yX2_swapAt cX2_swapAt 4 none ∈ gs_B := gs_in (i := 727) (rfl) (rfl)
theorem kM_L_81 : Cond.methodLink RL 81 yX8_even ∈ gs_B := gs_in (i := 728) (by decide +kernel) (by decide +kernel)
theorem kI_X8_even : Cond.instanceMethod yX8_even ∈ gs_B := gs_in (i := 729) (by decide +kernel) (by decide +kernel)
theorem kS_X8_even : Cond.selects RX8 yX8_even yX8_even ∈ gs_B := gs_in (i := 730) (by decide +kernel) (by decide +kernel)
set_option maxRecDepth 40000 in
theorem kC_X8_even : Cond.code yX8_even cX8_even 1 (some .int) ∈ gs_B := gs_in (i := 731) (rfl) (rfl)
theorem kM_X8_172 : Cond.methodLink RX8 172 yX0_hoursUntilLevel ∈ gs_B := gs_in (i := 732) (by decide +kernel) (by decide +kernel)
theorem kI_X0_hoursUntilLevel : Cond.instanceMethod yX0_hoursUntilLevel ∈ gs_B := gs_in (i := 733) (by decide +kernel) (by decide +kernel)
theorem kS_X0_hoursUntilLevel : Cond.selects RX0 yX0_hoursUntilLevel yX0_hoursUntilLevel ∈ gs_B := gs_in (i := 734) (by decide +kernel) (by decide +kernel)
set_option maxRecDepth 40000 in
theorem kC_X0_hoursUntilLevel : Cond.code yX0_hoursUntilLevel cX0_hoursUntilLevel 3 (some .int) ∈ gs_B := gs_in (i := 735) (rfl) (rfl)
theorem kM_X0_28 : Cond.methodLink RX0 28 yX6_prepare ∈ gs_B := gs_in (i := 736) (by decide +kernel) (by decide +kernel)
theorem kM_X0_33 : Cond.methodLink RX0 33 yX6_hangsLevel ∈ gs_B := gs_in (i := 737) (by decide +kernel) (by decide +kernel)
theorem kI_X6_hangsLevel : Cond.instanceMethod yX6_hangsLevel ∈ gs_B := gs_in (i := 738) (by decide +kernel) (by decide +kernel)
theorem kS_X6_hangsLevel : Cond.selects RX6 yX6_hangsLevel yX6_hangsLevel ∈ gs_B := gs_in (i := 739) (by decide +kernel) (by decide +kernel)
set_option maxRecDepth 40000 in
theorem kC_X6_hangsLevel : Cond.code yX6_hangsLevel cX6_hangsLevel 4 (some .boolean) ∈ gs_B := gs_in (i := 740) (rfl) (rfl)
theorem kM_L_85 : Cond.methodLink RL 85 yX8_odds ∈ gs_B := gs_in (i := 741) (by decide +kernel) (by decide +kernel)
theorem kI_X8_odds : Cond.instanceMethod yX8_odds ∈ gs_B := gs_in (i := 742) (by decide +kernel) (by decide +kernel)
theorem kS_X8_odds : Cond.selects RX8 yX8_odds yX8_odds ∈ gs_B := gs_in (i := 743) (by decide +kernel) (by decide +kernel)
set_option maxRecDepth 40000 in
theorem kC_X8_odds : Cond.code yX8_odds cX8_odds 2 (some .int) ∈ gs_B := gs_in (i := 744) (rfl) (rfl)
theorem kM_X8_175 : Cond.methodLink RX8 175 yX2_findOdds ∈ gs_B := gs_in (i := 745) (by decide +kernel) (by decide +kernel)
theorem kI_X2_findOdds : Cond.instanceMethod yX2_findOdds ∈ gs_B := gs_in (i := 746) (by decide +kernel) (by decide +kernel)
theorem kS_X2_findOdds : Cond.selects RX2 yX2_findOdds yX2_findOdds ∈ gs_B := gs_in (i := 747) (by decide +kernel) (by decide +kernel)
set_option maxRecDepth 40000 in
theorem kC_X2_findOdds : Cond.code yX2_findOdds cX2_findOdds 4 none ∈ gs_B := gs_in (i := 748) (rfl) (rfl)
theorem kM_X2_92 : Cond.methodLink RX2 92 yX6_hangsLevel ∈ gs_B := gs_in (i := 749) (by decide +kernel) (by decide +kernel)
theorem kM_X2_96 : Cond.methodLink RX2 96 yX2_greatestDivisor ∈ gs_B := gs_in (i := 750) (by decide +kernel) (by decide +kernel)
theorem kT_X2_greatestDivisor : Cond.static yX2_greatestDivisor ∈ gs_B := gs_in (i := 751) (by decide +kernel) (by decide +kernel)
set_option maxRecDepth 40000 in
theorem kC_X2_greatestDivisor : Cond.code yX2_greatestDivisor cX2_greatestDivisor 3 (some .int) ∈ gs_B := gs_in (i := 752) (rfl) (rfl)
theorem kM_L_89 : Cond.methodLink RL 89 yX8_see ∈ gs_B := gs_in (i := 753) (by decide +kernel) (by decide +kernel)
theorem kI_X8_see : Cond.instanceMethod yX8_see ∈ gs_B := gs_in (i := 754) (by decide +kernel) (by decide +kernel)
theorem kS_X8_see : Cond.selects RX8 yX8_see yX8_see ∈ gs_B := gs_in (i := 755) (by decide +kernel) (by decide +kernel)
set_option maxRecDepth 40000 in
theorem kC_X8_see : Cond.code yX8_see cX8_see 5 (some .int) ∈ gs_B := gs_in (i := 756) (rfl) (rfl)
theorem kM_X8_193 : Cond.methodLink RX8 193 yX7_add ∈ gs_B := gs_in (i := 757) (by decide +kernel) (by decide +kernel)
theorem kI_X7_add : Cond.instanceMethod yX7_add ∈ gs_B := gs_in (i := 758) (by decide +kernel) (by decide +kernel)
theorem kS_X7_add : Cond.selects RX7 yX7_add yX7_add ∈ gs_B := gs_in (i := 759) (by decide +kernel) (by decide +kernel)
set_option maxRecDepth 40000 in
theorem kC_X7_add : Cond.code yX7_add cX7_add 5 none ∈ gs_B := gs_in (i := 760) (rfl) (rfl)
theorem kM_L_94 : Cond.methodLink RL 94 yX8_forget ∈ gs_B := gs_in (i := 761) (by decide +kernel) (by decide +kernel)
theorem kI_X8_forget : Cond.instanceMethod yX8_forget ∈ gs_B := gs_in (i := 762) (by decide +kernel) (by decide +kernel)
theorem kS_X8_forget : Cond.selects RX8 yX8_forget yX8_forget ∈ gs_B := gs_in (i := 763) (by decide +kernel) (by decide +kernel)
set_option maxRecDepth 40000 in
theorem kC_X8_forget : Cond.code yX8_forget cX8_forget 2 (some .int) ∈ gs_B := gs_in (i := 764) (rfl) (rfl)
theorem kM_L_98 : Cond.methodLink RL 98 yX8_trial ∈ gs_B := gs_in (i := 765) (by decide +kernel) (by decide +kernel)
theorem kI_X8_trial : Cond.instanceMethod yX8_trial ∈ gs_B := gs_in (i := 766) (by decide +kernel) (by decide +kernel)
theorem kS_X8_trial : Cond.selects RX8 yX8_trial yX8_trial ∈ gs_B := gs_in (i := 767) (by decide +kernel) (by decide +kernel)
set_option maxRecDepth 40000 in
theorem kC_X8_trial : Cond.code yX8_trial cX8_trial 3 (some .int) ∈ gs_B := gs_in (i := 768) (rfl) (rfl)
theorem kM_X8_197 : Cond.methodLink RX8 197 yX7_beadToTry ∈ gs_B := gs_in (i := 769) (by decide +kernel) (by decide +kernel)
theorem kI_X7_beadToTry : Cond.instanceMethod yX7_beadToTry ∈ gs_B := gs_in (i := 770) (by decide +kernel) (by decide +kernel)
theorem kS_X7_beadToTry : Cond.selects RX7 yX7_beadToTry yX7_beadToTry ∈ gs_B := gs_in (i := 771) (by decide +kernel) (by decide +kernel)
set_option maxRecDepth 40000 in
theorem kC_X7_beadToTry : Cond.code yX7_beadToTry cX7_beadToTry 11 (some .int) ∈ gs_B := gs_in (i := 772) (rfl) (rfl)
theorem kM_X7_32 : Cond.methodLink RX7 32 yX7_sizesOf ∈ gs_B := gs_in (i := 773) (by decide +kernel) (by decide +kernel)
theorem kM_X7_36 : Cond.methodLink RX7 36 yJ6_bitCount_0f7a4 ∈ gs_B := gs_in (i := 774) (by decide +kernel) (by decide +kernel)
theorem kT_J6_bitCount_0f7a4 : Cond.static yJ6_bitCount_0f7a4 ∈ gs_B := gs_in (i := 775) (by decide +kernel) (by decide +kernel)
set_option maxRecDepth 40000 in
theorem kC_J6_bitCount_0f7a4 : Cond.code yJ6_bitCount_0f7a4 cJ6_bitCount_0f7a4 1 (some .int) ∈ gs_B := gs_in (i := 776) (rfl) (rfl)
theorem kK_J6_265 : Cond.constant RJ6 265 (1431655765) ∈ gs_B := gs_in (i := 777) (by decide +kernel) (by decide +kernel)
theorem kK_J6_266 : Cond.constant RJ6 266 (858993459) ∈ gs_B := gs_in (i := 778) (by decide +kernel) (by decide +kernel)
theorem kK_J6_267 : Cond.constant RJ6 267 (252645135) ∈ gs_B := gs_in (i := 779) (by decide +kernel) (by decide +kernel)
theorem kM_X7_42 : Cond.methodLink RX7 42 Lib.Math.max.name ∈ gs_B := gs_in (i := 780) (by decide +kernel) (by decide +kernel)
theorem kM_L_102 : Cond.methodLink RL 102 yX8_evenings ∈ gs_B := gs_in (i := 781) (by decide +kernel) (by decide +kernel)
theorem kI_X8_evenings : Cond.instanceMethod yX8_evenings ∈ gs_B := gs_in (i := 782) (by decide +kernel) (by decide +kernel)
theorem kS_X8_evenings : Cond.selects RX8 yX8_evenings yX8_evenings ∈ gs_B := gs_in (i := 783) (by decide +kernel) (by decide +kernel)
set_option maxRecDepth 40000 in
theorem kC_X8_evenings : Cond.code yX8_evenings cX8_evenings 4 (some .int) ∈ gs_B := gs_in (i := 784) (rfl) (rfl)
theorem kM_X8_201 : Cond.methodLink RX8 201 yX0_pass ∈ gs_B := gs_in (i := 785) (by decide +kernel) (by decide +kernel)
theorem kI_X0_pass : Cond.instanceMethod yX0_pass ∈ gs_B := gs_in (i := 786) (by decide +kernel) (by decide +kernel)
theorem kS_X0_pass : Cond.selects RX0 yX0_pass yX0_pass ∈ gs_B := gs_in (i := 787) (by decide +kernel) (by decide +kernel)
set_option maxRecDepth 40000 in
theorem kC_X0_pass : Cond.code yX0_pass cX0_pass 7 none ∈ gs_B := gs_in (i := 788) (rfl) (rfl)
theorem kM_X0_46 : Cond.methodLink RX0 46 yX0_draw ∈ gs_B := gs_in (i := 789) (by decide +kernel) (by decide +kernel)
theorem kI_X0_draw : Cond.instanceMethod yX0_draw ∈ gs_B := gs_in (i := 791) (by decide +kernel) (by decide +kernel)
set_option maxRecDepth 40000 in
theorem kC_X0_draw : Cond.code yX0_draw cX0_draw 2 (some .int) ∈ gs_B := gs_in (i := 792) (rfl) (rfl)
theorem kK_X0_72 : Cond.constantLong RX0 72 (1103515245) ∈ gs_B := gs_in (i := 793) (by decide +kernel) (by decide +kernel)
theorem kK_X0_74 : Cond.constantLong RX0 74 (12345) ∈ gs_B := gs_in (i := 794) (by decide +kernel) (by decide +kernel)
theorem kK_X0_76 : Cond.constantLong RX0 76 (2147483647) ∈ gs_B := gs_in (i := 795) (by decide +kernel) (by decide +kernel)
theorem kK_X0_78 : Cond.constant RX0 78 (65536) ∈ gs_B := gs_in (i := 796) (by decide +kernel) (by decide +kernel)
theorem kM_X0_58 : Cond.methodLink RX0 58 yX6_hang ∈ gs_B := gs_in (i := 798) (by decide +kernel) (by decide +kernel)
theorem kM_X0_62 : Cond.methodLink RX0 62 yX6_rodsLevel ∈ gs_B := gs_in (i := 799) (by decide +kernel) (by decide +kernel)
theorem kM_L_106 : Cond.methodLink RL 106 yX8_image ∈ gs_B := gs_in (i := 800) (by decide +kernel) (by decide +kernel)
theorem kI_X8_image : Cond.instanceMethod yX8_image ∈ gs_B := gs_in (i := 801) (by decide +kernel) (by decide +kernel)
theorem kS_X8_image : Cond.selects RX8 yX8_image yX8_image ∈ gs_B := gs_in (i := 802) (by decide +kernel) (by decide +kernel)
set_option maxRecDepth 40000 in
theorem kC_X8_image : Cond.code yX8_image cX8_image 1 (some .int) ∈ gs_B := gs_in (i := 803) (rfl) (rfl)
theorem kM_X8_214 : Cond.methodLink RX8 214 yX3_copyFrom ∈ gs_B := gs_in (i := 804) (by decide +kernel) (by decide +kernel)
theorem kI_X3_copyFrom : Cond.instanceMethod yX3_copyFrom ∈ gs_B := gs_in (i := 805) (by decide +kernel) (by decide +kernel)
theorem kS_X3_copyFrom : Cond.selects RX3 yX3_copyFrom yX3_copyFrom ∈ gs_B := gs_in (i := 806) (by decide +kernel) (by decide +kernel)
set_option maxRecDepth 40000 in
theorem kC_X3_copyFrom : Cond.code yX3_copyFrom cX3_copyFrom 3 none ∈ gs_B := gs_in (i := 807) (rfl) (rfl)
theorem kM_X3_70 : Cond.methodLink RX3 70 yX7_copyFrom ∈ gs_B := gs_in (i := 808) (by decide +kernel) (by decide +kernel)
theorem kI_X7_copyFrom : Cond.instanceMethod yX7_copyFrom ∈ gs_B := gs_in (i := 809) (by decide +kernel) (by decide +kernel)
theorem kS_X7_copyFrom : Cond.selects RX7 yX7_copyFrom yX7_copyFrom ∈ gs_B := gs_in (i := 810) (by decide +kernel) (by decide +kernel)
set_option maxRecDepth 40000 in
theorem kC_X7_copyFrom : Cond.code yX7_copyFrom cX7_copyFrom 3 none ∈ gs_B := gs_in (i := 811) (rfl) (rfl)
theorem kM_L_110 : Cond.methodLink RL 110 yX8_restore ∈ gs_B := gs_in (i := 812) (by decide +kernel) (by decide +kernel)
theorem kI_X8_restore : Cond.instanceMethod yX8_restore ∈ gs_B := gs_in (i := 813) (by decide +kernel) (by decide +kernel)
theorem kS_X8_restore : Cond.selects RX8 yX8_restore yX8_restore ∈ gs_B := gs_in (i := 814) (by decide +kernel) (by decide +kernel)
set_option maxRecDepth 40000 in
theorem kC_X8_restore : Cond.code yX8_restore cX8_restore 1 (some .int) ∈ gs_B := gs_in (i := 815) (rfl) (rfl)
theorem kM_L_114 : Cond.methodLink RL 114 yX8_count ∈ gs_B := gs_in (i := 816) (by decide +kernel) (by decide +kernel)
theorem kI_X8_count : Cond.instanceMethod yX8_count ∈ gs_B := gs_in (i := 817) (by decide +kernel) (by decide +kernel)
theorem kS_X8_count : Cond.selects RX8 yX8_count yX8_count ∈ gs_B := gs_in (i := 818) (by decide +kernel) (by decide +kernel)
set_option maxRecDepth 40000 in
theorem kC_X8_count : Cond.code yX8_count cX8_count 2 (some .int) ∈ gs_B := gs_in (i := 819) (rfl) (rfl)
theorem kM_X8_217 : Cond.methodLink RX8 217 yX8_countOf ∈ gs_B := gs_in (i := 820) (by decide +kernel) (by decide +kernel)
theorem kI_X8_countOf : Cond.instanceMethod yX8_countOf ∈ gs_B := gs_in (i := 822) (by decide +kernel) (by decide +kernel)
set_option maxRecDepth 40000 in
theorem kC_X8_countOf : Cond.code yX8_countOf cX8_countOf 2 (some .int) ∈ gs_B := gs_in (i := 823) (rfl) (rfl)
theorem kM_X8_266 : Cond.methodLink RX8 266 yX6_thingsThere ∈ gs_B := gs_in (i := 824) (by decide +kernel) (by decide +kernel)
theorem kI_X6_thingsThere : Cond.instanceMethod yX6_thingsThere ∈ gs_B := gs_in (i := 825) (by decide +kernel) (by decide +kernel)
theorem kS_X6_thingsThere : Cond.selects RX6 yX6_thingsThere yX6_thingsThere ∈ gs_B := gs_in (i := 826) (by decide +kernel) (by decide +kernel)
set_option maxRecDepth 40000 in
theorem kC_X6_thingsThere : Cond.code yX6_thingsThere cX6_thingsThere 5 (some .int) ∈ gs_B := gs_in (i := 827) (rfl) (rfl)
theorem kM_X6_80 : Cond.methodLink RX6 80 yX3_armOf ∈ gs_B := gs_in (i := 828) (by decide +kernel) (by decide +kernel)
theorem kM_L_118 : Cond.methodLink RL 118 yX8_digest ∈ gs_B := gs_in (i := 829) (by decide +kernel) (by decide +kernel)
theorem kI_X8_digest : Cond.instanceMethod yX8_digest ∈ gs_B := gs_in (i := 830) (by decide +kernel) (by decide +kernel)
theorem kS_X8_digest : Cond.selects RX8 yX8_digest yX8_digest ∈ gs_B := gs_in (i := 831) (by decide +kernel) (by decide +kernel)
set_option maxRecDepth 40000 in
theorem kC_X8_digest : Cond.code yX8_digest cX8_digest 5 (some .long) ∈ gs_B := gs_in (i := 832) (rfl) (rfl)
theorem kK_X8_221 : Cond.constantLong RX8 221 (1303) ∈ gs_B := gs_in (i := 833) (by decide +kernel) (by decide +kernel)
theorem kK_X8_226 : Cond.constantLong RX8 226 (31) ∈ gs_B := gs_in (i := 834) (by decide +kernel) (by decide +kernel)
theorem kM_X8_228 : Cond.methodLink RX8 228 yX8_best ∈ gs_B := gs_in (i := 835) (by decide +kernel) (by decide +kernel)
theorem kM_X8_231 : Cond.methodLink RX8 231 yX8_even ∈ gs_B := gs_in (i := 836) (by decide +kernel) (by decide +kernel)
theorem kM_L_12 : Cond.methodLink RL 12 yX9_init ∈ gs_B := gs_in (i := 839) (by decide +kernel) (by decide +kernel)
theorem kI_X9_init : Cond.instanceMethod yX9_init ∈ gs_B := gs_in (i := 840) (by decide +kernel) (by decide +kernel)
set_option maxRecDepth 40000 in
theorem kC_X9_init : Cond.code yX9_init cX9_init 1 none ∈ gs_B := gs_in (i := 841) (rfl) (rfl)
theorem kF_X9_7 : Cond.fieldLink RX9 7 RX9 "page" "[I" ∈ gs_B := gs_in (i := 843) (by decide +kernel) (by decide +kernel)
theorem kF_X9_68 : Cond.fieldLink RX9 68 RX9 "pageMany" "I" ∈ gs_B := gs_in (i := 844) (by decide +kernel) (by decide +kernel)
theorem kF_X9_84 : Cond.fieldLink RX9 84 RX9 "end" "I" ∈ gs_B := gs_in (i := 845) (by decide +kernel) (by decide +kernel)
theorem kF_X9_73 : Cond.fieldLink RX9 73 RX9 "toldRods" "I" ∈ gs_B := gs_in (i := 846) (by decide +kernel) (by decide +kernel)
theorem kF_X9_104 : Cond.fieldLink RX9 104 RX9 "rods" "I" ∈ gs_B := gs_in (i := 847) (by decide +kernel) (by decide +kernel)
theorem kF_X9_107 : Cond.fieldLink RX9 107 RX9 "things" "I" ∈ gs_B := gs_in (i := 848) (by decide +kernel) (by decide +kernel)
theorem kF_X9_110 : Cond.fieldLink RX9 110 RX9 "hours" "I" ∈ gs_B := gs_in (i := 849) (by decide +kernel) (by decide +kernel)
theorem kF_X9_122 : Cond.fieldLink RX9 122 RX9 "mobilesRead" "I" ∈ gs_B := gs_in (i := 850) (by decide +kernel) (by decide +kernel)
theorem kF_X9_113 : Cond.fieldLink RX9 113 RX9 "cutRods" "I" ∈ gs_B := gs_in (i := 851) (by decide +kernel) (by decide +kernel)
theorem kF_X9_116 : Cond.fieldLink RX9 116 RX9 "cutThings" "I" ∈ gs_B := gs_in (i := 852) (by decide +kernel) (by decide +kernel)
theorem kF_X9_13 : Cond.fieldLink RX9 13 RX9 "arms" "[I" ∈ gs_B := gs_in (i := 853) (by decide +kernel) (by decide +kernel)
theorem kF_X9_16 : Cond.fieldLink RX9 16 RX9 "hangs" "[I" ∈ gs_B := gs_in (i := 854) (by decide +kernel) (by decide +kernel)
theorem kF_X9_19 : Cond.fieldLink RX9 19 RX9 "placeArm" "[I" ∈ gs_B := gs_in (i := 855) (by decide +kernel) (by decide +kernel)
theorem kF_X9_22 : Cond.fieldLink RX9 22 RX9 "kinds" "[I" ∈ gs_B := gs_in (i := 856) (by decide +kernel) (by decide +kernel)
theorem kF_X9_25 : Cond.fieldLink RX9 25 RX9 "sizes" "[I" ∈ gs_B := gs_in (i := 857) (by decide +kernel) (by decide +kernel)
theorem kF_X9_28 : Cond.fieldLink RX9 28 RX9 "laid" "[I" ∈ gs_B := gs_in (i := 858) (by decide +kernel) (by decide +kernel)
theorem kF_X9_31 : Cond.fieldLink RX9 31 RX9 "laidThen" "[I" ∈ gs_B := gs_in (i := 859) (by decide +kernel) (by decide +kernel)
theorem kF_X9_129 : Cond.fieldLink RX9 129 RX9 "hourThen" "I" ∈ gs_B := gs_in (i := 860) (by decide +kernel) (by decide +kernel)
theorem kF_X9_34 : Cond.fieldLink RX9 34 RX9 "weights" "[I" ∈ gs_B := gs_in (i := 861) (by decide +kernel) (by decide +kernel)
theorem kF_X9_37 : Cond.fieldLink RX9 37 RX9 "tilts" "[I" ∈ gs_B := gs_in (i := 862) (by decide +kernel) (by decide +kernel)
theorem kF_X9_221 : Cond.fieldLink RX9 221 RX9 "laysDone" "I" ∈ gs_B := gs_in (i := 863) (by decide +kernel) (by decide +kernel)
theorem kF_X9_119 : Cond.fieldLink RX9 119 RX9 "seenMany" "I" ∈ gs_B := gs_in (i := 864) (by decide +kernel) (by decide +kernel)
theorem kF_X9_40 : Cond.fieldLink RX9 40 RX9 "sights" "[I" ∈ gs_B := gs_in (i := 865) (by decide +kernel) (by decide +kernel)
theorem kF_X9_244 : Cond.fieldLink RX9 244 RX9 "seedNow" "I" ∈ gs_B := gs_in (i := 866) (by decide +kernel) (by decide +kernel)
theorem kF_X9_58 : Cond.fieldLink RX9 58 RX9 "keptMobile" "I" ∈ gs_B := gs_in (i := 867) (by decide +kernel) (by decide +kernel)
theorem kF_X9_257 : Cond.fieldLink RX9 257 RX9 "keptHours" "I" ∈ gs_B := gs_in (i := 868) (by decide +kernel) (by decide +kernel)
theorem kF_X9_260 : Cond.fieldLink RX9 260 RX9 "keptCutRods" "I" ∈ gs_B := gs_in (i := 869) (by decide +kernel) (by decide +kernel)
theorem kF_X9_263 : Cond.fieldLink RX9 263 RX9 "keptCutThings" "I" ∈ gs_B := gs_in (i := 870) (by decide +kernel) (by decide +kernel)
theorem kF_X9_266 : Cond.fieldLink RX9 266 RX9 "keptSeen" "I" ∈ gs_B := gs_in (i := 871) (by decide +kernel) (by decide +kernel)
theorem kF_X9_43 : Cond.fieldLink RX9 43 RX9 "keptArms" "[I" ∈ gs_B := gs_in (i := 872) (by decide +kernel) (by decide +kernel)
theorem kF_X9_46 : Cond.fieldLink RX9 46 RX9 "keptKinds" "[I" ∈ gs_B := gs_in (i := 873) (by decide +kernel) (by decide +kernel)
theorem kF_X9_49 : Cond.fieldLink RX9 49 RX9 "keptSizes" "[I" ∈ gs_B := gs_in (i := 874) (by decide +kernel) (by decide +kernel)
theorem kF_X9_52 : Cond.fieldLink RX9 52 RX9 "keptLaid" "[I" ∈ gs_B := gs_in (i := 875) (by decide +kernel) (by decide +kernel)
theorem kF_X9_55 : Cond.fieldLink RX9 55 RX9 "keptSights" "[I" ∈ gs_B := gs_in (i := 876) (by decide +kernel) (by decide +kernel)
theorem kF_X9_280 : Cond.fieldLink RX9 280 RX9 "hash" "J" ∈ gs_B := gs_in (i := 877) (by decide +kernel) (by decide +kernel)
theorem kM_L_17 : Cond.methodLink RL 17 yX9_letter ∈ gs_B := gs_in (i := 949) (by decide +kernel) (by decide +kernel)
theorem kI_X9_letter : Cond.instanceMethod yX9_letter ∈ gs_B := gs_in (i := 950) (by decide +kernel) (by decide +kernel)
theorem kS_X9_letter : Cond.selects RX9 yX9_letter yX9_letter ∈ gs_B := gs_in (i := 951) (by decide +kernel) (by decide +kernel)
set_option maxRecDepth 40000 in
theorem kC_X9_letter : Cond.code yX9_letter cX9_letter 2 (some .int) ∈ gs_B := gs_in (i := 952) (rfl) (rfl)
theorem kK_X9_62 : Cond.constantLong RX9 62 (126) ∈ gs_B := gs_in (i := 953) (by decide +kernel) (by decide +kernel)
theorem kM_X9_64 : Cond.methodLink RX9 64 yX9_in ∈ gs_B := gs_in (i := 954) (by decide +kernel) (by decide +kernel)
theorem kT_X9_in : Cond.static yX9_in ∈ gs_B := gs_in (i := 955) (by decide +kernel) (by decide +kernel)
set_option maxRecDepth 40000 in
theorem kC_X9_in : Cond.code yX9_in cX9_in 6 (some .boolean) ∈ gs_B := gs_in (i := 956) (rfl) (rfl)
theorem kM_L_22 : Cond.methodLink RL 22 yX9_blank ∈ gs_B := gs_in (i := 957) (by decide +kernel) (by decide +kernel)
theorem kI_X9_blank : Cond.instanceMethod yX9_blank ∈ gs_B := gs_in (i := 958) (by decide +kernel) (by decide +kernel)
theorem kS_X9_blank : Cond.selects RX9 yX9_blank yX9_blank ∈ gs_B := gs_in (i := 959) (by decide +kernel) (by decide +kernel)
set_option maxRecDepth 40000 in
theorem kC_X9_blank : Cond.code yX9_blank cX9_blank 2 (some .int) ∈ gs_B := gs_in (i := 960) (rfl) (rfl)
theorem kM_L_26 : Cond.methodLink RL 26 yX9_fault ∈ gs_B := gs_in (i := 961) (by decide +kernel) (by decide +kernel)
theorem kI_X9_fault : Cond.instanceMethod yX9_fault ∈ gs_B := gs_in (i := 962) (by decide +kernel) (by decide +kernel)
theorem kS_X9_fault : Cond.selects RX9 yX9_fault yX9_fault ∈ gs_B := gs_in (i := 963) (by decide +kernel) (by decide +kernel)
set_option maxRecDepth 40000 in
theorem kC_X9_fault : Cond.code yX9_fault cX9_fault 1 (some .int) ∈ gs_B := gs_in (i := 964) (rfl) (rfl)
theorem kM_X9_100 : Cond.methodLink RX9 100 yX9_faultOf ∈ gs_B := gs_in (i := 965) (by decide +kernel) (by decide +kernel)
theorem kI_X9_faultOf : Cond.instanceMethod yX9_faultOf ∈ gs_B := gs_in (i := 967) (by decide +kernel) (by decide +kernel)
set_option maxRecDepth 40000 in
theorem kC_X9_faultOf : Cond.code yX9_faultOf cX9_faultOf 2 (some .int) ∈ gs_B := gs_in (i := 968) (rfl) (rfl)
theorem kM_X9_93 : Cond.methodLink RX9 93 yX9_isRodLetter ∈ gs_B := gs_in (i := 969) (by decide +kernel) (by decide +kernel)
theorem kI_X9_isRodLetter : Cond.instanceMethod yX9_isRodLetter ∈ gs_B := gs_in (i := 971) (by decide +kernel) (by decide +kernel)
set_option maxRecDepth 40000 in
theorem kC_X9_isRodLetter : Cond.code yX9_isRodLetter cX9_isRodLetter 4 (some .boolean) ∈ gs_B := gs_in (i := 972) (rfl) (rfl)
theorem kK_X9_76 : Cond.constantLong RX9 76 (49) ∈ gs_B := gs_in (i := 973) (by decide +kernel) (by decide +kernel)
theorem kK_X9_78 : Cond.constantLong RX9 78 (57) ∈ gs_B := gs_in (i := 974) (by decide +kernel) (by decide +kernel)
theorem kM_X9_80 : Cond.methodLink RX9 80 yX9_isHanging ∈ gs_B := gs_in (i := 975) (by decide +kernel) (by decide +kernel)
theorem kI_X9_isHanging : Cond.instanceMethod yX9_isHanging ∈ gs_B := gs_in (i := 977) (by decide +kernel) (by decide +kernel)
set_option maxRecDepth 40000 in
theorem kC_X9_isHanging : Cond.code yX9_isHanging cX9_isHanging 5 (some .boolean) ∈ gs_B := gs_in (i := 978) (rfl) (rfl)
theorem kK_X9_71 : Cond.constantLong RX9 71 (4) ∈ gs_B := gs_in (i := 979) (by decide +kernel) (by decide +kernel)
theorem kM_X9_97 : Cond.methodLink RX9 97 yX9_isThingLetter ∈ gs_B := gs_in (i := 980) (by decide +kernel) (by decide +kernel)
theorem kI_X9_isThingLetter : Cond.instanceMethod yX9_isThingLetter ∈ gs_B := gs_in (i := 982) (by decide +kernel) (by decide +kernel)
set_option maxRecDepth 40000 in
theorem kC_X9_isThingLetter : Cond.code yX9_isThingLetter cX9_isThingLetter 5 (some .boolean) ∈ gs_B := gs_in (i := 983) (rfl) (rfl)
theorem kM_X9_87 : Cond.methodLink RX9 87 yX9_kindBy ∈ gs_B := gs_in (i := 984) (by decide +kernel) (by decide +kernel)
theorem kT_X9_kindBy : Cond.static yX9_kindBy ∈ gs_B := gs_in (i := 985) (by decide +kernel) (by decide +kernel)
set_option maxRecDepth 40000 in
theorem kC_X9_kindBy : Cond.code yX9_kindBy cX9_kindBy 1 (some .int) ∈ gs_B := gs_in (i := 986) (rfl) (rfl)
theorem kK_X9_91 : Cond.constantLong RX9 91 (48) ∈ gs_B := gs_in (i := 987) (by decide +kernel) (by decide +kernel)
theorem kM_L_30 : Cond.methodLink RL 30 yX9_mobile ∈ gs_B := gs_in (i := 988) (by decide +kernel) (by decide +kernel)
theorem kI_X9_mobile : Cond.instanceMethod yX9_mobile ∈ gs_B := gs_in (i := 989) (by decide +kernel) (by decide +kernel)
theorem kS_X9_mobile : Cond.selects RX9 yX9_mobile yX9_mobile ∈ gs_B := gs_in (i := 990) (by decide +kernel) (by decide +kernel)
set_option maxRecDepth 40000 in
theorem kC_X9_mobile : Cond.code yX9_mobile cX9_mobile 5 (some .int) ∈ gs_B := gs_in (i := 991) (rfl) (rfl)
theorem kM_L_35 : Cond.methodLink RL 35 yX9_rod ∈ gs_B := gs_in (i := 992) (by decide +kernel) (by decide +kernel)
theorem kI_X9_rod : Cond.instanceMethod yX9_rod ∈ gs_B := gs_in (i := 993) (by decide +kernel) (by decide +kernel)
theorem kS_X9_rod : Cond.selects RX9 yX9_rod yX9_rod ∈ gs_B := gs_in (i := 994) (by decide +kernel) (by decide +kernel)
set_option maxRecDepth 40000 in
theorem kC_X9_rod : Cond.code yX9_rod cX9_rod 3 (some .int) ∈ gs_B := gs_in (i := 995) (rfl) (rfl)
theorem kM_X9_163 : Cond.methodLink RX9 163 yX9_isRod ∈ gs_B := gs_in (i := 996) (by decide +kernel) (by decide +kernel)
theorem kI_X9_isRod : Cond.instanceMethod yX9_isRod ∈ gs_B := gs_in (i := 998) (by decide +kernel) (by decide +kernel)
set_option maxRecDepth 40000 in
theorem kC_X9_isRod : Cond.code yX9_isRod cX9_isRod 2 (some .boolean) ∈ gs_B := gs_in (i := 999) (rfl) (rfl)
theorem kM_X9_166 : Cond.methodLink RX9 166 yX9_tellRod ∈ gs_B := gs_in (i := 1000) (by decide +kernel) (by decide +kernel)
theorem kI_X9_tellRod : Cond.instanceMethod yX9_tellRod ∈ gs_B := gs_in (i := 1002) (by decide +kernel) (by decide +kernel)
set_option maxRecDepth 40000 in
theorem kC_X9_tellRod : Cond.code yX9_tellRod cX9_tellRod 3 (some .int) ∈ gs_B := gs_in (i := 1003) (rfl) (rfl)
theorem kM_X9_148 : Cond.methodLink RX9 148 yX9_begin ∈ gs_B := gs_in (i := 1004) (by decide +kernel) (by decide +kernel)
theorem kI_X9_begin : Cond.instanceMethod yX9_begin ∈ gs_B := gs_in (i := 1006) (by decide +kernel) (by decide +kernel)
set_option maxRecDepth 40000 in
theorem kC_X9_begin : Cond.code yX9_begin cX9_begin 1 none ∈ gs_B := gs_in (i := 1007) (rfl) (rfl)
theorem kM_X9_125 : Cond.methodLink RX9 125 yX9_copy ∈ gs_B := gs_in (i := 1008) (by decide +kernel) (by decide +kernel)
theorem kT_X9_copy : Cond.static yX9_copy ∈ gs_B := gs_in (i := 1009) (by decide +kernel) (by decide +kernel)
set_option maxRecDepth 40000 in
theorem kC_X9_copy : Cond.code yX9_copy cX9_copy 3 none ∈ gs_B := gs_in (i := 1010) (rfl) (rfl)
theorem kM_X9_142 : Cond.methodLink RX9 142 yX9_layTilts ∈ gs_B := gs_in (i := 1011) (by decide +kernel) (by decide +kernel)
theorem kI_X9_layTilts : Cond.instanceMethod yX9_layTilts ∈ gs_B := gs_in (i := 1013) (by decide +kernel) (by decide +kernel)
set_option maxRecDepth 40000 in
theorem kC_X9_layTilts : Cond.code yX9_layTilts cX9_layTilts 4 none ∈ gs_B := gs_in (i := 1014) (rfl) (rfl)
theorem kM_X9_139 : Cond.methodLink RX9 139 yX9_hungThen ∈ gs_B := gs_in (i := 1015) (by decide +kernel) (by decide +kernel)
theorem kI_X9_hungThen : Cond.instanceMethod yX9_hungThen ∈ gs_B := gs_in (i := 1017) (by decide +kernel) (by decide +kernel)
set_option maxRecDepth 40000 in
theorem kC_X9_hungThen : Cond.code yX9_hungThen cX9_hungThen 3 (some .int) ∈ gs_B := gs_in (i := 1018) (rfl) (rfl)
theorem kM_X9_136 : Cond.methodLink RX9 136 yX9_thingThen ∈ gs_B := gs_in (i := 1019) (by decide +kernel) (by decide +kernel)
theorem kI_X9_thingThen : Cond.instanceMethod yX9_thingThen ∈ gs_B := gs_in (i := 1021) (by decide +kernel) (by decide +kernel)
set_option maxRecDepth 40000 in
theorem kC_X9_thingThen : Cond.code yX9_thingThen cX9_thingThen 2 (some .int) ∈ gs_B := gs_in (i := 1022) (rfl) (rfl)
theorem kM_X9_132 : Cond.methodLink RX9 132 yX9_weighsBy ∈ gs_B := gs_in (i := 1023) (by decide +kernel) (by decide +kernel)
theorem kT_X9_weighsBy : Cond.static yX9_weighsBy ∈ gs_B := gs_in (i := 1024) (by decide +kernel) (by decide +kernel)
set_option maxRecDepth 40000 in
theorem kC_X9_weighsBy : Cond.code yX9_weighsBy cX9_weighsBy 3 (some .int) ∈ gs_B := gs_in (i := 1025) (rfl) (rfl)
theorem kM_X9_154 : Cond.methodLink RX9 154 yX9_hangsOf ∈ gs_B := gs_in (i := 1026) (by decide +kernel) (by decide +kernel)
theorem kI_X9_hangsOf : Cond.instanceMethod yX9_hangsOf ∈ gs_B := gs_in (i := 1028) (by decide +kernel) (by decide +kernel)
set_option maxRecDepth 40000 in
theorem kC_X9_hangsOf : Cond.code yX9_hangsOf cX9_hangsOf 2 (some .int) ∈ gs_B := gs_in (i := 1029) (rfl) (rfl)
theorem kM_X9_145 : Cond.methodLink RX9 145 yX9_there ∈ gs_B := gs_in (i := 1030) (by decide +kernel) (by decide +kernel)
theorem kI_X9_there : Cond.instanceMethod yX9_there ∈ gs_B := gs_in (i := 1032) (by decide +kernel) (by decide +kernel)
set_option maxRecDepth 40000 in
theorem kC_X9_there : Cond.code yX9_there cX9_there 5 (some .int) ∈ gs_B := gs_in (i := 1033) (rfl) (rfl)
theorem kM_X9_157 : Cond.methodLink RX9 157 yX9_hookOf ∈ gs_B := gs_in (i := 1034) (by decide +kernel) (by decide +kernel)
theorem kI_X9_hookOf : Cond.instanceMethod yX9_hookOf ∈ gs_B := gs_in (i := 1036) (by decide +kernel) (by decide +kernel)
set_option maxRecDepth 40000 in
theorem kC_X9_hookOf : Cond.code yX9_hookOf cX9_hookOf 6 (some .int) ∈ gs_B := gs_in (i := 1037) (rfl) (rfl)
theorem kM_X9_160 : Cond.methodLink RX9 160 yX9_addOf ∈ gs_B := gs_in (i := 1038) (by decide +kernel) (by decide +kernel)
theorem kI_X9_addOf : Cond.instanceMethod yX9_addOf ∈ gs_B := gs_in (i := 1040) (by decide +kernel) (by decide +kernel)
set_option maxRecDepth 40000 in
theorem kC_X9_addOf : Cond.code yX9_addOf cX9_addOf 3 (some .int) ∈ gs_B := gs_in (i := 1041) (rfl) (rfl)
theorem kM_L_39 : Cond.methodLink RL 39 yX9_thing ∈ gs_B := gs_in (i := 1042) (by decide +kernel) (by decide +kernel)
theorem kI_X9_thing : Cond.instanceMethod yX9_thing ∈ gs_B := gs_in (i := 1043) (by decide +kernel) (by decide +kernel)
theorem kS_X9_thing : Cond.selects RX9 yX9_thing yX9_thing ∈ gs_B := gs_in (i := 1044) (by decide +kernel) (by decide +kernel)
set_option maxRecDepth 40000 in
theorem kC_X9_thing : Cond.code yX9_thing cX9_thing 3 (some .int) ∈ gs_B := gs_in (i := 1045) (rfl) (rfl)
theorem kM_X9_176 : Cond.methodLink RX9 176 yX9_isThing ∈ gs_B := gs_in (i := 1046) (by decide +kernel) (by decide +kernel)
theorem kI_X9_isThing : Cond.instanceMethod yX9_isThing ∈ gs_B := gs_in (i := 1048) (by decide +kernel) (by decide +kernel)
set_option maxRecDepth 40000 in
theorem kC_X9_isThing : Cond.code yX9_isThing cX9_isThing 2 (some .boolean) ∈ gs_B := gs_in (i := 1049) (rfl) (rfl)
theorem kM_X9_179 : Cond.methodLink RX9 179 yX9_tellThing ∈ gs_B := gs_in (i := 1050) (by decide +kernel) (by decide +kernel)
theorem kI_X9_tellThing : Cond.instanceMethod yX9_tellThing ∈ gs_B := gs_in (i := 1052) (by decide +kernel) (by decide +kernel)
set_option maxRecDepth 40000 in
theorem kC_X9_tellThing : Cond.code yX9_tellThing cX9_tellThing 3 (some .int) ∈ gs_B := gs_in (i := 1053) (rfl) (rfl)
theorem kM_X9_170 : Cond.methodLink RX9 170 yX9_armOf ∈ gs_B := gs_in (i := 1054) (by decide +kernel) (by decide +kernel)
theorem kI_X9_armOf : Cond.instanceMethod yX9_armOf ∈ gs_B := gs_in (i := 1056) (by decide +kernel) (by decide +kernel)
set_option maxRecDepth 40000 in
theorem kC_X9_armOf : Cond.code yX9_armOf cX9_armOf 3 (some .int) ∈ gs_B := gs_in (i := 1057) (rfl) (rfl)
theorem kM_X9_173 : Cond.methodLink RX9 173 yX9_sizesOf ∈ gs_B := gs_in (i := 1058) (by decide +kernel) (by decide +kernel)
theorem kI_X9_sizesOf : Cond.instanceMethod yX9_sizesOf ∈ gs_B := gs_in (i := 1060) (by decide +kernel) (by decide +kernel)
set_option maxRecDepth 40000 in
theorem kC_X9_sizesOf : Cond.code yX9_sizesOf cX9_sizesOf 6 (some .int) ∈ gs_B := gs_in (i := 1061) (rfl) (rfl)
theorem kM_X9_235 : Cond.methodLink RX9 235 yX9_howIf ∈ gs_B := gs_in (i := 1062) (by decide +kernel) (by decide +kernel)
theorem kI_X9_howIf : Cond.instanceMethod yX9_howIf ∈ gs_B := gs_in (i := 1064) (by decide +kernel) (by decide +kernel)
set_option maxRecDepth 40000 in
theorem kC_X9_howIf : Cond.code yX9_howIf cX9_howIf 6 (some .int) ∈ gs_B := gs_in (i := 1065) (rfl) (rfl)
theorem kM_L_43 : Cond.methodLink RL 43 yX9_as ∈ gs_B := gs_in (i := 1066) (by decide +kernel) (by decide +kernel)
theorem kI_X9_as : Cond.instanceMethod yX9_as ∈ gs_B := gs_in (i := 1067) (by decide +kernel) (by decide +kernel)
theorem kS_X9_as : Cond.selects RX9 yX9_as yX9_as ∈ gs_B := gs_in (i := 1068) (by decide +kernel) (by decide +kernel)
set_option maxRecDepth 40000 in
theorem kC_X9_as : Cond.code yX9_as cX9_as 4 (some .int) ∈ gs_B := gs_in (i := 1069) (rfl) (rfl)
theorem kM_L_47 : Cond.methodLink RL 47 yX9_hour ∈ gs_B := gs_in (i := 1070) (by decide +kernel) (by decide +kernel)
theorem kI_X9_hour : Cond.instanceMethod yX9_hour ∈ gs_B := gs_in (i := 1071) (by decide +kernel) (by decide +kernel)
theorem kS_X9_hour : Cond.selects RX9 yX9_hour yX9_hour ∈ gs_B := gs_in (i := 1072) (by decide +kernel) (by decide +kernel)
set_option maxRecDepth 40000 in
theorem kC_X9_hour : Cond.code yX9_hour cX9_hour 1 (some .int) ∈ gs_B := gs_in (i := 1073) (rfl) (rfl)
theorem kM_X9_182 : Cond.methodLink RX9 182 yX9_lacks ∈ gs_B := gs_in (i := 1074) (by decide +kernel) (by decide +kernel)
theorem kI_X9_lacks : Cond.instanceMethod yX9_lacks ∈ gs_B := gs_in (i := 1076) (by decide +kernel) (by decide +kernel)
set_option maxRecDepth 40000 in
theorem kC_X9_lacks : Cond.code yX9_lacks cX9_lacks 1 (some .boolean) ∈ gs_B := gs_in (i := 1077) (rfl) (rfl)
theorem kM_L_51 : Cond.methodLink RL 51 yX9_exchange ∈ gs_B := gs_in (i := 1078) (by decide +kernel) (by decide +kernel)
theorem kI_X9_exchange : Cond.instanceMethod yX9_exchange ∈ gs_B := gs_in (i := 1079) (by decide +kernel) (by decide +kernel)
theorem kS_X9_exchange : Cond.selects RX9 yX9_exchange yX9_exchange ∈ gs_B := gs_in (i := 1080) (by decide +kernel) (by decide +kernel)
set_option maxRecDepth 40000 in
theorem kC_X9_exchange : Cond.code yX9_exchange cX9_exchange 3 (some .int) ∈ gs_B := gs_in (i := 1081) (rfl) (rfl)
theorem kM_X9_186 : Cond.methodLink RX9 186 yX9_isCut ∈ gs_B := gs_in (i := 1082) (by decide +kernel) (by decide +kernel)
theorem kI_X9_isCut : Cond.instanceMethod yX9_isCut ∈ gs_B := gs_in (i := 1084) (by decide +kernel) (by decide +kernel)
set_option maxRecDepth 40000 in
theorem kC_X9_isCut : Cond.code yX9_isCut cX9_isCut 2 (some .boolean) ∈ gs_B := gs_in (i := 1085) (rfl) (rfl)
theorem kM_X9_189 : Cond.methodLink RX9 189 yX9_trade ∈ gs_B := gs_in (i := 1086) (by decide +kernel) (by decide +kernel)
theorem kT_X9_trade : Cond.static yX9_trade ∈ gs_B := gs_in (i := 1087) (by decide +kernel) (by decide +kernel)
set_option maxRecDepth 40000 in
theorem kC_X9_trade : Cond.code yX9_trade cX9_trade 4 none ∈ gs_B := gs_in (i := 1088) (rfl) (rfl)
theorem kM_X9_193 : Cond.methodLink RX9 193 yX9_levelNow ∈ gs_B := gs_in (i := 1089) (by decide +kernel) (by decide +kernel)
theorem kI_X9_levelNow : Cond.instanceMethod yX9_levelNow ∈ gs_B := gs_in (i := 1091) (by decide +kernel) (by decide +kernel)
set_option maxRecDepth 40000 in
theorem kC_X9_levelNow : Cond.code yX9_levelNow cX9_levelNow 1 (some .int) ∈ gs_B := gs_in (i := 1092) (rfl) (rfl)
theorem kM_X9_151 : Cond.methodLink RX9 151 yX9_levelThen ∈ gs_B := gs_in (i := 1093) (by decide +kernel) (by decide +kernel)
theorem kI_X9_levelThen : Cond.instanceMethod yX9_levelThen ∈ gs_B := gs_in (i := 1095) (by decide +kernel) (by decide +kernel)
set_option maxRecDepth 40000 in
theorem kC_X9_levelThen : Cond.code yX9_levelThen cX9_levelThen 4 (some .int) ∈ gs_B := gs_in (i := 1096) (rfl) (rfl)
theorem kM_L_55 : Cond.methodLink RL 55 yX9_move ∈ gs_B := gs_in (i := 1097) (by decide +kernel) (by decide +kernel)
theorem kI_X9_move : Cond.instanceMethod yX9_move ∈ gs_B := gs_in (i := 1098) (by decide +kernel) (by decide +kernel)
theorem kS_X9_move : Cond.selects RX9 yX9_move yX9_move ∈ gs_B := gs_in (i := 1099) (by decide +kernel) (by decide +kernel)
set_option maxRecDepth 40000 in
theorem kC_X9_move : Cond.code yX9_move cX9_move 5 (some .int) ∈ gs_B := gs_in (i := 1100) (rfl) (rfl)
theorem kM_L_59 : Cond.methodLink RL 59 yX9_cut ∈ gs_B := gs_in (i := 1101) (by decide +kernel) (by decide +kernel)
theorem kI_X9_cut : Cond.instanceMethod yX9_cut ∈ gs_B := gs_in (i := 1102) (by decide +kernel) (by decide +kernel)
theorem kS_X9_cut : Cond.selects RX9 yX9_cut yX9_cut ∈ gs_B := gs_in (i := 1103) (by decide +kernel) (by decide +kernel)
set_option maxRecDepth 40000 in
theorem kC_X9_cut : Cond.code yX9_cut cX9_cut 2 (some .int) ∈ gs_B := gs_in (i := 1104) (rfl) (rfl)
theorem kM_L_63 : Cond.methodLink RL 63 yX9_drop ∈ gs_B := gs_in (i := 1105) (by decide +kernel) (by decide +kernel)
theorem kI_X9_drop : Cond.instanceMethod yX9_drop ∈ gs_B := gs_in (i := 1106) (by decide +kernel) (by decide +kernel)
theorem kS_X9_drop : Cond.selects RX9 yX9_drop yX9_drop ∈ gs_B := gs_in (i := 1107) (by decide +kernel) (by decide +kernel)
set_option maxRecDepth 40000 in
theorem kC_X9_drop : Cond.code yX9_drop cX9_drop 2 (some .int) ∈ gs_B := gs_in (i := 1108) (rfl) (rfl)
theorem kM_X9_196 : Cond.methodLink RX9 196 yX9_ones ∈ gs_B := gs_in (i := 1109) (by decide +kernel) (by decide +kernel)
theorem kT_X9_ones : Cond.static yX9_ones ∈ gs_B := gs_in (i := 1110) (by decide +kernel) (by decide +kernel)
set_option maxRecDepth 40000 in
theorem kC_X9_ones : Cond.code yX9_ones cX9_ones 3 (some .int) ∈ gs_B := gs_in (i := 1111) (rfl) (rfl)
theorem kM_L_67 : Cond.methodLink RL 67 yX9_mend ∈ gs_B := gs_in (i := 1112) (by decide +kernel) (by decide +kernel)
theorem kI_X9_mend : Cond.instanceMethod yX9_mend ∈ gs_B := gs_in (i := 1113) (by decide +kernel) (by decide +kernel)
theorem kS_X9_mend : Cond.selects RX9 yX9_mend yX9_mend ∈ gs_B := gs_in (i := 1114) (by decide +kernel) (by decide +kernel)
set_option maxRecDepth 40000 in
theorem kC_X9_mend : Cond.code yX9_mend cX9_mend 2 (some .int) ∈ gs_B := gs_in (i := 1115) (rfl) (rfl)
theorem kM_L_72 : Cond.methodLink RL 72 yX9_change ∈ gs_B := gs_in (i := 1116) (by decide +kernel) (by decide +kernel)
theorem kI_X9_change : Cond.instanceMethod yX9_change ∈ gs_B := gs_in (i := 1117) (by decide +kernel) (by decide +kernel)
theorem kS_X9_change : Cond.selects RX9 yX9_change yX9_change ∈ gs_B := gs_in (i := 1118) (by decide +kernel) (by decide +kernel)
set_option maxRecDepth 40000 in
theorem kC_X9_change : Cond.code yX9_change cX9_change 5 (some .int) ∈ gs_B := gs_in (i := 1119) (rfl) (rfl)
theorem kK_X9_199 : Cond.constantLong RX9 199 (9) ∈ gs_B := gs_in (i := 1120) (by decide +kernel) (by decide +kernel)
theorem kM_L_76 : Cond.methodLink RL 76 yX9_best ∈ gs_B := gs_in (i := 1121) (by decide +kernel) (by decide +kernel)
theorem kI_X9_best : Cond.instanceMethod yX9_best ∈ gs_B := gs_in (i := 1122) (by decide +kernel) (by decide +kernel)
theorem kS_X9_best : Cond.selects RX9 yX9_best yX9_best ∈ gs_B := gs_in (i := 1123) (by decide +kernel) (by decide +kernel)
set_option maxRecDepth 40000 in
theorem kC_X9_best : Cond.code yX9_best cX9_best 1 (some .int) ∈ gs_B := gs_in (i := 1124) (rfl) (rfl)
theorem kM_X9_201 : Cond.methodLink RX9 201 yX9_bestOf ∈ gs_B := gs_in (i := 1125) (by decide +kernel) (by decide +kernel)
theorem kI_X9_bestOf : Cond.instanceMethod yX9_bestOf ∈ gs_B := gs_in (i := 1127) (by decide +kernel) (by decide +kernel)
set_option maxRecDepth 40000 in
theorem kC_X9_bestOf : Cond.code yX9_bestOf cX9_bestOf 7 (some .int) ∈ gs_B := gs_in (i := 1128) (rfl) (rfl)
theorem kM_L_80 : Cond.methodLink RL 80 yX9_lay ∈ gs_B := gs_in (i := 1129) (by decide +kernel) (by decide +kernel)
theorem kI_X9_lay : Cond.instanceMethod yX9_lay ∈ gs_B := gs_in (i := 1130) (by decide +kernel) (by decide +kernel)
theorem kS_X9_lay : Cond.selects RX9 yX9_lay yX9_lay ∈ gs_B := gs_in (i := 1131) (by decide +kernel) (by decide +kernel)
set_option maxRecDepth 40000 in
theorem kC_X9_lay : Cond.code yX9_lay cX9_lay 2 (some .int) ∈ gs_B := gs_in (i := 1132) (rfl) (rfl)
theorem kK_X9_217 : Cond.constantLong RX9 217 (10) ∈ gs_B := gs_in (i := 1133) (by decide +kernel) (by decide +kernel)
theorem kK_X9_219 : Cond.constantLong RX9 219 (15) ∈ gs_B := gs_in (i := 1134) (by decide +kernel) (by decide +kernel)
theorem kM_X9_224 : Cond.methodLink RX9 224 yX9_layOf ∈ gs_B := gs_in (i := 1135) (by decide +kernel) (by decide +kernel)
theorem kI_X9_layOf : Cond.instanceMethod yX9_layOf ∈ gs_B := gs_in (i := 1137) (by decide +kernel) (by decide +kernel)
set_option maxRecDepth 40000 in
theorem kC_X9_layOf : Cond.code yX9_layOf cX9_layOf 8 (some .int) ∈ gs_B := gs_in (i := 1138) (rfl) (rfl)
theorem kM_X9_204 : Cond.methodLink RX9 204 yX9_looseMany ∈ gs_B := gs_in (i := 1139) (by decide +kernel) (by decide +kernel)
theorem kI_X9_looseMany : Cond.instanceMethod yX9_looseMany ∈ gs_B := gs_in (i := 1141) (by decide +kernel) (by decide +kernel)
set_option maxRecDepth 40000 in
theorem kC_X9_looseMany : Cond.code yX9_looseMany cX9_looseMany 1 (some .int) ∈ gs_B := gs_in (i := 1142) (rfl) (rfl)
theorem kM_X9_207 : Cond.methodLink RX9 207 yX9_factorial ∈ gs_B := gs_in (i := 1143) (by decide +kernel) (by decide +kernel)
theorem kT_X9_factorial : Cond.static yX9_factorial ∈ gs_B := gs_in (i := 1144) (by decide +kernel) (by decide +kernel)
set_option maxRecDepth 40000 in
theorem kC_X9_factorial : Cond.code yX9_factorial cX9_factorial 3 (some .int) ∈ gs_B := gs_in (i := 1145) (rfl) (rfl)
theorem kM_X9_210 : Cond.methodLink RX9 210 yX9_layOrder ∈ gs_B := gs_in (i := 1146) (by decide +kernel) (by decide +kernel)
theorem kI_X9_layOrder : Cond.instanceMethod yX9_layOrder ∈ gs_B := gs_in (i := 1148) (by decide +kernel) (by decide +kernel)
set_option maxRecDepth 40000 in
theorem kC_X9_layOrder : Cond.code yX9_layOrder cX9_layOrder 8 none ∈ gs_B := gs_in (i := 1149) (rfl) (rfl)
theorem kM_X9_214 : Cond.methodLink RX9 214 yX9_tiltsAll ∈ gs_B := gs_in (i := 1150) (by decide +kernel) (by decide +kernel)
theorem kI_X9_tiltsAll : Cond.instanceMethod yX9_tiltsAll ∈ gs_B := gs_in (i := 1152) (by decide +kernel) (by decide +kernel)
set_option maxRecDepth 40000 in
theorem kC_X9_tiltsAll : Cond.code yX9_tiltsAll cX9_tiltsAll 5 (some .int) ∈ gs_B := gs_in (i := 1153) (rfl) (rfl)
theorem kM_L_84 : Cond.methodLink RL 84 yX9_even ∈ gs_B := gs_in (i := 1154) (by decide +kernel) (by decide +kernel)
theorem kI_X9_even : Cond.instanceMethod yX9_even ∈ gs_B := gs_in (i := 1155) (by decide +kernel) (by decide +kernel)
theorem kS_X9_even : Cond.selects RX9 yX9_even yX9_even ∈ gs_B := gs_in (i := 1156) (by decide +kernel) (by decide +kernel)
set_option maxRecDepth 40000 in
theorem kC_X9_even : Cond.code yX9_even cX9_even 1 (some .int) ∈ gs_B := gs_in (i := 1157) (rfl) (rfl)
theorem kM_X9_227 : Cond.methodLink RX9 227 yX9_evenOf ∈ gs_B := gs_in (i := 1158) (by decide +kernel) (by decide +kernel)
theorem kI_X9_evenOf : Cond.instanceMethod yX9_evenOf ∈ gs_B := gs_in (i := 1160) (by decide +kernel) (by decide +kernel)
set_option maxRecDepth 40000 in
theorem kC_X9_evenOf : Cond.code yX9_evenOf cX9_evenOf 3 (some .int) ∈ gs_B := gs_in (i := 1161) (rfl) (rfl)
theorem kM_L_88 : Cond.methodLink RL 88 yX9_odds ∈ gs_B := gs_in (i := 1162) (by decide +kernel) (by decide +kernel)
theorem kI_X9_odds : Cond.instanceMethod yX9_odds ∈ gs_B := gs_in (i := 1163) (by decide +kernel) (by decide +kernel)
theorem kS_X9_odds : Cond.selects RX9 yX9_odds yX9_odds ∈ gs_B := gs_in (i := 1164) (by decide +kernel) (by decide +kernel)
set_option maxRecDepth 40000 in
theorem kC_X9_odds : Cond.code yX9_odds cX9_odds 2 (some .int) ∈ gs_B := gs_in (i := 1165) (rfl) (rfl)
theorem kM_X9_230 : Cond.methodLink RX9 230 yX9_oddsOf ∈ gs_B := gs_in (i := 1166) (by decide +kernel) (by decide +kernel)
theorem kI_X9_oddsOf : Cond.instanceMethod yX9_oddsOf ∈ gs_B := gs_in (i := 1168) (by decide +kernel) (by decide +kernel)
set_option maxRecDepth 40000 in
theorem kC_X9_oddsOf : Cond.code yX9_oddsOf cX9_oddsOf 8 (some .int) ∈ gs_B := gs_in (i := 1169) (rfl) (rfl)
theorem kM_L_93 : Cond.methodLink RL 93 yX9_see ∈ gs_B := gs_in (i := 1170) (by decide +kernel) (by decide +kernel)
theorem kI_X9_see : Cond.instanceMethod yX9_see ∈ gs_B := gs_in (i := 1171) (by decide +kernel) (by decide +kernel)
theorem kS_X9_see : Cond.selects RX9 yX9_see yX9_see ∈ gs_B := gs_in (i := 1172) (by decide +kernel) (by decide +kernel)
set_option maxRecDepth 40000 in
theorem kC_X9_see : Cond.code yX9_see cX9_see 5 (some .int) ∈ gs_B := gs_in (i := 1173) (rfl) (rfl)
theorem kK_X9_233 : Cond.constantLong RX9 233 (2) ∈ gs_B := gs_in (i := 1174) (by decide +kernel) (by decide +kernel)
theorem kM_L_97 : Cond.methodLink RL 97 yX9_forget ∈ gs_B := gs_in (i := 1175) (by decide +kernel) (by decide +kernel)
theorem kI_X9_forget : Cond.instanceMethod yX9_forget ∈ gs_B := gs_in (i := 1176) (by decide +kernel) (by decide +kernel)
theorem kS_X9_forget : Cond.selects RX9 yX9_forget yX9_forget ∈ gs_B := gs_in (i := 1177) (by decide +kernel) (by decide +kernel)
set_option maxRecDepth 40000 in
theorem kC_X9_forget : Cond.code yX9_forget cX9_forget 2 (some .int) ∈ gs_B := gs_in (i := 1178) (rfl) (rfl)
theorem kM_L_101 : Cond.methodLink RL 101 yX9_trial ∈ gs_B := gs_in (i := 1179) (by decide +kernel) (by decide +kernel)
theorem kI_X9_trial : Cond.instanceMethod yX9_trial ∈ gs_B := gs_in (i := 1180) (by decide +kernel) (by decide +kernel)
theorem kS_X9_trial : Cond.selects RX9 yX9_trial yX9_trial ∈ gs_B := gs_in (i := 1181) (by decide +kernel) (by decide +kernel)
set_option maxRecDepth 40000 in
theorem kC_X9_trial : Cond.code yX9_trial cX9_trial 3 (some .int) ∈ gs_B := gs_in (i := 1182) (rfl) (rfl)
theorem kM_X9_239 : Cond.methodLink RX9 239 yX9_trialOf ∈ gs_B := gs_in (i := 1183) (by decide +kernel) (by decide +kernel)
theorem kI_X9_trialOf : Cond.instanceMethod yX9_trialOf ∈ gs_B := gs_in (i := 1185) (by decide +kernel) (by decide +kernel)
set_option maxRecDepth 40000 in
theorem kC_X9_trialOf : Cond.code yX9_trialOf cX9_trialOf 11 (some .int) ∈ gs_B := gs_in (i := 1186) (rfl) (rfl)
theorem kM_L_105 : Cond.methodLink RL 105 yX9_evenings ∈ gs_B := gs_in (i := 1187) (by decide +kernel) (by decide +kernel)
theorem kI_X9_evenings : Cond.instanceMethod yX9_evenings ∈ gs_B := gs_in (i := 1188) (by decide +kernel) (by decide +kernel)
theorem kS_X9_evenings : Cond.selects RX9 yX9_evenings yX9_evenings ∈ gs_B := gs_in (i := 1189) (by decide +kernel) (by decide +kernel)
set_option maxRecDepth 40000 in
theorem kC_X9_evenings : Cond.code yX9_evenings cX9_evenings 8 (some .int) ∈ gs_B := gs_in (i := 1190) (rfl) (rfl)
theorem kK_X9_252 : Cond.constantLong RX9 252 (60) ∈ gs_B := gs_in (i := 1191) (by decide +kernel) (by decide +kernel)
theorem kM_X9_254 : Cond.methodLink RX9 254 yX9_draw ∈ gs_B := gs_in (i := 1192) (by decide +kernel) (by decide +kernel)
theorem kI_X9_draw : Cond.instanceMethod yX9_draw ∈ gs_B := gs_in (i := 1194) (by decide +kernel) (by decide +kernel)
set_option maxRecDepth 40000 in
theorem kC_X9_draw : Cond.code yX9_draw cX9_draw 2 (some .int) ∈ gs_B := gs_in (i := 1195) (rfl) (rfl)
theorem kK_X9_242 : Cond.constantLong RX9 242 (1103515245) ∈ gs_B := gs_in (i := 1196) (by decide +kernel) (by decide +kernel)
theorem kK_X9_247 : Cond.constantLong RX9 247 (12345) ∈ gs_B := gs_in (i := 1197) (by decide +kernel) (by decide +kernel)
theorem kK_X9_249 : Cond.constantLong RX9 249 (2147483647) ∈ gs_B := gs_in (i := 1198) (by decide +kernel) (by decide +kernel)
theorem kK_X9_251 : Cond.constant RX9 251 (65536) ∈ gs_B := gs_in (i := 1199) (by decide +kernel) (by decide +kernel)
theorem kM_L_109 : Cond.methodLink RL 109 yX9_image ∈ gs_B := gs_in (i := 1200) (by decide +kernel) (by decide +kernel)
theorem kI_X9_image : Cond.instanceMethod yX9_image ∈ gs_B := gs_in (i := 1201) (by decide +kernel) (by decide +kernel)
theorem kS_X9_image : Cond.selects RX9 yX9_image yX9_image ∈ gs_B := gs_in (i := 1202) (by decide +kernel) (by decide +kernel)
set_option maxRecDepth 40000 in
theorem kC_X9_image : Cond.code yX9_image cX9_image 1 (some .int) ∈ gs_B := gs_in (i := 1203) (rfl) (rfl)
theorem kM_L_113 : Cond.methodLink RL 113 yX9_restore ∈ gs_B := gs_in (i := 1204) (by decide +kernel) (by decide +kernel)
theorem kI_X9_restore : Cond.instanceMethod yX9_restore ∈ gs_B := gs_in (i := 1205) (by decide +kernel) (by decide +kernel)
theorem kS_X9_restore : Cond.selects RX9 yX9_restore yX9_restore ∈ gs_B := gs_in (i := 1206) (by decide +kernel) (by decide +kernel)
set_option maxRecDepth 40000 in
theorem kC_X9_restore : Cond.code yX9_restore cX9_restore 1 (some .int) ∈ gs_B := gs_in (i := 1207) (rfl) (rfl)
theorem kM_L_117 : Cond.methodLink RL 117 yX9_count ∈ gs_B := gs_in (i := 1208) (by decide +kernel) (by decide +kernel)
theorem kI_X9_count : Cond.instanceMethod yX9_count ∈ gs_B := gs_in (i := 1209) (by decide +kernel) (by decide +kernel)
theorem kS_X9_count : Cond.selects RX9 yX9_count yX9_count ∈ gs_B := gs_in (i := 1210) (by decide +kernel) (by decide +kernel)
set_option maxRecDepth 40000 in
theorem kC_X9_count : Cond.code yX9_count cX9_count 2 (some .int) ∈ gs_B := gs_in (i := 1211) (rfl) (rfl)
theorem kM_X9_275 : Cond.methodLink RX9 275 yX9_countOf ∈ gs_B := gs_in (i := 1212) (by decide +kernel) (by decide +kernel)
theorem kI_X9_countOf : Cond.instanceMethod yX9_countOf ∈ gs_B := gs_in (i := 1214) (by decide +kernel) (by decide +kernel)
set_option maxRecDepth 40000 in
theorem kC_X9_countOf : Cond.code yX9_countOf cX9_countOf 2 (some .int) ∈ gs_B := gs_in (i := 1215) (rfl) (rfl)
theorem kM_X9_269 : Cond.methodLink RX9 269 yX9_thingsThere ∈ gs_B := gs_in (i := 1216) (by decide +kernel) (by decide +kernel)
theorem kI_X9_thingsThere : Cond.instanceMethod yX9_thingsThere ∈ gs_B := gs_in (i := 1218) (by decide +kernel) (by decide +kernel)
set_option maxRecDepth 40000 in
theorem kC_X9_thingsThere : Cond.code yX9_thingsThere cX9_thingsThere 4 (some .int) ∈ gs_B := gs_in (i := 1219) (rfl) (rfl)
theorem kM_X9_272 : Cond.methodLink RX9 272 yX9_weighsAll ∈ gs_B := gs_in (i := 1220) (by decide +kernel) (by decide +kernel)
theorem kI_X9_weighsAll : Cond.instanceMethod yX9_weighsAll ∈ gs_B := gs_in (i := 1222) (by decide +kernel) (by decide +kernel)
set_option maxRecDepth 40000 in
theorem kC_X9_weighsAll : Cond.code yX9_weighsAll cX9_weighsAll 1 (some .int) ∈ gs_B := gs_in (i := 1223) (rfl) (rfl)
theorem kM_L_122 : Cond.methodLink RL 122 yX9_digest ∈ gs_B := gs_in (i := 1224) (by decide +kernel) (by decide +kernel)
theorem kI_X9_digest : Cond.instanceMethod yX9_digest ∈ gs_B := gs_in (i := 1225) (by decide +kernel) (by decide +kernel)
theorem kS_X9_digest : Cond.selects RX9 yX9_digest yX9_digest ∈ gs_B := gs_in (i := 1226) (by decide +kernel) (by decide +kernel)
set_option maxRecDepth 40000 in
theorem kC_X9_digest : Cond.code yX9_digest cX9_digest 3 (some .long) ∈ gs_B := gs_in (i := 1227) (rfl) (rfl)
theorem kK_X9_284 : Cond.constantLong RX9 284 (1303) ∈ gs_B := gs_in (i := 1228) (by decide +kernel) (by decide +kernel)
theorem kM_X9_286 : Cond.methodLink RX9 286 yX9_say ∈ gs_B := gs_in (i := 1229) (by decide +kernel) (by decide +kernel)
theorem kI_X9_say : Cond.instanceMethod yX9_say ∈ gs_B := gs_in (i := 1231) (by decide +kernel) (by decide +kernel)
set_option maxRecDepth 40000 in
theorem kC_X9_say : Cond.code yX9_say cX9_say 3 none ∈ gs_B := gs_in (i := 1232) (rfl) (rfl)
theorem kK_X9_278 : Cond.constantLong RX9 278 (31) ∈ gs_B := gs_in (i := 1233) (by decide +kernel) (by decide +kernel)
theorem kD_X8_init : yX8_init.cls ≠ "java/lang/invoke/MethodHandle" ∧ yX8_init.cls ≠ "java/lang/invoke/VarHandle" ∧ (parseMethodDescriptor yX8_init.desc).map (fun d => d.parameters.length) = some 0 := by decide +kernel
theorem kD_X4_init : yX4_init.cls ≠ "java/lang/invoke/MethodHandle" ∧ yX4_init.cls ≠ "java/lang/invoke/VarHandle" ∧ (parseMethodDescriptor yX4_init.desc).map (fun d => d.parameters.length) = some 0 := by decide +kernel
theorem kD_X5_init : yX5_init.cls ≠ "java/lang/invoke/MethodHandle" ∧ yX5_init.cls ≠ "java/lang/invoke/VarHandle" ∧ (parseMethodDescriptor yX5_init.desc).map (fun d => d.parameters.length) = some 0 := by decide +kernel
theorem kD_X3_init : yX3_init.cls ≠ "java/lang/invoke/MethodHandle" ∧ yX3_init.cls ≠ "java/lang/invoke/VarHandle" ∧ (parseMethodDescriptor yX3_init.desc).map (fun d => d.parameters.length) = some 0 := by decide +kernel
theorem kD_X7_init : yX7_init.cls ≠ "java/lang/invoke/MethodHandle" ∧ yX7_init.cls ≠ "java/lang/invoke/VarHandle" ∧ (parseMethodDescriptor yX7_init.desc).map (fun d => d.parameters.length) = some 0 := by decide +kernel
theorem kD_X6_init : yX6_init.cls ≠ "java/lang/invoke/MethodHandle" ∧ yX6_init.cls ≠ "java/lang/invoke/VarHandle" ∧ (parseMethodDescriptor yX6_init.desc).map (fun d => d.parameters.length) = some 0 := by decide +kernel
theorem kD_X2_init : yX2_init.cls ≠ "java/lang/invoke/MethodHandle" ∧ yX2_init.cls ≠ "java/lang/invoke/VarHandle" ∧ (parseMethodDescriptor yX2_init.desc).map (fun d => d.parameters.length) = some 0 := by decide +kernel
theorem kD_X0_init : yX0_init.cls ≠ "java/lang/invoke/MethodHandle" ∧ yX0_init.cls ≠ "java/lang/invoke/VarHandle" ∧ (parseMethodDescriptor yX0_init.desc).map (fun d => d.parameters.length) = some 0 := by decide +kernel
theorem kD_X8_letter : yX8_letter.cls ≠ "java/lang/invoke/MethodHandle" ∧ yX8_letter.cls ≠ "java/lang/invoke/VarHandle" ∧ (parseMethodDescriptor yX8_letter.desc).map (fun d => d.parameters.length) = some 1 := by decide +kernel
theorem kD_X8_blank : yX8_blank.cls ≠ "java/lang/invoke/MethodHandle" ∧ yX8_blank.cls ≠ "java/lang/invoke/VarHandle" ∧ (parseMethodDescriptor yX8_blank.desc).map (fun d => d.parameters.length) = some 0 := by decide +kernel
theorem kD_X8_fault : yX8_fault.cls ≠ "java/lang/invoke/MethodHandle" ∧ yX8_fault.cls ≠ "java/lang/invoke/VarHandle" ∧ (parseMethodDescriptor yX8_fault.desc).map (fun d => d.parameters.length) = some 0 := by decide +kernel
theorem kD_X5_readLetters : yX5_readLetters.cls ≠ "java/lang/invoke/MethodHandle" ∧ yX5_readLetters.cls ≠ "java/lang/invoke/VarHandle" ∧ (parseMethodDescriptor yX5_readLetters.desc).map (fun d => d.parameters.length) = some 1 := by decide +kernel
theorem kD_X5_begin : yX5_begin.cls ≠ "java/lang/invoke/MethodHandle" ∧ yX5_begin.cls ≠ "java/lang/invoke/VarHandle" ∧ (parseMethodDescriptor yX5_begin.desc).map (fun d => d.parameters.length) = some 0 := by decide +kernel
theorem kD_X5_takes : yX5_takes.cls ≠ "java/lang/invoke/MethodHandle" ∧ yX5_takes.cls ≠ "java/lang/invoke/VarHandle" ∧ (parseMethodDescriptor yX5_takes.desc).map (fun d => d.parameters.length) = some 1 := by decide +kernel
theorem kD_X5_takesLength : yX5_takesLength.cls ≠ "java/lang/invoke/MethodHandle" ∧ yX5_takesLength.cls ≠ "java/lang/invoke/VarHandle" ∧ (parseMethodDescriptor yX5_takesLength.desc).map (fun d => d.parameters.length) = some 1 := by decide +kernel
theorem kD_X5_takesEnd : yX5_takesEnd.cls ≠ "java/lang/invoke/MethodHandle" ∧ yX5_takesEnd.cls ≠ "java/lang/invoke/VarHandle" ∧ (parseMethodDescriptor yX5_takesEnd.desc).map (fun d => d.parameters.length) = some 1 := by decide +kernel
theorem kD_X5_canTell : yX5_canTell.cls ≠ "java/lang/invoke/MethodHandle" ∧ yX5_canTell.cls ≠ "java/lang/invoke/VarHandle" ∧ (parseMethodDescriptor yX5_canTell.desc).map (fun d => d.parameters.length) = some 2 := by decide +kernel
theorem kD_J9_max_7cf53 : yJ9_max_7cf53.cls ≠ "java/lang/invoke/MethodHandle" ∧ yJ9_max_7cf53.cls ≠ "java/lang/invoke/VarHandle" ∧ (parseMethodDescriptor yJ9_max_7cf53.desc).map (fun d => d.parameters.length) = some 2 := by decide +kernel
theorem kD_X5_canFollow : yX5_canFollow.cls ≠ "java/lang/invoke/MethodHandle" ∧ yX5_canFollow.cls ≠ "java/lang/invoke/VarHandle" ∧ (parseMethodDescriptor yX5_canFollow.desc).map (fun d => d.parameters.length) = some 1 := by decide +kernel
theorem kD_X5_takesBehindRod : yX5_takesBehindRod.cls ≠ "java/lang/invoke/MethodHandle" ∧ yX5_takesBehindRod.cls ≠ "java/lang/invoke/VarHandle" ∧ (parseMethodDescriptor yX5_takesBehindRod.desc).map (fun d => d.parameters.length) = some 1 := by decide +kernel
theorem kD_X5_takesKind : yX5_takesKind.cls ≠ "java/lang/invoke/MethodHandle" ∧ yX5_takesKind.cls ≠ "java/lang/invoke/VarHandle" ∧ (parseMethodDescriptor yX5_takesKind.desc).map (fun d => d.parameters.length) = some 1 := by decide +kernel
theorem kD_J0_indexOf_0f7a4 : yJ0_indexOf_0f7a4.cls ≠ "java/lang/invoke/MethodHandle" ∧ yJ0_indexOf_0f7a4.cls ≠ "java/lang/invoke/VarHandle" ∧ (parseMethodDescriptor yJ0_indexOf_0f7a4.desc).map (fun d => d.parameters.length) = some 1 := by decide +kernel
theorem kD_J0_indexOf_7cf53 : yJ0_indexOf_7cf53.cls ≠ "java/lang/invoke/MethodHandle" ∧ yJ0_indexOf_7cf53.cls ≠ "java/lang/invoke/VarHandle" ∧ (parseMethodDescriptor yJ0_indexOf_7cf53.desc).map (fun d => d.parameters.length) = some 2 := by decide +kernel
theorem kD_J0_isLatin1_aae02 : yJ0_isLatin1_aae02.cls ≠ "java/lang/invoke/MethodHandle" ∧ yJ0_isLatin1_aae02.cls ≠ "java/lang/invoke/VarHandle" ∧ (parseMethodDescriptor yJ0_isLatin1_aae02.desc).map (fun d => d.parameters.length) = some 0 := by decide +kernel
theorem kD_J0_length_8abf5 : yJ0_length_8abf5.cls ≠ "java/lang/invoke/MethodHandle" ∧ yJ0_length_8abf5.cls ≠ "java/lang/invoke/VarHandle" ∧ (parseMethodDescriptor yJ0_length_8abf5.desc).map (fun d => d.parameters.length) = some 0 := by decide +kernel
theorem kD_J0_coder_7d493 : yJ0_coder_7d493.cls ≠ "java/lang/invoke/MethodHandle" ∧ yJ0_coder_7d493.cls ≠ "java/lang/invoke/VarHandle" ∧ (parseMethodDescriptor yJ0_coder_7d493.desc).map (fun d => d.parameters.length) = some 0 := by decide +kernel
theorem kD_J1_indexOf_4cfef : yJ1_indexOf_4cfef.cls ≠ "java/lang/invoke/MethodHandle" ∧ yJ1_indexOf_4cfef.cls ≠ "java/lang/invoke/VarHandle" ∧ (parseMethodDescriptor yJ1_indexOf_4cfef.desc).map (fun d => d.parameters.length) = some 4 := by decide +kernel
theorem kD_J1_canEncode_9a6ad : yJ1_canEncode_9a6ad.cls ≠ "java/lang/invoke/MethodHandle" ∧ yJ1_canEncode_9a6ad.cls ≠ "java/lang/invoke/VarHandle" ∧ (parseMethodDescriptor yJ1_canEncode_9a6ad.desc).map (fun d => d.parameters.length) = some 1 := by decide +kernel
theorem kD_J9_min_7cf53 : yJ9_min_7cf53.cls ≠ "java/lang/invoke/MethodHandle" ∧ yJ9_min_7cf53.cls ≠ "java/lang/invoke/VarHandle" ∧ (parseMethodDescriptor yJ9_min_7cf53.desc).map (fun d => d.parameters.length) = some 2 := by decide +kernel
theorem kD_J1_indexOfChar_4cfef : yJ1_indexOfChar_4cfef.cls ≠ "java/lang/invoke/MethodHandle" ∧ yJ1_indexOfChar_4cfef.cls ≠ "java/lang/invoke/VarHandle" ∧ (parseMethodDescriptor yJ1_indexOfChar_4cfef.desc).map (fun d => d.parameters.length) = some 4 := by decide +kernel
theorem kD_J2_indexOf_4cfef : yJ2_indexOf_4cfef.cls ≠ "java/lang/invoke/MethodHandle" ∧ yJ2_indexOf_4cfef.cls ≠ "java/lang/invoke/VarHandle" ∧ (parseMethodDescriptor yJ2_indexOf_4cfef.desc).map (fun d => d.parameters.length) = some 4 := by decide +kernel
theorem kD_J2_indexOfChar_4cfef : yJ2_indexOfChar_4cfef.cls ≠ "java/lang/invoke/MethodHandle" ∧ yJ2_indexOfChar_4cfef.cls ≠ "java/lang/invoke/VarHandle" ∧ (parseMethodDescriptor yJ2_indexOfChar_4cfef.desc).map (fun d => d.parameters.length) = some 4 := by decide +kernel
theorem kD_J2_checkBoundsBeginEnd_d044e : yJ2_checkBoundsBeginEnd_d044e.cls ≠ "java/lang/invoke/MethodHandle" ∧ yJ2_checkBoundsBeginEnd_d044e.cls ≠ "java/lang/invoke/VarHandle" ∧ (parseMethodDescriptor yJ2_checkBoundsBeginEnd_d044e.desc).map (fun d => d.parameters.length) = some 3 := by decide +kernel
theorem kD_J2_length_9d52b : yJ2_length_9d52b.cls ≠ "java/lang/invoke/MethodHandle" ∧ yJ2_length_9d52b.cls ≠ "java/lang/invoke/VarHandle" ∧ (parseMethodDescriptor yJ2_length_9d52b.desc).map (fun d => d.parameters.length) = some 1 := by decide +kernel
theorem kD_J0_checkBoundsBeginEnd_23922 : yJ0_checkBoundsBeginEnd_23922.cls ≠ "java/lang/invoke/MethodHandle" ∧ yJ0_checkBoundsBeginEnd_23922.cls ≠ "java/lang/invoke/VarHandle" ∧ (parseMethodDescriptor yJ0_checkBoundsBeginEnd_23922.desc).map (fun d => d.parameters.length) = some 3 := by decide +kernel
theorem kD_J3_checkFromToIndex_8c36e : yJ3_checkFromToIndex_8c36e.cls ≠ "java/lang/invoke/MethodHandle" ∧ yJ3_checkFromToIndex_8c36e.cls ≠ "java/lang/invoke/VarHandle" ∧ (parseMethodDescriptor yJ3_checkFromToIndex_8c36e.desc).map (fun d => d.parameters.length) = some 4 := by decide +kernel
theorem kD_J2_indexOfCharUnsafe_4cfef : yJ2_indexOfCharUnsafe_4cfef.cls ≠ "java/lang/invoke/MethodHandle" ∧ yJ2_indexOfCharUnsafe_4cfef.cls ≠ "java/lang/invoke/VarHandle" ∧ (parseMethodDescriptor yJ2_indexOfCharUnsafe_4cfef.desc).map (fun d => d.parameters.length) = some 4 := by decide +kernel
theorem kD_J2_getChar_3b067 : yJ2_getChar_3b067.cls ≠ "java/lang/invoke/MethodHandle" ∧ yJ2_getChar_3b067.cls ≠ "java/lang/invoke/VarHandle" ∧ (parseMethodDescriptor yJ2_getChar_3b067.desc).map (fun d => d.parameters.length) = some 2 := by decide +kernel
theorem kD_J2_indexOfSupplementary_4cfef : yJ2_indexOfSupplementary_4cfef.cls ≠ "java/lang/invoke/MethodHandle" ∧ yJ2_indexOfSupplementary_4cfef.cls ≠ "java/lang/invoke/VarHandle" ∧ (parseMethodDescriptor yJ2_indexOfSupplementary_4cfef.desc).map (fun d => d.parameters.length) = some 4 := by decide +kernel
theorem kD_J11_isValidCodePoint_9a6ad : yJ11_isValidCodePoint_9a6ad.cls ≠ "java/lang/invoke/MethodHandle" ∧ yJ11_isValidCodePoint_9a6ad.cls ≠ "java/lang/invoke/VarHandle" ∧ (parseMethodDescriptor yJ11_isValidCodePoint_9a6ad.desc).map (fun d => d.parameters.length) = some 1 := by decide +kernel
theorem kD_J11_highSurrogate_5068e : yJ11_highSurrogate_5068e.cls ≠ "java/lang/invoke/MethodHandle" ∧ yJ11_highSurrogate_5068e.cls ≠ "java/lang/invoke/VarHandle" ∧ (parseMethodDescriptor yJ11_highSurrogate_5068e.desc).map (fun d => d.parameters.length) = some 1 := by decide +kernel
theorem kD_J11_lowSurrogate_5068e : yJ11_lowSurrogate_5068e.cls ≠ "java/lang/invoke/MethodHandle" ∧ yJ11_lowSurrogate_5068e.cls ≠ "java/lang/invoke/VarHandle" ∧ (parseMethodDescriptor yJ11_lowSurrogate_5068e.desc).map (fun d => d.parameters.length) = some 1 := by decide +kernel
theorem kD_X5_takesSize : yX5_takesSize.cls ≠ "java/lang/invoke/MethodHandle" ∧ yX5_takesSize.cls ≠ "java/lang/invoke/VarHandle" ∧ (parseMethodDescriptor yX5_takesSize.desc).map (fun d => d.parameters.length) = some 1 := by decide +kernel
theorem kD_X5_takesBehindThing : yX5_takesBehindThing.cls ≠ "java/lang/invoke/MethodHandle" ∧ yX5_takesBehindThing.cls ≠ "java/lang/invoke/VarHandle" ∧ (parseMethodDescriptor yX5_takesBehindThing.desc).map (fun d => d.parameters.length) = some 1 := by decide +kernel
theorem kD_X8_mobile : yX8_mobile.cls ≠ "java/lang/invoke/MethodHandle" ∧ yX8_mobile.cls ≠ "java/lang/invoke/VarHandle" ∧ (parseMethodDescriptor yX8_mobile.desc).map (fun d => d.parameters.length) = some 0 := by decide +kernel
theorem kD_X5_isWhole : yX5_isWhole.cls ≠ "java/lang/invoke/MethodHandle" ∧ yX5_isWhole.cls ≠ "java/lang/invoke/VarHandle" ∧ (parseMethodDescriptor yX5_isWhole.desc).map (fun d => d.parameters.length) = some 0 := by decide +kernel
theorem kD_X3_hangAsRead : yX3_hangAsRead.cls ≠ "java/lang/invoke/MethodHandle" ∧ yX3_hangAsRead.cls ≠ "java/lang/invoke/VarHandle" ∧ (parseMethodDescriptor yX3_hangAsRead.desc).map (fun d => d.parameters.length) = some 1 := by decide +kernel
theorem kD_X3_hangAllAgain : yX3_hangAllAgain.cls ≠ "java/lang/invoke/MethodHandle" ∧ yX3_hangAllAgain.cls ≠ "java/lang/invoke/VarHandle" ∧ (parseMethodDescriptor yX3_hangAllAgain.desc).map (fun d => d.parameters.length) = some 0 := by decide +kernel
theorem kD_X8_rod : yX8_rod.cls ≠ "java/lang/invoke/MethodHandle" ∧ yX8_rod.cls ≠ "java/lang/invoke/VarHandle" ∧ (parseMethodDescriptor yX8_rod.desc).map (fun d => d.parameters.length) = some 2 := by decide +kernel
theorem kD_X8_isRod : yX8_isRod.cls ≠ "java/lang/invoke/MethodHandle" ∧ yX8_isRod.cls ≠ "java/lang/invoke/VarHandle" ∧ (parseMethodDescriptor yX8_isRod.desc).map (fun d => d.parameters.length) = some 1 := by decide +kernel
theorem kD_X6_weigh : yX6_weigh.cls ≠ "java/lang/invoke/MethodHandle" ∧ yX6_weigh.cls ≠ "java/lang/invoke/VarHandle" ∧ (parseMethodDescriptor yX6_weigh.desc).map (fun d => d.parameters.length) = some 1 := by decide +kernel
theorem kD_X6_prepare : yX6_prepare.cls ≠ "java/lang/invoke/MethodHandle" ∧ yX6_prepare.cls ≠ "java/lang/invoke/VarHandle" ∧ (parseMethodDescriptor yX6_prepare.desc).map (fun d => d.parameters.length) = some 2 := by decide +kernel
theorem kD_X1_weight : yX1_weight.cls ≠ "java/lang/invoke/MethodHandle" ∧ yX1_weight.cls ≠ "java/lang/invoke/VarHandle" ∧ (parseMethodDescriptor yX1_weight.desc).map (fun d => d.parameters.length) = some 3 := by decide +kernel
theorem kD_X6_hang : yX6_hang.cls ≠ "java/lang/invoke/MethodHandle" ∧ yX6_hang.cls ≠ "java/lang/invoke/VarHandle" ∧ (parseMethodDescriptor yX6_hang.desc).map (fun d => d.parameters.length) = some 2 := by decide +kernel
theorem kD_X6_hangRod : yX6_hangRod.cls ≠ "java/lang/invoke/MethodHandle" ∧ yX6_hangRod.cls ≠ "java/lang/invoke/VarHandle" ∧ (parseMethodDescriptor yX6_hangRod.desc).map (fun d => d.parameters.length) = some 3 := by decide +kernel
theorem kD_X6_loadOf : yX6_loadOf.cls ≠ "java/lang/invoke/MethodHandle" ∧ yX6_loadOf.cls ≠ "java/lang/invoke/VarHandle" ∧ (parseMethodDescriptor yX6_loadOf.desc).map (fun d => d.parameters.length) = some 3 := by decide +kernel
theorem kD_X8_aboutRod : yX8_aboutRod.cls ≠ "java/lang/invoke/MethodHandle" ∧ yX8_aboutRod.cls ≠ "java/lang/invoke/VarHandle" ∧ (parseMethodDescriptor yX8_aboutRod.desc).map (fun d => d.parameters.length) = some 2 := by decide +kernel
theorem kD_X3_hangingFrom : yX3_hangingFrom.cls ≠ "java/lang/invoke/MethodHandle" ∧ yX3_hangingFrom.cls ≠ "java/lang/invoke/VarHandle" ∧ (parseMethodDescriptor yX3_hangingFrom.desc).map (fun d => d.parameters.length) = some 1 := by decide +kernel
theorem kD_X6_hookFor : yX6_hookFor.cls ≠ "java/lang/invoke/MethodHandle" ∧ yX6_hookFor.cls ≠ "java/lang/invoke/VarHandle" ∧ (parseMethodDescriptor yX6_hookFor.desc).map (fun d => d.parameters.length) = some 2 := by decide +kernel
theorem kD_X6_beadToAdd : yX6_beadToAdd.cls ≠ "java/lang/invoke/MethodHandle" ∧ yX6_beadToAdd.cls ≠ "java/lang/invoke/VarHandle" ∧ (parseMethodDescriptor yX6_beadToAdd.desc).map (fun d => d.parameters.length) = some 2 := by decide +kernel
theorem kD_X8_thing : yX8_thing.cls ≠ "java/lang/invoke/MethodHandle" ∧ yX8_thing.cls ≠ "java/lang/invoke/VarHandle" ∧ (parseMethodDescriptor yX8_thing.desc).map (fun d => d.parameters.length) = some 2 := by decide +kernel
theorem kD_X8_isThing : yX8_isThing.cls ≠ "java/lang/invoke/MethodHandle" ∧ yX8_isThing.cls ≠ "java/lang/invoke/VarHandle" ∧ (parseMethodDescriptor yX8_isThing.desc).map (fun d => d.parameters.length) = some 1 := by decide +kernel
theorem kD_X8_aboutThing : yX8_aboutThing.cls ≠ "java/lang/invoke/MethodHandle" ∧ yX8_aboutThing.cls ≠ "java/lang/invoke/VarHandle" ∧ (parseMethodDescriptor yX8_aboutThing.desc).map (fun d => d.parameters.length) = some 2 := by decide +kernel
theorem kD_X3_armOf : yX3_armOf.cls ≠ "java/lang/invoke/MethodHandle" ∧ yX3_armOf.cls ≠ "java/lang/invoke/VarHandle" ∧ (parseMethodDescriptor yX3_armOf.desc).map (fun d => d.parameters.length) = some 1 := by decide +kernel
theorem kD_X7_sizesOf : yX7_sizesOf.cls ≠ "java/lang/invoke/MethodHandle" ∧ yX7_sizesOf.cls ≠ "java/lang/invoke/VarHandle" ∧ (parseMethodDescriptor yX7_sizesOf.desc).map (fun d => d.parameters.length) = some 2 := by decide +kernel
theorem kD_X7_sizesTilting : yX7_sizesTilting.cls ≠ "java/lang/invoke/MethodHandle" ∧ yX7_sizesTilting.cls ≠ "java/lang/invoke/VarHandle" ∧ (parseMethodDescriptor yX7_sizesTilting.desc).map (fun d => d.parameters.length) = some 5 := by decide +kernel
theorem kD_X7_wayOf : yX7_wayOf.cls ≠ "java/lang/invoke/MethodHandle" ∧ yX7_wayOf.cls ≠ "java/lang/invoke/VarHandle" ∧ (parseMethodDescriptor yX7_wayOf.desc).map (fun d => d.parameters.length) = some 1 := by decide +kernel
theorem kD_X8_as : yX8_as.cls ≠ "java/lang/invoke/MethodHandle" ∧ yX8_as.cls ≠ "java/lang/invoke/VarHandle" ∧ (parseMethodDescriptor yX8_as.desc).map (fun d => d.parameters.length) = some 2 := by decide +kernel
theorem kD_X1_isKind : yX1_isKind.cls ≠ "java/lang/invoke/MethodHandle" ∧ yX1_isKind.cls ≠ "java/lang/invoke/VarHandle" ∧ (parseMethodDescriptor yX1_isKind.desc).map (fun d => d.parameters.length) = some 1 := by decide +kernel
theorem kD_X1_isA : yX1_isA.cls ≠ "java/lang/invoke/MethodHandle" ∧ yX1_isA.cls ≠ "java/lang/invoke/VarHandle" ∧ (parseMethodDescriptor yX1_isA.desc).map (fun d => d.parameters.length) = some 2 := by decide +kernel
theorem kD_X8_hour : yX8_hour.cls ≠ "java/lang/invoke/MethodHandle" ∧ yX8_hour.cls ≠ "java/lang/invoke/VarHandle" ∧ (parseMethodDescriptor yX8_hour.desc).map (fun d => d.parameters.length) = some 0 := by decide +kernel
theorem kD_X8_hasMobile : yX8_hasMobile.cls ≠ "java/lang/invoke/MethodHandle" ∧ yX8_hasMobile.cls ≠ "java/lang/invoke/VarHandle" ∧ (parseMethodDescriptor yX8_hasMobile.desc).map (fun d => d.parameters.length) = some 0 := by decide +kernel
theorem kD_X8_exchange : yX8_exchange.cls ≠ "java/lang/invoke/MethodHandle" ∧ yX8_exchange.cls ≠ "java/lang/invoke/VarHandle" ∧ (parseMethodDescriptor yX8_exchange.desc).map (fun d => d.parameters.length) = some 2 := by decide +kernel
theorem kD_X8_swapThings : yX8_swapThings.cls ≠ "java/lang/invoke/MethodHandle" ∧ yX8_swapThings.cls ≠ "java/lang/invoke/VarHandle" ∧ (parseMethodDescriptor yX8_swapThings.desc).map (fun d => d.parameters.length) = some 3 := by decide +kernel
theorem kD_X8_levelNow : yX8_levelNow.cls ≠ "java/lang/invoke/MethodHandle" ∧ yX8_levelNow.cls ≠ "java/lang/invoke/VarHandle" ∧ (parseMethodDescriptor yX8_levelNow.desc).map (fun d => d.parameters.length) = some 0 := by decide +kernel
theorem kD_X6_rodsLevel : yX6_rodsLevel.cls ≠ "java/lang/invoke/MethodHandle" ∧ yX6_rodsLevel.cls ≠ "java/lang/invoke/VarHandle" ∧ (parseMethodDescriptor yX6_rodsLevel.desc).map (fun d => d.parameters.length) = some 1 := by decide +kernel
theorem kD_X8_move : yX8_move.cls ≠ "java/lang/invoke/MethodHandle" ∧ yX8_move.cls ≠ "java/lang/invoke/VarHandle" ∧ (parseMethodDescriptor yX8_move.desc).map (fun d => d.parameters.length) = some 2 := by decide +kernel
theorem kD_X8_cut : yX8_cut.cls ≠ "java/lang/invoke/MethodHandle" ∧ yX8_cut.cls ≠ "java/lang/invoke/VarHandle" ∧ (parseMethodDescriptor yX8_cut.desc).map (fun d => d.parameters.length) = some 1 := by decide +kernel
theorem kD_X8_drop : yX8_drop.cls ≠ "java/lang/invoke/MethodHandle" ∧ yX8_drop.cls ≠ "java/lang/invoke/VarHandle" ∧ (parseMethodDescriptor yX8_drop.desc).map (fun d => d.parameters.length) = some 1 := by decide +kernel
theorem kD_X6_rodsThere : yX6_rodsThere.cls ≠ "java/lang/invoke/MethodHandle" ∧ yX6_rodsThere.cls ≠ "java/lang/invoke/VarHandle" ∧ (parseMethodDescriptor yX6_rodsThere.desc).map (fun d => d.parameters.length) = some 1 := by decide +kernel
theorem kD_X8_mend : yX8_mend.cls ≠ "java/lang/invoke/MethodHandle" ∧ yX8_mend.cls ≠ "java/lang/invoke/VarHandle" ∧ (parseMethodDescriptor yX8_mend.desc).map (fun d => d.parameters.length) = some 0 := by decide +kernel
theorem kD_X8_change : yX8_change.cls ≠ "java/lang/invoke/MethodHandle" ∧ yX8_change.cls ≠ "java/lang/invoke/VarHandle" ∧ (parseMethodDescriptor yX8_change.desc).map (fun d => d.parameters.length) = some 3 := by decide +kernel
theorem kD_X8_isSize : yX8_isSize.cls ≠ "java/lang/invoke/MethodHandle" ∧ yX8_isSize.cls ≠ "java/lang/invoke/VarHandle" ∧ (parseMethodDescriptor yX8_isSize.desc).map (fun d => d.parameters.length) = some 1 := by decide +kernel
theorem kD_X8_best : yX8_best.cls ≠ "java/lang/invoke/MethodHandle" ∧ yX8_best.cls ≠ "java/lang/invoke/VarHandle" ∧ (parseMethodDescriptor yX8_best.desc).map (fun d => d.parameters.length) = some 0 := by decide +kernel
theorem kD_X2_bestExchange : yX2_bestExchange.cls ≠ "java/lang/invoke/MethodHandle" ∧ yX2_bestExchange.cls ≠ "java/lang/invoke/VarHandle" ∧ (parseMethodDescriptor yX2_bestExchange.desc).map (fun d => d.parameters.length) = some 1 := by decide +kernel
theorem kD_X2_copyLaid : yX2_copyLaid.cls ≠ "java/lang/invoke/MethodHandle" ∧ yX2_copyLaid.cls ≠ "java/lang/invoke/VarHandle" ∧ (parseMethodDescriptor yX2_copyLaid.desc).map (fun d => d.parameters.length) = some 1 := by decide +kernel
theorem kD_X2_levelIfSwapped : yX2_levelIfSwapped.cls ≠ "java/lang/invoke/MethodHandle" ∧ yX2_levelIfSwapped.cls ≠ "java/lang/invoke/VarHandle" ∧ (parseMethodDescriptor yX2_levelIfSwapped.desc).map (fun d => d.parameters.length) = some 3 := by decide +kernel
theorem kD_X8_lay : yX8_lay.cls ≠ "java/lang/invoke/MethodHandle" ∧ yX8_lay.cls ≠ "java/lang/invoke/VarHandle" ∧ (parseMethodDescriptor yX8_lay.desc).map (fun d => d.parameters.length) = some 1 := by decide +kernel
theorem kD_X2_findBestLaying : yX2_findBestLaying.cls ≠ "java/lang/invoke/MethodHandle" ∧ yX2_findBestLaying.cls ≠ "java/lang/invoke/VarHandle" ∧ (parseMethodDescriptor yX2_findBestLaying.desc).map (fun d => d.parameters.length) = some 1 := by decide +kernel
theorem kD_X2_beginOrders : yX2_beginOrders.cls ≠ "java/lang/invoke/MethodHandle" ∧ yX2_beginOrders.cls ≠ "java/lang/invoke/VarHandle" ∧ (parseMethodDescriptor yX2_beginOrders.desc).map (fun d => d.parameters.length) = some 1 := by decide +kernel
theorem kD_X2_layInOrder : yX2_layInOrder.cls ≠ "java/lang/invoke/MethodHandle" ∧ yX2_layInOrder.cls ≠ "java/lang/invoke/VarHandle" ∧ (parseMethodDescriptor yX2_layInOrder.desc).map (fun d => d.parameters.length) = some 0 := by decide +kernel
theorem kD_X6_tiltTogether : yX6_tiltTogether.cls ≠ "java/lang/invoke/MethodHandle" ∧ yX6_tiltTogether.cls ≠ "java/lang/invoke/VarHandle" ∧ (parseMethodDescriptor yX6_tiltTogether.desc).map (fun d => d.parameters.length) = some 1 := by decide +kernel
theorem kD_J9_abs_0f7a4 : yJ9_abs_0f7a4.cls ≠ "java/lang/invoke/MethodHandle" ∧ yJ9_abs_0f7a4.cls ≠ "java/lang/invoke/VarHandle" ∧ (parseMethodDescriptor yJ9_abs_0f7a4.desc).map (fun d => d.parameters.length) = some 1 := by decide +kernel
theorem kD_X2_keepIfBetter : yX2_keepIfBetter.cls ≠ "java/lang/invoke/MethodHandle" ∧ yX2_keepIfBetter.cls ≠ "java/lang/invoke/VarHandle" ∧ (parseMethodDescriptor yX2_keepIfBetter.desc).map (fun d => d.parameters.length) = some 2 := by decide +kernel
theorem kD_X2_nextOrder : yX2_nextOrder.cls ≠ "java/lang/invoke/MethodHandle" ∧ yX2_nextOrder.cls ≠ "java/lang/invoke/VarHandle" ∧ (parseMethodDescriptor yX2_nextOrder.desc).map (fun d => d.parameters.length) = some 0 := by decide +kernel
theorem kD_X2_swapAt : yX2_swapAt.cls ≠ "java/lang/invoke/MethodHandle" ∧ yX2_swapAt.cls ≠ "java/lang/invoke/VarHandle" ∧ (parseMethodDescriptor yX2_swapAt.desc).map (fun d => d.parameters.length) = some 2 := by decide +kernel
theorem kD_X8_even : yX8_even.cls ≠ "java/lang/invoke/MethodHandle" ∧ yX8_even.cls ≠ "java/lang/invoke/VarHandle" ∧ (parseMethodDescriptor yX8_even.desc).map (fun d => d.parameters.length) = some 0 := by decide +kernel
theorem kD_X0_hoursUntilLevel : yX0_hoursUntilLevel.cls ≠ "java/lang/invoke/MethodHandle" ∧ yX0_hoursUntilLevel.cls ≠ "java/lang/invoke/VarHandle" ∧ (parseMethodDescriptor yX0_hoursUntilLevel.desc).map (fun d => d.parameters.length) = some 1 := by decide +kernel
theorem kD_X6_hangsLevel : yX6_hangsLevel.cls ≠ "java/lang/invoke/MethodHandle" ∧ yX6_hangsLevel.cls ≠ "java/lang/invoke/VarHandle" ∧ (parseMethodDescriptor yX6_hangsLevel.desc).map (fun d => d.parameters.length) = some 2 := by decide +kernel
theorem kD_X8_odds : yX8_odds.cls ≠ "java/lang/invoke/MethodHandle" ∧ yX8_odds.cls ≠ "java/lang/invoke/VarHandle" ∧ (parseMethodDescriptor yX8_odds.desc).map (fun d => d.parameters.length) = some 1 := by decide +kernel
theorem kD_X2_findOdds : yX2_findOdds.cls ≠ "java/lang/invoke/MethodHandle" ∧ yX2_findOdds.cls ≠ "java/lang/invoke/VarHandle" ∧ (parseMethodDescriptor yX2_findOdds.desc).map (fun d => d.parameters.length) = some 1 := by decide +kernel
theorem kD_X2_greatestDivisor : yX2_greatestDivisor.cls ≠ "java/lang/invoke/MethodHandle" ∧ yX2_greatestDivisor.cls ≠ "java/lang/invoke/VarHandle" ∧ (parseMethodDescriptor yX2_greatestDivisor.desc).map (fun d => d.parameters.length) = some 2 := by decide +kernel
theorem kD_X8_see : yX8_see.cls ≠ "java/lang/invoke/MethodHandle" ∧ yX8_see.cls ≠ "java/lang/invoke/VarHandle" ∧ (parseMethodDescriptor yX8_see.desc).map (fun d => d.parameters.length) = some 4 := by decide +kernel
theorem kD_X7_add : yX7_add.cls ≠ "java/lang/invoke/MethodHandle" ∧ yX7_add.cls ≠ "java/lang/invoke/VarHandle" ∧ (parseMethodDescriptor yX7_add.desc).map (fun d => d.parameters.length) = some 4 := by decide +kernel
theorem kD_X8_forget : yX8_forget.cls ≠ "java/lang/invoke/MethodHandle" ∧ yX8_forget.cls ≠ "java/lang/invoke/VarHandle" ∧ (parseMethodDescriptor yX8_forget.desc).map (fun d => d.parameters.length) = some 0 := by decide +kernel
theorem kD_X8_trial : yX8_trial.cls ≠ "java/lang/invoke/MethodHandle" ∧ yX8_trial.cls ≠ "java/lang/invoke/VarHandle" ∧ (parseMethodDescriptor yX8_trial.desc).map (fun d => d.parameters.length) = some 2 := by decide +kernel
theorem kD_X7_beadToTry : yX7_beadToTry.cls ≠ "java/lang/invoke/MethodHandle" ∧ yX7_beadToTry.cls ≠ "java/lang/invoke/VarHandle" ∧ (parseMethodDescriptor yX7_beadToTry.desc).map (fun d => d.parameters.length) = some 3 := by decide +kernel
theorem kD_J6_bitCount_0f7a4 : yJ6_bitCount_0f7a4.cls ≠ "java/lang/invoke/MethodHandle" ∧ yJ6_bitCount_0f7a4.cls ≠ "java/lang/invoke/VarHandle" ∧ (parseMethodDescriptor yJ6_bitCount_0f7a4.desc).map (fun d => d.parameters.length) = some 1 := by decide +kernel
theorem kD_X8_evenings : yX8_evenings.cls ≠ "java/lang/invoke/MethodHandle" ∧ yX8_evenings.cls ≠ "java/lang/invoke/VarHandle" ∧ (parseMethodDescriptor yX8_evenings.desc).map (fun d => d.parameters.length) = some 3 := by decide +kernel
theorem kD_X0_pass : yX0_pass.cls ≠ "java/lang/invoke/MethodHandle" ∧ yX0_pass.cls ≠ "java/lang/invoke/VarHandle" ∧ (parseMethodDescriptor yX0_pass.desc).map (fun d => d.parameters.length) = some 3 := by decide +kernel
theorem kD_X0_draw : yX0_draw.cls ≠ "java/lang/invoke/MethodHandle" ∧ yX0_draw.cls ≠ "java/lang/invoke/VarHandle" ∧ (parseMethodDescriptor yX0_draw.desc).map (fun d => d.parameters.length) = some 1 := by decide +kernel
theorem kD_X8_image : yX8_image.cls ≠ "java/lang/invoke/MethodHandle" ∧ yX8_image.cls ≠ "java/lang/invoke/VarHandle" ∧ (parseMethodDescriptor yX8_image.desc).map (fun d => d.parameters.length) = some 0 := by decide +kernel
theorem kD_X3_copyFrom : yX3_copyFrom.cls ≠ "java/lang/invoke/MethodHandle" ∧ yX3_copyFrom.cls ≠ "java/lang/invoke/VarHandle" ∧ (parseMethodDescriptor yX3_copyFrom.desc).map (fun d => d.parameters.length) = some 1 := by decide +kernel
theorem kD_X7_copyFrom : yX7_copyFrom.cls ≠ "java/lang/invoke/MethodHandle" ∧ yX7_copyFrom.cls ≠ "java/lang/invoke/VarHandle" ∧ (parseMethodDescriptor yX7_copyFrom.desc).map (fun d => d.parameters.length) = some 1 := by decide +kernel
theorem kD_X8_restore : yX8_restore.cls ≠ "java/lang/invoke/MethodHandle" ∧ yX8_restore.cls ≠ "java/lang/invoke/VarHandle" ∧ (parseMethodDescriptor yX8_restore.desc).map (fun d => d.parameters.length) = some 0 := by decide +kernel
theorem kD_X8_count : yX8_count.cls ≠ "java/lang/invoke/MethodHandle" ∧ yX8_count.cls ≠ "java/lang/invoke/VarHandle" ∧ (parseMethodDescriptor yX8_count.desc).map (fun d => d.parameters.length) = some 1 := by decide +kernel
theorem kD_X8_countOf : yX8_countOf.cls ≠ "java/lang/invoke/MethodHandle" ∧ yX8_countOf.cls ≠ "java/lang/invoke/VarHandle" ∧ (parseMethodDescriptor yX8_countOf.desc).map (fun d => d.parameters.length) = some 1 := by decide +kernel
theorem kD_X6_thingsThere : yX6_thingsThere.cls ≠ "java/lang/invoke/MethodHandle" ∧ yX6_thingsThere.cls ≠ "java/lang/invoke/VarHandle" ∧ (parseMethodDescriptor yX6_thingsThere.desc).map (fun d => d.parameters.length) = some 1 := by decide +kernel
theorem kD_X8_digest : yX8_digest.cls ≠ "java/lang/invoke/MethodHandle" ∧ yX8_digest.cls ≠ "java/lang/invoke/VarHandle" ∧ (parseMethodDescriptor yX8_digest.desc).map (fun d => d.parameters.length) = some 0 := by decide +kernel
theorem kD_X9_init : yX9_init.cls ≠ "java/lang/invoke/MethodHandle" ∧ yX9_init.cls ≠ "java/lang/invoke/VarHandle" ∧ (parseMethodDescriptor yX9_init.desc).map (fun d => d.parameters.length) = some 0 := by decide +kernel
theorem kD_X9_letter : yX9_letter.cls ≠ "java/lang/invoke/MethodHandle" ∧ yX9_letter.cls ≠ "java/lang/invoke/VarHandle" ∧ (parseMethodDescriptor yX9_letter.desc).map (fun d => d.parameters.length) = some 1 := by decide +kernel
theorem kD_X9_in : yX9_in.cls ≠ "java/lang/invoke/MethodHandle" ∧ yX9_in.cls ≠ "java/lang/invoke/VarHandle" ∧ (parseMethodDescriptor yX9_in.desc).map (fun d => d.parameters.length) = some 3 := by decide +kernel
theorem kD_X9_blank : yX9_blank.cls ≠ "java/lang/invoke/MethodHandle" ∧ yX9_blank.cls ≠ "java/lang/invoke/VarHandle" ∧ (parseMethodDescriptor yX9_blank.desc).map (fun d => d.parameters.length) = some 0 := by decide +kernel
theorem kD_X9_fault : yX9_fault.cls ≠ "java/lang/invoke/MethodHandle" ∧ yX9_fault.cls ≠ "java/lang/invoke/VarHandle" ∧ (parseMethodDescriptor yX9_fault.desc).map (fun d => d.parameters.length) = some 0 := by decide +kernel
theorem kD_X9_faultOf : yX9_faultOf.cls ≠ "java/lang/invoke/MethodHandle" ∧ yX9_faultOf.cls ≠ "java/lang/invoke/VarHandle" ∧ (parseMethodDescriptor yX9_faultOf.desc).map (fun d => d.parameters.length) = some 0 := by decide +kernel
theorem kD_X9_isRodLetter : yX9_isRodLetter.cls ≠ "java/lang/invoke/MethodHandle" ∧ yX9_isRodLetter.cls ≠ "java/lang/invoke/VarHandle" ∧ (parseMethodDescriptor yX9_isRodLetter.desc).map (fun d => d.parameters.length) = some 1 := by decide +kernel
theorem kD_X9_isHanging : yX9_isHanging.cls ≠ "java/lang/invoke/MethodHandle" ∧ yX9_isHanging.cls ≠ "java/lang/invoke/VarHandle" ∧ (parseMethodDescriptor yX9_isHanging.desc).map (fun d => d.parameters.length) = some 3 := by decide +kernel
theorem kD_X9_isThingLetter : yX9_isThingLetter.cls ≠ "java/lang/invoke/MethodHandle" ∧ yX9_isThingLetter.cls ≠ "java/lang/invoke/VarHandle" ∧ (parseMethodDescriptor yX9_isThingLetter.desc).map (fun d => d.parameters.length) = some 1 := by decide +kernel
theorem kD_X9_kindBy : yX9_kindBy.cls ≠ "java/lang/invoke/MethodHandle" ∧ yX9_kindBy.cls ≠ "java/lang/invoke/VarHandle" ∧ (parseMethodDescriptor yX9_kindBy.desc).map (fun d => d.parameters.length) = some 1 := by decide +kernel
theorem kD_X9_mobile : yX9_mobile.cls ≠ "java/lang/invoke/MethodHandle" ∧ yX9_mobile.cls ≠ "java/lang/invoke/VarHandle" ∧ (parseMethodDescriptor yX9_mobile.desc).map (fun d => d.parameters.length) = some 0 := by decide +kernel
theorem kD_X9_rod : yX9_rod.cls ≠ "java/lang/invoke/MethodHandle" ∧ yX9_rod.cls ≠ "java/lang/invoke/VarHandle" ∧ (parseMethodDescriptor yX9_rod.desc).map (fun d => d.parameters.length) = some 2 := by decide +kernel
theorem kD_X9_isRod : yX9_isRod.cls ≠ "java/lang/invoke/MethodHandle" ∧ yX9_isRod.cls ≠ "java/lang/invoke/VarHandle" ∧ (parseMethodDescriptor yX9_isRod.desc).map (fun d => d.parameters.length) = some 1 := by decide +kernel
theorem kD_X9_tellRod : yX9_tellRod.cls ≠ "java/lang/invoke/MethodHandle" ∧ yX9_tellRod.cls ≠ "java/lang/invoke/VarHandle" ∧ (parseMethodDescriptor yX9_tellRod.desc).map (fun d => d.parameters.length) = some 2 := by decide +kernel
theorem kD_X9_begin : yX9_begin.cls ≠ "java/lang/invoke/MethodHandle" ∧ yX9_begin.cls ≠ "java/lang/invoke/VarHandle" ∧ (parseMethodDescriptor yX9_begin.desc).map (fun d => d.parameters.length) = some 0 := by decide +kernel
theorem kD_X9_copy : yX9_copy.cls ≠ "java/lang/invoke/MethodHandle" ∧ yX9_copy.cls ≠ "java/lang/invoke/VarHandle" ∧ (parseMethodDescriptor yX9_copy.desc).map (fun d => d.parameters.length) = some 2 := by decide +kernel
theorem kD_X9_layTilts : yX9_layTilts.cls ≠ "java/lang/invoke/MethodHandle" ∧ yX9_layTilts.cls ≠ "java/lang/invoke/VarHandle" ∧ (parseMethodDescriptor yX9_layTilts.desc).map (fun d => d.parameters.length) = some 0 := by decide +kernel
theorem kD_X9_hungThen : yX9_hungThen.cls ≠ "java/lang/invoke/MethodHandle" ∧ yX9_hungThen.cls ≠ "java/lang/invoke/VarHandle" ∧ (parseMethodDescriptor yX9_hungThen.desc).map (fun d => d.parameters.length) = some 1 := by decide +kernel
theorem kD_X9_thingThen : yX9_thingThen.cls ≠ "java/lang/invoke/MethodHandle" ∧ yX9_thingThen.cls ≠ "java/lang/invoke/VarHandle" ∧ (parseMethodDescriptor yX9_thingThen.desc).map (fun d => d.parameters.length) = some 1 := by decide +kernel
theorem kD_X9_weighsBy : yX9_weighsBy.cls ≠ "java/lang/invoke/MethodHandle" ∧ yX9_weighsBy.cls ≠ "java/lang/invoke/VarHandle" ∧ (parseMethodDescriptor yX9_weighsBy.desc).map (fun d => d.parameters.length) = some 3 := by decide +kernel
theorem kD_X9_hangsOf : yX9_hangsOf.cls ≠ "java/lang/invoke/MethodHandle" ∧ yX9_hangsOf.cls ≠ "java/lang/invoke/VarHandle" ∧ (parseMethodDescriptor yX9_hangsOf.desc).map (fun d => d.parameters.length) = some 1 := by decide +kernel
theorem kD_X9_there : yX9_there.cls ≠ "java/lang/invoke/MethodHandle" ∧ yX9_there.cls ≠ "java/lang/invoke/VarHandle" ∧ (parseMethodDescriptor yX9_there.desc).map (fun d => d.parameters.length) = some 0 := by decide +kernel
theorem kD_X9_hookOf : yX9_hookOf.cls ≠ "java/lang/invoke/MethodHandle" ∧ yX9_hookOf.cls ≠ "java/lang/invoke/VarHandle" ∧ (parseMethodDescriptor yX9_hookOf.desc).map (fun d => d.parameters.length) = some 1 := by decide +kernel
theorem kD_X9_addOf : yX9_addOf.cls ≠ "java/lang/invoke/MethodHandle" ∧ yX9_addOf.cls ≠ "java/lang/invoke/VarHandle" ∧ (parseMethodDescriptor yX9_addOf.desc).map (fun d => d.parameters.length) = some 1 := by decide +kernel
theorem kD_X9_thing : yX9_thing.cls ≠ "java/lang/invoke/MethodHandle" ∧ yX9_thing.cls ≠ "java/lang/invoke/VarHandle" ∧ (parseMethodDescriptor yX9_thing.desc).map (fun d => d.parameters.length) = some 2 := by decide +kernel
theorem kD_X9_isThing : yX9_isThing.cls ≠ "java/lang/invoke/MethodHandle" ∧ yX9_isThing.cls ≠ "java/lang/invoke/VarHandle" ∧ (parseMethodDescriptor yX9_isThing.desc).map (fun d => d.parameters.length) = some 1 := by decide +kernel
theorem kD_X9_tellThing : yX9_tellThing.cls ≠ "java/lang/invoke/MethodHandle" ∧ yX9_tellThing.cls ≠ "java/lang/invoke/VarHandle" ∧ (parseMethodDescriptor yX9_tellThing.desc).map (fun d => d.parameters.length) = some 2 := by decide +kernel
theorem kD_X9_armOf : yX9_armOf.cls ≠ "java/lang/invoke/MethodHandle" ∧ yX9_armOf.cls ≠ "java/lang/invoke/VarHandle" ∧ (parseMethodDescriptor yX9_armOf.desc).map (fun d => d.parameters.length) = some 1 := by decide +kernel
theorem kD_X9_sizesOf : yX9_sizesOf.cls ≠ "java/lang/invoke/MethodHandle" ∧ yX9_sizesOf.cls ≠ "java/lang/invoke/VarHandle" ∧ (parseMethodDescriptor yX9_sizesOf.desc).map (fun d => d.parameters.length) = some 1 := by decide +kernel
theorem kD_X9_howIf : yX9_howIf.cls ≠ "java/lang/invoke/MethodHandle" ∧ yX9_howIf.cls ≠ "java/lang/invoke/VarHandle" ∧ (parseMethodDescriptor yX9_howIf.desc).map (fun d => d.parameters.length) = some 4 := by decide +kernel
theorem kD_X9_as : yX9_as.cls ≠ "java/lang/invoke/MethodHandle" ∧ yX9_as.cls ≠ "java/lang/invoke/VarHandle" ∧ (parseMethodDescriptor yX9_as.desc).map (fun d => d.parameters.length) = some 2 := by decide +kernel
theorem kD_X9_hour : yX9_hour.cls ≠ "java/lang/invoke/MethodHandle" ∧ yX9_hour.cls ≠ "java/lang/invoke/VarHandle" ∧ (parseMethodDescriptor yX9_hour.desc).map (fun d => d.parameters.length) = some 0 := by decide +kernel
theorem kD_X9_lacks : yX9_lacks.cls ≠ "java/lang/invoke/MethodHandle" ∧ yX9_lacks.cls ≠ "java/lang/invoke/VarHandle" ∧ (parseMethodDescriptor yX9_lacks.desc).map (fun d => d.parameters.length) = some 0 := by decide +kernel
theorem kD_X9_exchange : yX9_exchange.cls ≠ "java/lang/invoke/MethodHandle" ∧ yX9_exchange.cls ≠ "java/lang/invoke/VarHandle" ∧ (parseMethodDescriptor yX9_exchange.desc).map (fun d => d.parameters.length) = some 2 := by decide +kernel
theorem kD_X9_isCut : yX9_isCut.cls ≠ "java/lang/invoke/MethodHandle" ∧ yX9_isCut.cls ≠ "java/lang/invoke/VarHandle" ∧ (parseMethodDescriptor yX9_isCut.desc).map (fun d => d.parameters.length) = some 1 := by decide +kernel
theorem kD_X9_trade : yX9_trade.cls ≠ "java/lang/invoke/MethodHandle" ∧ yX9_trade.cls ≠ "java/lang/invoke/VarHandle" ∧ (parseMethodDescriptor yX9_trade.desc).map (fun d => d.parameters.length) = some 3 := by decide +kernel
theorem kD_X9_levelNow : yX9_levelNow.cls ≠ "java/lang/invoke/MethodHandle" ∧ yX9_levelNow.cls ≠ "java/lang/invoke/VarHandle" ∧ (parseMethodDescriptor yX9_levelNow.desc).map (fun d => d.parameters.length) = some 0 := by decide +kernel
theorem kD_X9_levelThen : yX9_levelThen.cls ≠ "java/lang/invoke/MethodHandle" ∧ yX9_levelThen.cls ≠ "java/lang/invoke/VarHandle" ∧ (parseMethodDescriptor yX9_levelThen.desc).map (fun d => d.parameters.length) = some 0 := by decide +kernel
theorem kD_X9_move : yX9_move.cls ≠ "java/lang/invoke/MethodHandle" ∧ yX9_move.cls ≠ "java/lang/invoke/VarHandle" ∧ (parseMethodDescriptor yX9_move.desc).map (fun d => d.parameters.length) = some 2 := by decide +kernel
theorem kD_X9_cut : yX9_cut.cls ≠ "java/lang/invoke/MethodHandle" ∧ yX9_cut.cls ≠ "java/lang/invoke/VarHandle" ∧ (parseMethodDescriptor yX9_cut.desc).map (fun d => d.parameters.length) = some 1 := by decide +kernel
theorem kD_X9_drop : yX9_drop.cls ≠ "java/lang/invoke/MethodHandle" ∧ yX9_drop.cls ≠ "java/lang/invoke/VarHandle" ∧ (parseMethodDescriptor yX9_drop.desc).map (fun d => d.parameters.length) = some 1 := by decide +kernel
theorem kD_X9_ones : yX9_ones.cls ≠ "java/lang/invoke/MethodHandle" ∧ yX9_ones.cls ≠ "java/lang/invoke/VarHandle" ∧ (parseMethodDescriptor yX9_ones.desc).map (fun d => d.parameters.length) = some 1 := by decide +kernel
theorem kD_X9_mend : yX9_mend.cls ≠ "java/lang/invoke/MethodHandle" ∧ yX9_mend.cls ≠ "java/lang/invoke/VarHandle" ∧ (parseMethodDescriptor yX9_mend.desc).map (fun d => d.parameters.length) = some 0 := by decide +kernel
theorem kD_X9_change : yX9_change.cls ≠ "java/lang/invoke/MethodHandle" ∧ yX9_change.cls ≠ "java/lang/invoke/VarHandle" ∧ (parseMethodDescriptor yX9_change.desc).map (fun d => d.parameters.length) = some 3 := by decide +kernel
theorem kD_X9_best : yX9_best.cls ≠ "java/lang/invoke/MethodHandle" ∧ yX9_best.cls ≠ "java/lang/invoke/VarHandle" ∧ (parseMethodDescriptor yX9_best.desc).map (fun d => d.parameters.length) = some 0 := by decide +kernel
theorem kD_X9_bestOf : yX9_bestOf.cls ≠ "java/lang/invoke/MethodHandle" ∧ yX9_bestOf.cls ≠ "java/lang/invoke/VarHandle" ∧ (parseMethodDescriptor yX9_bestOf.desc).map (fun d => d.parameters.length) = some 0 := by decide +kernel
theorem kD_X9_lay : yX9_lay.cls ≠ "java/lang/invoke/MethodHandle" ∧ yX9_lay.cls ≠ "java/lang/invoke/VarHandle" ∧ (parseMethodDescriptor yX9_lay.desc).map (fun d => d.parameters.length) = some 1 := by decide +kernel
theorem kD_X9_layOf : yX9_layOf.cls ≠ "java/lang/invoke/MethodHandle" ∧ yX9_layOf.cls ≠ "java/lang/invoke/VarHandle" ∧ (parseMethodDescriptor yX9_layOf.desc).map (fun d => d.parameters.length) = some 1 := by decide +kernel
theorem kD_X9_looseMany : yX9_looseMany.cls ≠ "java/lang/invoke/MethodHandle" ∧ yX9_looseMany.cls ≠ "java/lang/invoke/VarHandle" ∧ (parseMethodDescriptor yX9_looseMany.desc).map (fun d => d.parameters.length) = some 0 := by decide +kernel
theorem kD_X9_factorial : yX9_factorial.cls ≠ "java/lang/invoke/MethodHandle" ∧ yX9_factorial.cls ≠ "java/lang/invoke/VarHandle" ∧ (parseMethodDescriptor yX9_factorial.desc).map (fun d => d.parameters.length) = some 1 := by decide +kernel
theorem kD_X9_layOrder : yX9_layOrder.cls ≠ "java/lang/invoke/MethodHandle" ∧ yX9_layOrder.cls ≠ "java/lang/invoke/VarHandle" ∧ (parseMethodDescriptor yX9_layOrder.desc).map (fun d => d.parameters.length) = some 1 := by decide +kernel
theorem kD_X9_tiltsAll : yX9_tiltsAll.cls ≠ "java/lang/invoke/MethodHandle" ∧ yX9_tiltsAll.cls ≠ "java/lang/invoke/VarHandle" ∧ (parseMethodDescriptor yX9_tiltsAll.desc).map (fun d => d.parameters.length) = some 0 := by decide +kernel
theorem kD_X9_even : yX9_even.cls ≠ "java/lang/invoke/MethodHandle" ∧ yX9_even.cls ≠ "java/lang/invoke/VarHandle" ∧ (parseMethodDescriptor yX9_even.desc).map (fun d => d.parameters.length) = some 0 := by decide +kernel
theorem kD_X9_evenOf : yX9_evenOf.cls ≠ "java/lang/invoke/MethodHandle" ∧ yX9_evenOf.cls ≠ "java/lang/invoke/VarHandle" ∧ (parseMethodDescriptor yX9_evenOf.desc).map (fun d => d.parameters.length) = some 0 := by decide +kernel
theorem kD_X9_odds : yX9_odds.cls ≠ "java/lang/invoke/MethodHandle" ∧ yX9_odds.cls ≠ "java/lang/invoke/VarHandle" ∧ (parseMethodDescriptor yX9_odds.desc).map (fun d => d.parameters.length) = some 1 := by decide +kernel
theorem kD_X9_oddsOf : yX9_oddsOf.cls ≠ "java/lang/invoke/MethodHandle" ∧ yX9_oddsOf.cls ≠ "java/lang/invoke/VarHandle" ∧ (parseMethodDescriptor yX9_oddsOf.desc).map (fun d => d.parameters.length) = some 1 := by decide +kernel
theorem kD_X9_see : yX9_see.cls ≠ "java/lang/invoke/MethodHandle" ∧ yX9_see.cls ≠ "java/lang/invoke/VarHandle" ∧ (parseMethodDescriptor yX9_see.desc).map (fun d => d.parameters.length) = some 4 := by decide +kernel
theorem kD_X9_forget : yX9_forget.cls ≠ "java/lang/invoke/MethodHandle" ∧ yX9_forget.cls ≠ "java/lang/invoke/VarHandle" ∧ (parseMethodDescriptor yX9_forget.desc).map (fun d => d.parameters.length) = some 0 := by decide +kernel
theorem kD_X9_trial : yX9_trial.cls ≠ "java/lang/invoke/MethodHandle" ∧ yX9_trial.cls ≠ "java/lang/invoke/VarHandle" ∧ (parseMethodDescriptor yX9_trial.desc).map (fun d => d.parameters.length) = some 2 := by decide +kernel
theorem kD_X9_trialOf : yX9_trialOf.cls ≠ "java/lang/invoke/MethodHandle" ∧ yX9_trialOf.cls ≠ "java/lang/invoke/VarHandle" ∧ (parseMethodDescriptor yX9_trialOf.desc).map (fun d => d.parameters.length) = some 2 := by decide +kernel
theorem kD_X9_evenings : yX9_evenings.cls ≠ "java/lang/invoke/MethodHandle" ∧ yX9_evenings.cls ≠ "java/lang/invoke/VarHandle" ∧ (parseMethodDescriptor yX9_evenings.desc).map (fun d => d.parameters.length) = some 3 := by decide +kernel
theorem kD_X9_draw : yX9_draw.cls ≠ "java/lang/invoke/MethodHandle" ∧ yX9_draw.cls ≠ "java/lang/invoke/VarHandle" ∧ (parseMethodDescriptor yX9_draw.desc).map (fun d => d.parameters.length) = some 1 := by decide +kernel
theorem kD_X9_image : yX9_image.cls ≠ "java/lang/invoke/MethodHandle" ∧ yX9_image.cls ≠ "java/lang/invoke/VarHandle" ∧ (parseMethodDescriptor yX9_image.desc).map (fun d => d.parameters.length) = some 0 := by decide +kernel
theorem kD_X9_restore : yX9_restore.cls ≠ "java/lang/invoke/MethodHandle" ∧ yX9_restore.cls ≠ "java/lang/invoke/VarHandle" ∧ (parseMethodDescriptor yX9_restore.desc).map (fun d => d.parameters.length) = some 0 := by decide +kernel
theorem kD_X9_count : yX9_count.cls ≠ "java/lang/invoke/MethodHandle" ∧ yX9_count.cls ≠ "java/lang/invoke/VarHandle" ∧ (parseMethodDescriptor yX9_count.desc).map (fun d => d.parameters.length) = some 1 := by decide +kernel
theorem kD_X9_countOf : yX9_countOf.cls ≠ "java/lang/invoke/MethodHandle" ∧ yX9_countOf.cls ≠ "java/lang/invoke/VarHandle" ∧ (parseMethodDescriptor yX9_countOf.desc).map (fun d => d.parameters.length) = some 1 := by decide +kernel
theorem kD_X9_thingsThere : yX9_thingsThere.cls ≠ "java/lang/invoke/MethodHandle" ∧ yX9_thingsThere.cls ≠ "java/lang/invoke/VarHandle" ∧ (parseMethodDescriptor yX9_thingsThere.desc).map (fun d => d.parameters.length) = some 0 := by decide +kernel
theorem kD_X9_weighsAll : yX9_weighsAll.cls ≠ "java/lang/invoke/MethodHandle" ∧ yX9_weighsAll.cls ≠ "java/lang/invoke/VarHandle" ∧ (parseMethodDescriptor yX9_weighsAll.desc).map (fun d => d.parameters.length) = some 0 := by decide +kernel
theorem kD_X9_digest : yX9_digest.cls ≠ "java/lang/invoke/MethodHandle" ∧ yX9_digest.cls ≠ "java/lang/invoke/VarHandle" ∧ (parseMethodDescriptor yX9_digest.desc).map (fun d => d.parameters.length) = some 0 := by decide +kernel
theorem kD_X9_say : yX9_say.cls ≠ "java/lang/invoke/MethodHandle" ∧ yX9_say.cls ≠ "java/lang/invoke/VarHandle" ∧ (parseMethodDescriptor yX9_say.desc).map (fun d => d.parameters.length) = some 1 := by decide +kernel
theorem inX0 : ∀ w ∈ u_ws RX0 TX0 5, w ∈ gs_B := gs_ins [331, 333, 335, 337, 339] (by decide +kernel) (by decide +kernel)
theorem inX2 : ∀ w ∈ u_ws RX2 TX2 11, w ∈ gs_B := gs_ins [292, 294, 296, 298, 300, 302, 304, 306, 308, 310, 312] (by decide +kernel) (by decide +kernel)
theorem inX3 : ∀ w ∈ u_ws RX3 TX3 11, w ∈ gs_B := gs_ins [222, 224, 226, 228, 230, 232, 234, 236, 238, 240, 242] (by decide +kernel) (by decide +kernel)
theorem inX4 : ∀ w ∈ u_ws RX4 TX4 2, w ∈ gs_B := gs_ins [100, 102] (by decide +kernel) (by decide +kernel)
theorem inX5 : ∀ w ∈ u_ws RX5 TX5 10, w ∈ gs_B := gs_ins [128, 130, 132, 134, 136, 138, 140, 142, 144, 146] (by decide +kernel) (by decide +kernel)
theorem inX6 : ∀ w ∈ u_ws RX6 TX6 4, w ∈ gs_B := gs_ins [259, 261, 263, 265] (by decide +kernel) (by decide +kernel)
theorem inX7 : ∀ w ∈ u_ws RX7 TX7 5, w ∈ gs_B := gs_ins [169, 171, 173, 175, 177] (by decide +kernel) (by decide +kernel)
theorem inX8 : ∀ w ∈ u_ws RX8 TX8 10, w ∈ gs_B := gs_ins [352, 354, 356, 358, 360, 362, 364, 366, 368, 370] (by decide +kernel) (by decide +kernel)
theorem inX9 : ∀ w ∈ u_ws RX9 TX9 35, w ∈ gs_B := gs_ins [878, 880, 882, 884, 886, 888, 890, 892, 894, 896, 898, 900, 902, 904, 906, 908, 910, 912, 914, 916, 918, 920, 922, 924, 926, 928, 930, 932, 934, 936, 938, 940, 942, 944, 946] (by decide +kernel) (by decide +kernel)
