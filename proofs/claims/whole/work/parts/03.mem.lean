def lw_g : List Cond := lw_tbl.filter goodWord
theorem wl_X3_measure : Cond.selects RX3 yX3_measure yX3_measure ∈ lw_g := List.mem_filter.mpr ⟨List.mem_of_getElem? (i := 0) (by decide +kernel), rfl⟩
theorem wl_X3_measureRoads : Cond.selects RX3 yX3_measureRoads yX3_measureRoads ∈ lw_g := List.mem_filter.mpr ⟨List.mem_of_getElem? (i := 1) (by decide +kernel), rfl⟩
theorem wl_X3_shortenBy : Cond.selects RX3 yX3_shortenBy yX3_shortenBy ∈ lw_g := List.mem_filter.mpr ⟨List.mem_of_getElem? (i := 2) (by decide +kernel), rfl⟩
theorem wl_X8_noteChange : Cond.selects RX8 yX8_noteChange yX8_noteChange ∈ lw_g := List.mem_filter.mpr ⟨List.mem_of_getElem? (i := 3) (by decide +kernel), rfl⟩
theorem wl_X8_forgetResults : Cond.selects RX8 yX8_forgetResults yX8_forgetResults ∈ lw_g := List.mem_filter.mpr ⟨List.mem_of_getElem? (i := 4) (by decide +kernel), rfl⟩
theorem wl_X8_takeBack : Cond.selects RX8 yX8_takeBack yX8_takeBack ∈ lw_g := List.mem_filter.mpr ⟨List.mem_of_getElem? (i := 5) (by decide +kernel), rfl⟩
theorem wl_X8_refusalOfMoving : Cond.selects RX8 yX8_refusalOfMoving yX8_refusalOfMoving ∈ lw_g := List.mem_filter.mpr ⟨List.mem_of_getElem? (i := 6) (by decide +kernel), rfl⟩
theorem wl_X8_leastCost : Cond.selects RX8 yX8_leastCost yX8_leastCost ∈ lw_g := List.mem_filter.mpr ⟨List.mem_of_getElem? (i := 7) (by decide +kernel), rfl⟩
theorem wl_X4_joinSource : Cond.selects RX4 yX4_joinSource yX4_joinSource ∈ lw_g := List.mem_filter.mpr ⟨List.mem_of_getElem? (i := 8) (by decide +kernel), rfl⟩
theorem wl_X5_addArc : Cond.selects RX5 yX5_addArc yX5_addArc ∈ lw_g := List.mem_filter.mpr ⟨List.mem_of_getElem? (i := 9) (by decide +kernel), rfl⟩
theorem wl_X4_joinSink : Cond.selects RX4 yX4_joinSink yX4_joinSink ∈ lw_g := List.mem_filter.mpr ⟨List.mem_of_getElem? (i := 10) (by decide +kernel), rfl⟩
theorem wl_X5_search : Cond.selects RX5 yX5_search yX5_search ∈ lw_g := List.mem_filter.mpr ⟨List.mem_of_getElem? (i := 11) (by decide +kernel), rfl⟩
theorem wl_X5_relax : Cond.selects RX5 yX5_relax yX5_relax ∈ lw_g := List.mem_filter.mpr ⟨List.mem_of_getElem? (i := 12) (by decide +kernel), rfl⟩
theorem wl_X5_carry : Cond.selects RX5 yX5_carry yX5_carry ∈ lw_g := List.mem_filter.mpr ⟨List.mem_of_getElem? (i := 13) (by decide +kernel), rfl⟩
theorem wl_X8_refusalAtPlaces : Cond.selects RX8 yX8_refusalAtPlaces yX8_refusalAtPlaces ∈ lw_g := List.mem_filter.mpr ⟨List.mem_of_getElem? (i := 14) (by decide +kernel), rfl⟩
theorem wl_X8_makePlan : Cond.selects RX8 yX8_makePlan yX8_makePlan ∈ lw_g := List.mem_filter.mpr ⟨List.mem_of_getElem? (i := 15) (by decide +kernel), rfl⟩
theorem wl_X6_takeGoods : Cond.selects RX6 yX6_takeGoods yX6_takeGoods ∈ lw_g := List.mem_filter.mpr ⟨List.mem_of_getElem? (i := 16) (by decide +kernel), rfl⟩
theorem wl_X6_raiseHeights : Cond.selects RX6 yX6_raiseHeights yX6_raiseHeights ∈ lw_g := List.mem_filter.mpr ⟨List.mem_of_getElem? (i := 17) (by decide +kernel), rfl⟩
theorem wl_X6_lowerHeights : Cond.selects RX6 yX6_lowerHeights yX6_lowerHeights ∈ lw_g := List.mem_filter.mpr ⟨List.mem_of_getElem? (i := 18) (by decide +kernel), rfl⟩
theorem wl_X6_putFirst : Cond.selects RX6 yX6_putFirst yX6_putFirst ∈ lw_g := List.mem_filter.mpr ⟨List.mem_of_getElem? (i := 19) (by decide +kernel), rfl⟩
theorem wl_X6_isTight : Cond.selects RX6 yX6_isTight yX6_isTight ∈ lw_g := List.mem_filter.mpr ⟨List.mem_of_getElem? (i := 20) (by decide +kernel), rfl⟩
theorem wl_X6_findRing : Cond.selects RX6 yX6_findRing yX6_findRing ∈ lw_g := List.mem_filter.mpr ⟨List.mem_of_getElem? (i := 21) (by decide +kernel), rfl⟩
theorem wl_X6_reachColumns : Cond.selects RX6 yX6_reachColumns yX6_reachColumns ∈ lw_g := List.mem_filter.mpr ⟨List.mem_of_getElem? (i := 22) (by decide +kernel), rfl⟩
theorem wl_X6_turnRing : Cond.selects RX6 yX6_turnRing yX6_turnRing ∈ lw_g := List.mem_filter.mpr ⟨List.mem_of_getElem? (i := 23) (by decide +kernel), rfl⟩
theorem wl_X6_ringAmount : Cond.selects RX6 yX6_ringAmount yX6_ringAmount ∈ lw_g := List.mem_filter.mpr ⟨List.mem_of_getElem? (i := 24) (by decide +kernel), rfl⟩
theorem wl_X8_makeReach : Cond.selects RX8 yX8_makeReach yX8_makeReach ∈ lw_g := List.mem_filter.mpr ⟨List.mem_of_getElem? (i := 25) (by decide +kernel), rfl⟩
theorem wl_X7_joinEnds : Cond.selects RX7 yX7_joinEnds yX7_joinEnds ∈ lw_g := List.mem_filter.mpr ⟨List.mem_of_getElem? (i := 26) (by decide +kernel), rfl⟩
theorem wl_X7_joinDistance : Cond.selects RX7 yX7_joinDistance yX7_joinDistance ∈ lw_g := List.mem_filter.mpr ⟨List.mem_of_getElem? (i := 27) (by decide +kernel), rfl⟩
theorem wl_X7_noteStuck : Cond.selects RX7 yX7_noteStuck yX7_noteStuck ∈ lw_g := List.mem_filter.mpr ⟨List.mem_of_getElem? (i := 28) (by decide +kernel), rfl⟩
theorem wl_X9_keep : Cond.selects RX9 yX9_keep yX9_keep ∈ lw_g := List.mem_filter.mpr ⟨List.mem_of_getElem? (i := 29) (by decide +kernel), rfl⟩
theorem wl_X9_isPlace : Cond.selects RX9 yX9_isPlace yX9_isPlace ∈ lw_g := List.mem_filter.mpr ⟨List.mem_of_getElem? (i := 30) (by decide +kernel), rfl⟩
theorem wl_X9_isHeap : Cond.selects RX9 yX9_isHeap yX9_isHeap ∈ lw_g := List.mem_filter.mpr ⟨List.mem_of_getElem? (i := 31) (by decide +kernel), rfl⟩
theorem wl_X9_findFar : Cond.selects RX9 yX9_findFar yX9_findFar ∈ lw_g := List.mem_filter.mpr ⟨List.mem_of_getElem? (i := 32) (by decide +kernel), rfl⟩
theorem wl_X9_nextTo : Cond.selects RX9 yX9_nextTo yX9_nextTo ∈ lw_g := List.mem_filter.mpr ⟨List.mem_of_getElem? (i := 33) (by decide +kernel), rfl⟩
theorem wl_X9_sumOf : Cond.selects RX9 yX9_sumOf yX9_sumOf ∈ lw_g := List.mem_filter.mpr ⟨List.mem_of_getElem? (i := 34) (by decide +kernel), rfl⟩
theorem wl_X9_against : Cond.selects RX9 yX9_against yX9_against ∈ lw_g := List.mem_filter.mpr ⟨List.mem_of_getElem? (i := 35) (by decide +kernel), rfl⟩
theorem wl_X9_isJoined : Cond.selects RX9 yX9_isJoined yX9_isJoined ∈ lw_g := List.mem_filter.mpr ⟨List.mem_of_getElem? (i := 36) (by decide +kernel), rfl⟩
theorem wl_X9_solve : Cond.selects RX9 yX9_solve yX9_solve ∈ lw_g := List.mem_filter.mpr ⟨List.mem_of_getElem? (i := 37) (by decide +kernel), rfl⟩
theorem wl_X9_begin : Cond.selects RX9 yX9_begin yX9_begin ∈ lw_g := List.mem_filter.mpr ⟨List.mem_of_getElem? (i := 38) (by decide +kernel), rfl⟩
theorem wl_X9_findWay : Cond.selects RX9 yX9_findWay yX9_findWay ∈ lw_g := List.mem_filter.mpr ⟨List.mem_of_getElem? (i := 39) (by decide +kernel), rfl⟩
theorem wl_X9_go : Cond.selects RX9 yX9_go yX9_go ∈ lw_g := List.mem_filter.mpr ⟨List.mem_of_getElem? (i := 40) (by decide +kernel), rfl⟩
theorem wl_X9_costOf : Cond.selects RX9 yX9_costOf yX9_costOf ∈ lw_g := List.mem_filter.mpr ⟨List.mem_of_getElem? (i := 41) (by decide +kernel), rfl⟩
theorem wl_X9_findPlan : Cond.selects RX9 yX9_findPlan yX9_findPlan ∈ lw_g := List.mem_filter.mpr ⟨List.mem_of_getElem? (i := 42) (by decide +kernel), rfl⟩
theorem wl_X9_findHeights : Cond.selects RX9 yX9_findHeights yX9_findHeights ∈ lw_g := List.mem_filter.mpr ⟨List.mem_of_getElem? (i := 43) (by decide +kernel), rfl⟩
theorem wl_X9_loosen : Cond.selects RX9 yX9_loosen yX9_loosen ∈ lw_g := List.mem_filter.mpr ⟨List.mem_of_getElem? (i := 44) (by decide +kernel), rfl⟩
theorem wl_X9_isTight : Cond.selects RX9 yX9_isTight yX9_isTight ∈ lw_g := List.mem_filter.mpr ⟨List.mem_of_getElem? (i := 45) (by decide +kernel), rfl⟩
theorem wl_X9_canTurn : Cond.selects RX9 yX9_canTurn yX9_canTurn ∈ lw_g := List.mem_filter.mpr ⟨List.mem_of_getElem? (i := 46) (by decide +kernel), rfl⟩
theorem wl_X9_turn : Cond.selects RX9 yX9_turn yX9_turn ∈ lw_g := List.mem_filter.mpr ⟨List.mem_of_getElem? (i := 47) (by decide +kernel), rfl⟩
theorem wl_X9_findFarthest : Cond.selects RX9 yX9_findFarthest yX9_findFarthest ∈ lw_g := List.mem_filter.mpr ⟨List.mem_of_getElem? (i := 48) (by decide +kernel), rfl⟩
theorem wl_X9_fits : Cond.selects RX9 yX9_fits yX9_fits ∈ lw_g := List.mem_filter.mpr ⟨List.mem_of_getElem? (i := 49) (by decide +kernel), rfl⟩
theorem wl_X9_reach : Cond.selects RX9 yX9_reach yX9_reach ∈ lw_g := List.mem_filter.mpr ⟨List.mem_of_getElem? (i := 50) (by decide +kernel), rfl⟩
theorem wl_X9_arc : Cond.selects RX9 yX9_arc yX9_arc ∈ lw_g := List.mem_filter.mpr ⟨List.mem_of_getElem? (i := 51) (by decide +kernel), rfl⟩
theorem wl_X9_hasNetWay : Cond.selects RX9 yX9_hasNetWay yX9_hasNetWay ∈ lw_g := List.mem_filter.mpr ⟨List.mem_of_getElem? (i := 52) (by decide +kernel), rfl⟩
theorem wl_X9_goNet : Cond.selects RX9 yX9_goNet yX9_goNet ∈ lw_g := List.mem_filter.mpr ⟨List.mem_of_getElem? (i := 53) (by decide +kernel), rfl⟩
theorem wl_X9_drafted : Cond.selects RX9 yX9_drafted yX9_drafted ∈ lw_g := List.mem_filter.mpr ⟨List.mem_of_getElem? (i := 54) (by decide +kernel), rfl⟩
theorem wn_L : Cond.initialized RL ∈ lw_g := List.mem_filter.mpr ⟨List.mem_of_getElem? (i := 55) (by decide +kernel), rfl⟩
theorem wn_X8 : Cond.initialized RX8 ∈ lw_g := List.mem_filter.mpr ⟨List.mem_of_getElem? (i := 56) (by decide +kernel), rfl⟩
theorem wn_X3 : Cond.initialized RX3 ∈ lw_g := List.mem_filter.mpr ⟨List.mem_of_getElem? (i := 57) (by decide +kernel), rfl⟩
theorem wn_X2 : Cond.initialized RX2 ∈ lw_g := List.mem_filter.mpr ⟨List.mem_of_getElem? (i := 58) (by decide +kernel), rfl⟩
theorem wn_X0 : Cond.initialized RX0 ∈ lw_g := List.mem_filter.mpr ⟨List.mem_of_getElem? (i := 59) (by decide +kernel), rfl⟩
theorem wn_X1 : Cond.initialized RX1 ∈ lw_g := List.mem_filter.mpr ⟨List.mem_of_getElem? (i := 60) (by decide +kernel), rfl⟩
theorem wn_X4 : Cond.initialized RX4 ∈ lw_g := List.mem_filter.mpr ⟨List.mem_of_getElem? (i := 61) (by decide +kernel), rfl⟩
theorem wn_X5 : Cond.initialized RX5 ∈ lw_g := List.mem_filter.mpr ⟨List.mem_of_getElem? (i := 62) (by decide +kernel), rfl⟩
theorem wn_X6 : Cond.initialized RX6 ∈ lw_g := List.mem_filter.mpr ⟨List.mem_of_getElem? (i := 63) (by decide +kernel), rfl⟩
theorem wn_X7 : Cond.initialized RX7 ∈ lw_g := List.mem_filter.mpr ⟨List.mem_of_getElem? (i := 64) (by decide +kernel), rfl⟩
theorem wn_X9 : Cond.initialized RX9 ∈ lw_g := List.mem_filter.mpr ⟨List.mem_of_getElem? (i := 65) (by decide +kernel), rfl⟩
theorem wn_J7 : Cond.initialized "java/util/Arrays" ∈ lw_g := List.mem_filter.mpr ⟨List.mem_of_getElem? (i := 66) (by decide +kernel), rfl⟩
theorem wn_J9 : Cond.initialized "java/lang/Math" ∈ lw_g := List.mem_filter.mpr ⟨List.mem_of_getElem? (i := 67) (by decide +kernel), rfl⟩
theorem wn_J10 : Cond.initialized "java/lang/System" ∈ lw_g := List.mem_filter.mpr ⟨List.mem_of_getElem? (i := 68) (by decide +kernel), rfl⟩
theorem wq_L_7 : Cond.classLink RL 7 RX8 ∈ lw_g := List.mem_filter.mpr ⟨List.mem_of_getElem? (i := 69) (by decide +kernel), rfl⟩
theorem wb_X8 : Cond.instantiable RX8 12 ∈ lw_g := List.mem_filter.mpr ⟨List.mem_of_getElem? (i := 70) (by decide +kernel), rfl⟩
theorem wm_L_9 : Cond.methodLink RL 9 yX8_init ∈ lw_g := List.mem_filter.mpr ⟨List.mem_of_getElem? (i := 71) (by decide +kernel), rfl⟩
theorem wi_X8_init : Cond.instanceMethod yX8_init ∈ lw_g := List.mem_filter.mpr ⟨List.mem_of_getElem? (i := 72) (by decide +kernel), rfl⟩
theorem wc_X8_init : Cond.code yX8_init cX8_init 1 none ∈ lw_g := List.mem_filter.mpr ⟨List.mem_of_getElem? (i := 73) (by decide +kernel), rfl⟩
theorem wm_X8_3 : Cond.methodLink RX8 3 objectInit ∈ lw_g := List.mem_filter.mpr ⟨List.mem_of_getElem? (i := 74) (by decide +kernel), rfl⟩
theorem wi_obj : Cond.instanceMethod objectInit ∈ lw_g := List.mem_filter.mpr ⟨List.mem_of_getElem? (i := 75) (by decide +kernel), rfl⟩
theorem wc_obj : Cond.code objectInit ⟨#[0xb1]⟩ 1 none ∈ lw_g := List.mem_filter.mpr ⟨List.mem_of_getElem? (i := 76) (by decide +kernel), rfl⟩
theorem wq_X8_9 : Cond.classLink RX8 9 RX3 ∈ lw_g := List.mem_filter.mpr ⟨List.mem_of_getElem? (i := 77) (by decide +kernel), rfl⟩
theorem wb_X3 : Cond.instantiable RX3 8 ∈ lw_g := List.mem_filter.mpr ⟨List.mem_of_getElem? (i := 78) (by decide +kernel), rfl⟩
theorem wm_X8_11 : Cond.methodLink RX8 11 yX3_init ∈ lw_g := List.mem_filter.mpr ⟨List.mem_of_getElem? (i := 79) (by decide +kernel), rfl⟩
theorem wi_X3_init : Cond.instanceMethod yX3_init ∈ lw_g := List.mem_filter.mpr ⟨List.mem_of_getElem? (i := 80) (by decide +kernel), rfl⟩
theorem wc_X3_init : Cond.code yX3_init cX3_init 2 none ∈ lw_g := List.mem_filter.mpr ⟨List.mem_of_getElem? (i := 81) (by decide +kernel), rfl⟩
theorem wm_X3_3 : Cond.methodLink RX3 3 objectInit ∈ lw_g := List.mem_filter.mpr ⟨List.mem_of_getElem? (i := 82) (by decide +kernel), rfl⟩
theorem wq_X3_24 : Cond.classLink RX3 24 "[[I" ∈ lw_g := List.mem_filter.mpr ⟨List.mem_of_getElem? (i := 83) (by decide +kernel), rfl⟩
theorem wo_int : Cond.arrayOver (.array .int) ∈ lw_tbl := List.mem_of_getElem? (i := 84) (by decide +kernel)
theorem wf_X7_22 : Cond.fieldLink RX7 22 "HeapMover$Land" "places" "I" ∈ lw_g := List.mem_filter.mpr ⟨List.mem_of_getElem? (i := 85) (by decide +kernel), rfl⟩
theorem wf_X8_74 : Cond.fieldLink RX8 74 "HeapMover$Land" "places" "I" ∈ lw_g := List.mem_filter.mpr ⟨List.mem_of_getElem? (i := 86) (by decide +kernel), rfl⟩
theorem wf_X3_32 : Cond.fieldLink RX3 32 "HeapMover$Land" "places" "I" ∈ lw_g := List.mem_filter.mpr ⟨List.mem_of_getElem? (i := 87) (by decide +kernel), rfl⟩
theorem wf_X4_21 : Cond.fieldLink RX4 21 "HeapMover$Land" "places" "I" ∈ lw_g := List.mem_filter.mpr ⟨List.mem_of_getElem? (i := 88) (by decide +kernel), rfl⟩
theorem wf_X6_35 : Cond.fieldLink RX6 35 "HeapMover$Land" "places" "I" ∈ lw_g := List.mem_filter.mpr ⟨List.mem_of_getElem? (i := 89) (by decide +kernel), rfl⟩
theorem wf_X1_22 : Cond.fieldLink RX1 22 "HeapMover$Land" "places" "I" ∈ lw_g := List.mem_filter.mpr ⟨List.mem_of_getElem? (i := 90) (by decide +kernel), rfl⟩
theorem wf_X8_89 : Cond.fieldLink RX8 89 "HeapMover$Land" "roads" "I" ∈ lw_g := List.mem_filter.mpr ⟨List.mem_of_getElem? (i := 91) (by decide +kernel), rfl⟩
theorem wf_X3_39 : Cond.fieldLink RX3 39 "HeapMover$Land" "roads" "I" ∈ lw_g := List.mem_filter.mpr ⟨List.mem_of_getElem? (i := 92) (by decide +kernel), rfl⟩
theorem wf_X3_9 : Cond.fieldLink RX3 9 "HeapMover$Land" "starts" "[I" ∈ lw_g := List.mem_filter.mpr ⟨List.mem_of_getElem? (i := 93) (by decide +kernel), rfl⟩
theorem wf_X3_15 : Cond.fieldLink RX3 15 "HeapMover$Land" "ends" "[I" ∈ lw_g := List.mem_filter.mpr ⟨List.mem_of_getElem? (i := 94) (by decide +kernel), rfl⟩
theorem wf_X3_18 : Cond.fieldLink RX3 18 "HeapMover$Land" "lengths" "[I" ∈ lw_g := List.mem_filter.mpr ⟨List.mem_of_getElem? (i := 95) (by decide +kernel), rfl⟩
theorem wf_X3_21 : Cond.fieldLink RX3 21 "HeapMover$Land" "bounds" "[I" ∈ lw_g := List.mem_filter.mpr ⟨List.mem_of_getElem? (i := 96) (by decide +kernel), rfl⟩
theorem wf_X4_54 : Cond.fieldLink RX4 54 "HeapMover$Land" "bounds" "[I" ∈ lw_g := List.mem_filter.mpr ⟨List.mem_of_getElem? (i := 97) (by decide +kernel), rfl⟩
theorem wf_X8_105 : Cond.fieldLink RX8 105 "HeapMover$Land" "bounds" "[I" ∈ lw_g := List.mem_filter.mpr ⟨List.mem_of_getElem? (i := 98) (by decide +kernel), rfl⟩
theorem wf_X3_26 : Cond.fieldLink RX3 26 "HeapMover$Land" "directs" "[[I" ∈ lw_g := List.mem_filter.mpr ⟨List.mem_of_getElem? (i := 99) (by decide +kernel), rfl⟩
theorem wf_X4_58 : Cond.fieldLink RX4 58 "HeapMover$Land" "directs" "[[I" ∈ lw_g := List.mem_filter.mpr ⟨List.mem_of_getElem? (i := 100) (by decide +kernel), rfl⟩
theorem wf_X3_29 : Cond.fieldLink RX3 29 "HeapMover$Land" "distances" "[[I" ∈ lw_g := List.mem_filter.mpr ⟨List.mem_of_getElem? (i := 101) (by decide +kernel), rfl⟩
theorem wf_X4_32 : Cond.fieldLink RX4 32 "HeapMover$Land" "distances" "[[I" ∈ lw_g := List.mem_filter.mpr ⟨List.mem_of_getElem? (i := 102) (by decide +kernel), rfl⟩
theorem wf_X6_56 : Cond.fieldLink RX6 56 "HeapMover$Land" "distances" "[[I" ∈ lw_g := List.mem_filter.mpr ⟨List.mem_of_getElem? (i := 103) (by decide +kernel), rfl⟩
theorem wf_X7_66 : Cond.fieldLink RX7 66 "HeapMover$Land" "distances" "[[I" ∈ lw_g := List.mem_filter.mpr ⟨List.mem_of_getElem? (i := 104) (by decide +kernel), rfl⟩
theorem wf_X1_28 : Cond.fieldLink RX1 28 "HeapMover$Land" "distances" "[[I" ∈ lw_g := List.mem_filter.mpr ⟨List.mem_of_getElem? (i := 105) (by decide +kernel), rfl⟩
theorem wf_X8_122 : Cond.fieldLink RX8 122 "HeapMover$Land" "distances" "[[I" ∈ lw_g := List.mem_filter.mpr ⟨List.mem_of_getElem? (i := 106) (by decide +kernel), rfl⟩
theorem wy_int : Cond.arrayClass .int ∈ lw_g := List.mem_filter.mpr ⟨List.mem_of_getElem? (i := 124) (by decide +kernel), rfl⟩
theorem wq_X8_16 : Cond.classLink RX8 16 RX2 ∈ lw_g := List.mem_filter.mpr ⟨List.mem_of_getElem? (i := 125) (by decide +kernel), rfl⟩
theorem wb_X2 : Cond.instantiable RX2 2 ∈ lw_g := List.mem_filter.mpr ⟨List.mem_of_getElem? (i := 126) (by decide +kernel), rfl⟩
theorem wt_X8_18 : Cond.methodLinkNest RX8 18 yX2_init "HeapMover" ∈ lw_tbl := List.mem_of_getElem? (i := 127) (by decide +kernel)
theorem wi_X2_init : Cond.instanceMethod yX2_init ∈ lw_g := List.mem_filter.mpr ⟨List.mem_of_getElem? (i := 128) (by decide +kernel), rfl⟩
theorem wc_X2_init : Cond.code yX2_init cX2_init 1 none ∈ lw_g := List.mem_filter.mpr ⟨List.mem_of_getElem? (i := 129) (by decide +kernel), rfl⟩
theorem wm_X2_3 : Cond.methodLink RX2 3 objectInit ∈ lw_g := List.mem_filter.mpr ⟨List.mem_of_getElem? (i := 130) (by decide +kernel), rfl⟩
theorem wq_X2_9 : Cond.classLink RX2 9 "[[I" ∈ lw_g := List.mem_filter.mpr ⟨List.mem_of_getElem? (i := 131) (by decide +kernel), rfl⟩
theorem wf_X2_16 : Cond.fieldLink RX2 16 "HeapMover$Heaps" "made" "I" ∈ lw_g := List.mem_filter.mpr ⟨List.mem_of_getElem? (i := 132) (by decide +kernel), rfl⟩
theorem wf_X8_96 : Cond.fieldLink RX8 96 "HeapMover$Heaps" "made" "I" ∈ lw_g := List.mem_filter.mpr ⟨List.mem_of_getElem? (i := 133) (by decide +kernel), rfl⟩
theorem wf_X2_11 : Cond.fieldLink RX2 11 "HeapMover$Heaps" "amounts" "[[I" ∈ lw_g := List.mem_filter.mpr ⟨List.mem_of_getElem? (i := 134) (by decide +kernel), rfl⟩
theorem wf_X8_100 : Cond.fieldLink RX8 100 "HeapMover$Heaps" "amounts" "[[I" ∈ lw_g := List.mem_filter.mpr ⟨List.mem_of_getElem? (i := 135) (by decide +kernel), rfl⟩
theorem wq_X8_23 : Cond.classLink RX8 23 RX0 ∈ lw_g := List.mem_filter.mpr ⟨List.mem_of_getElem? (i := 141) (by decide +kernel), rfl⟩
theorem wb_X0 : Cond.instantiable RX0 6 ∈ lw_g := List.mem_filter.mpr ⟨List.mem_of_getElem? (i := 142) (by decide +kernel), rfl⟩
theorem wt_X8_25 : Cond.methodLinkNest RX8 25 yX0_init "HeapMover" ∈ lw_tbl := List.mem_of_getElem? (i := 143) (by decide +kernel)
theorem wi_X0_init : Cond.instanceMethod yX0_init ∈ lw_g := List.mem_filter.mpr ⟨List.mem_of_getElem? (i := 144) (by decide +kernel), rfl⟩
theorem wc_X0_init : Cond.code yX0_init cX0_init 1 none ∈ lw_g := List.mem_filter.mpr ⟨List.mem_of_getElem? (i := 145) (by decide +kernel), rfl⟩
theorem wm_X0_3 : Cond.methodLink RX0 3 objectInit ∈ lw_g := List.mem_filter.mpr ⟨List.mem_of_getElem? (i := 146) (by decide +kernel), rfl⟩
theorem wf_X0_28 : Cond.fieldLink RX0 28 "HeapMover$Changes" "kept" "I" ∈ lw_g := List.mem_filter.mpr ⟨List.mem_of_getElem? (i := 147) (by decide +kernel), rfl⟩
theorem wf_X8_109 : Cond.fieldLink RX8 109 "HeapMover$Changes" "kept" "I" ∈ lw_g := List.mem_filter.mpr ⟨List.mem_of_getElem? (i := 148) (by decide +kernel), rfl⟩
theorem wf_X0_24 : Cond.fieldLink RX0 24 "HeapMover$Changes" "oldest" "I" ∈ lw_g := List.mem_filter.mpr ⟨List.mem_of_getElem? (i := 149) (by decide +kernel), rfl⟩
theorem wf_X0_9 : Cond.fieldLink RX0 9 "HeapMover$Changes" "kinds" "[I" ∈ lw_g := List.mem_filter.mpr ⟨List.mem_of_getElem? (i := 150) (by decide +kernel), rfl⟩
theorem wf_X8_228 : Cond.fieldLink RX8 228 "HeapMover$Changes" "kinds" "[I" ∈ lw_g := List.mem_filter.mpr ⟨List.mem_of_getElem? (i := 151) (by decide +kernel), rfl⟩
theorem wf_X0_15 : Cond.fieldLink RX0 15 "HeapMover$Changes" "firsts" "[I" ∈ lw_g := List.mem_filter.mpr ⟨List.mem_of_getElem? (i := 152) (by decide +kernel), rfl⟩
theorem wf_X8_222 : Cond.fieldLink RX8 222 "HeapMover$Changes" "firsts" "[I" ∈ lw_g := List.mem_filter.mpr ⟨List.mem_of_getElem? (i := 153) (by decide +kernel), rfl⟩
theorem wf_X0_18 : Cond.fieldLink RX0 18 "HeapMover$Changes" "seconds" "[I" ∈ lw_g := List.mem_filter.mpr ⟨List.mem_of_getElem? (i := 154) (by decide +kernel), rfl⟩
theorem wf_X8_225 : Cond.fieldLink RX8 225 "HeapMover$Changes" "seconds" "[I" ∈ lw_g := List.mem_filter.mpr ⟨List.mem_of_getElem? (i := 155) (by decide +kernel), rfl⟩
theorem wf_X0_21 : Cond.fieldLink RX0 21 "HeapMover$Changes" "befores" "[I" ∈ lw_g := List.mem_filter.mpr ⟨List.mem_of_getElem? (i := 156) (by decide +kernel), rfl⟩
theorem wf_X8_240 : Cond.fieldLink RX8 240 "HeapMover$Changes" "befores" "[I" ∈ lw_g := List.mem_filter.mpr ⟨List.mem_of_getElem? (i := 157) (by decide +kernel), rfl⟩
theorem wq_X8_30 : Cond.classLink RX8 30 RX1 ∈ lw_g := List.mem_filter.mpr ⟨List.mem_of_getElem? (i := 171) (by decide +kernel), rfl⟩
theorem wb_X1 : Cond.instantiable RX1 1 ∈ lw_g := List.mem_filter.mpr ⟨List.mem_of_getElem? (i := 172) (by decide +kernel), rfl⟩
theorem wt_X8_32 : Cond.methodLinkNest RX8 32 yX1_init "HeapMover" ∈ lw_tbl := List.mem_of_getElem? (i := 173) (by decide +kernel)
theorem wi_X1_init : Cond.instanceMethod yX1_init ∈ lw_g := List.mem_filter.mpr ⟨List.mem_of_getElem? (i := 174) (by decide +kernel), rfl⟩
theorem wc_X1_init : Cond.code yX1_init cX1_init 1 none ∈ lw_g := List.mem_filter.mpr ⟨List.mem_of_getElem? (i := 175) (by decide +kernel), rfl⟩
theorem wm_X1_3 : Cond.methodLink RX1 3 objectInit ∈ lw_g := List.mem_filter.mpr ⟨List.mem_of_getElem? (i := 176) (by decide +kernel), rfl⟩
theorem wq_X1_9 : Cond.classLink RX1 9 "[[I" ∈ lw_g := List.mem_filter.mpr ⟨List.mem_of_getElem? (i := 177) (by decide +kernel), rfl⟩
theorem wf_X1_11 : Cond.fieldLink RX1 11 "HeapMover$Draft" "numbers" "[[I" ∈ lw_g := List.mem_filter.mpr ⟨List.mem_of_getElem? (i := 178) (by decide +kernel), rfl⟩
theorem wf_X8_189 : Cond.fieldLink RX8 189 "HeapMover$Draft" "numbers" "[[I" ∈ lw_g := List.mem_filter.mpr ⟨List.mem_of_getElem? (i := 179) (by decide +kernel), rfl⟩
theorem wq_X8_37 : Cond.classLink RX8 37 RX4 ∈ lw_g := List.mem_filter.mpr ⟨List.mem_of_getElem? (i := 183) (by decide +kernel), rfl⟩
theorem wb_X4 : Cond.instantiable RX4 1 ∈ lw_g := List.mem_filter.mpr ⟨List.mem_of_getElem? (i := 184) (by decide +kernel), rfl⟩
theorem wt_X8_39 : Cond.methodLinkNest RX8 39 yX4_init "HeapMover" ∈ lw_tbl := List.mem_of_getElem? (i := 185) (by decide +kernel)
theorem wi_X4_init : Cond.instanceMethod yX4_init ∈ lw_g := List.mem_filter.mpr ⟨List.mem_of_getElem? (i := 186) (by decide +kernel), rfl⟩
theorem wc_X4_init : Cond.code yX4_init cX4_init 1 none ∈ lw_g := List.mem_filter.mpr ⟨List.mem_of_getElem? (i := 187) (by decide +kernel), rfl⟩
theorem wm_X4_3 : Cond.methodLink RX4 3 objectInit ∈ lw_g := List.mem_filter.mpr ⟨List.mem_of_getElem? (i := 188) (by decide +kernel), rfl⟩
theorem wq_X4_9 : Cond.classLink RX4 9 RX5 ∈ lw_g := List.mem_filter.mpr ⟨List.mem_of_getElem? (i := 189) (by decide +kernel), rfl⟩
theorem wb_X5 : Cond.instantiable RX5 9 ∈ lw_g := List.mem_filter.mpr ⟨List.mem_of_getElem? (i := 190) (by decide +kernel), rfl⟩
theorem wt_X4_11 : Cond.methodLinkNest RX4 11 yX5_init "HeapMover" ∈ lw_tbl := List.mem_of_getElem? (i := 191) (by decide +kernel)
theorem wi_X5_init : Cond.instanceMethod yX5_init ∈ lw_g := List.mem_filter.mpr ⟨List.mem_of_getElem? (i := 192) (by decide +kernel), rfl⟩
theorem wc_X5_init : Cond.code yX5_init cX5_init 1 none ∈ lw_g := List.mem_filter.mpr ⟨List.mem_of_getElem? (i := 193) (by decide +kernel), rfl⟩
theorem wm_X5_3 : Cond.methodLink RX5 3 objectInit ∈ lw_g := List.mem_filter.mpr ⟨List.mem_of_getElem? (i := 194) (by decide +kernel), rfl⟩
theorem wf_X5_30 : Cond.fieldLink RX5 30 "HeapMover$Network" "arcs" "I" ∈ lw_g := List.mem_filter.mpr ⟨List.mem_of_getElem? (i := 195) (by decide +kernel), rfl⟩
theorem wf_X6_71 : Cond.fieldLink RX6 71 "HeapMover$Network" "arcs" "I" ∈ lw_g := List.mem_filter.mpr ⟨List.mem_of_getElem? (i := 196) (by decide +kernel), rfl⟩
theorem wf_X5_34 : Cond.fieldLink RX5 34 "HeapMover$Network" "moved" "I" ∈ lw_g := List.mem_filter.mpr ⟨List.mem_of_getElem? (i := 197) (by decide +kernel), rfl⟩
theorem wf_X7_49 : Cond.fieldLink RX7 49 "HeapMover$Network" "moved" "I" ∈ lw_g := List.mem_filter.mpr ⟨List.mem_of_getElem? (i := 198) (by decide +kernel), rfl⟩
theorem wf_X4_61 : Cond.fieldLink RX4 61 "HeapMover$Network" "moved" "I" ∈ lw_g := List.mem_filter.mpr ⟨List.mem_of_getElem? (i := 199) (by decide +kernel), rfl⟩
theorem wf_X5_37 : Cond.fieldLink RX5 37 "HeapMover$Network" "spent" "I" ∈ lw_g := List.mem_filter.mpr ⟨List.mem_of_getElem? (i := 200) (by decide +kernel), rfl⟩
theorem wf_X4_51 : Cond.fieldLink RX4 51 "HeapMover$Network" "spent" "I" ∈ lw_g := List.mem_filter.mpr ⟨List.mem_of_getElem? (i := 201) (by decide +kernel), rfl⟩
theorem wf_X5_9 : Cond.fieldLink RX5 9 "HeapMover$Network" "tails" "[I" ∈ lw_g := List.mem_filter.mpr ⟨List.mem_of_getElem? (i := 202) (by decide +kernel), rfl⟩
theorem wf_X6_76 : Cond.fieldLink RX6 76 "HeapMover$Network" "tails" "[I" ∈ lw_g := List.mem_filter.mpr ⟨List.mem_of_getElem? (i := 203) (by decide +kernel), rfl⟩
theorem wf_X5_15 : Cond.fieldLink RX5 15 "HeapMover$Network" "heads" "[I" ∈ lw_g := List.mem_filter.mpr ⟨List.mem_of_getElem? (i := 204) (by decide +kernel), rfl⟩
theorem wf_X6_79 : Cond.fieldLink RX6 79 "HeapMover$Network" "heads" "[I" ∈ lw_g := List.mem_filter.mpr ⟨List.mem_of_getElem? (i := 205) (by decide +kernel), rfl⟩
theorem wf_X5_18 : Cond.fieldLink RX5 18 "HeapMover$Network" "rooms" "[I" ∈ lw_g := List.mem_filter.mpr ⟨List.mem_of_getElem? (i := 206) (by decide +kernel), rfl⟩
theorem wf_X6_82 : Cond.fieldLink RX6 82 "HeapMover$Network" "rooms" "[I" ∈ lw_g := List.mem_filter.mpr ⟨List.mem_of_getElem? (i := 207) (by decide +kernel), rfl⟩
theorem wf_X5_21 : Cond.fieldLink RX5 21 "HeapMover$Network" "prices" "[I" ∈ lw_g := List.mem_filter.mpr ⟨List.mem_of_getElem? (i := 208) (by decide +kernel), rfl⟩
theorem wf_X5_24 : Cond.fieldLink RX5 24 "HeapMover$Network" "costs" "[I" ∈ lw_g := List.mem_filter.mpr ⟨List.mem_of_getElem? (i := 209) (by decide +kernel), rfl⟩
theorem wf_X5_27 : Cond.fieldLink RX5 27 "HeapMover$Network" "lastArcs" "[I" ∈ lw_g := List.mem_filter.mpr ⟨List.mem_of_getElem? (i := 210) (by decide +kernel), rfl⟩
theorem wf_X4_12 : Cond.fieldLink RX4 12 "HeapMover$Mover" "network" "LHeapMover$Network;" ∈ lw_g := List.mem_filter.mpr ⟨List.mem_of_getElem? (i := 230) (by decide +kernel), rfl⟩
theorem wf_X6_41 : Cond.fieldLink RX6 41 "HeapMover$Mover" "network" "LHeapMover$Network;" ∈ lw_g := List.mem_filter.mpr ⟨List.mem_of_getElem? (i := 231) (by decide +kernel), rfl⟩
theorem wq_X8_44 : Cond.classLink RX8 44 RX6 ∈ lw_g := List.mem_filter.mpr ⟨List.mem_of_getElem? (i := 235) (by decide +kernel), rfl⟩
theorem wb_X6 : Cond.instantiable RX6 5 ∈ lw_g := List.mem_filter.mpr ⟨List.mem_of_getElem? (i := 236) (by decide +kernel), rfl⟩
theorem wt_X8_46 : Cond.methodLinkNest RX8 46 yX6_init "HeapMover" ∈ lw_tbl := List.mem_of_getElem? (i := 237) (by decide +kernel)
theorem wi_X6_init : Cond.instanceMethod yX6_init ∈ lw_g := List.mem_filter.mpr ⟨List.mem_of_getElem? (i := 238) (by decide +kernel), rfl⟩
theorem wc_X6_init : Cond.code yX6_init cX6_init 1 none ∈ lw_g := List.mem_filter.mpr ⟨List.mem_of_getElem? (i := 239) (by decide +kernel), rfl⟩
theorem wm_X6_3 : Cond.methodLink RX6 3 objectInit ∈ lw_g := List.mem_filter.mpr ⟨List.mem_of_getElem? (i := 240) (by decide +kernel), rfl⟩
theorem wq_X6_9 : Cond.classLink RX6 9 "[[I" ∈ lw_g := List.mem_filter.mpr ⟨List.mem_of_getElem? (i := 241) (by decide +kernel), rfl⟩
theorem wf_X6_11 : Cond.fieldLink RX6 11 "HeapMover$Planner" "goods" "[[I" ∈ lw_g := List.mem_filter.mpr ⟨List.mem_of_getElem? (i := 242) (by decide +kernel), rfl⟩
theorem wf_X8_148 : Cond.fieldLink RX8 148 "HeapMover$Planner" "goods" "[[I" ∈ lw_g := List.mem_filter.mpr ⟨List.mem_of_getElem? (i := 243) (by decide +kernel), rfl⟩
theorem wf_X6_16 : Cond.fieldLink RX6 16 "HeapMover$Planner" "heights" "[I" ∈ lw_g := List.mem_filter.mpr ⟨List.mem_of_getElem? (i := 244) (by decide +kernel), rfl⟩
theorem wf_X8_156 : Cond.fieldLink RX8 156 "HeapMover$Planner" "heights" "[I" ∈ lw_g := List.mem_filter.mpr ⟨List.mem_of_getElem? (i := 245) (by decide +kernel), rfl⟩
theorem wf_X6_20 : Cond.fieldLink RX6 20 "HeapMover$Planner" "rowFrom" "[I" ∈ lw_g := List.mem_filter.mpr ⟨List.mem_of_getElem? (i := 246) (by decide +kernel), rfl⟩
theorem wf_X6_23 : Cond.fieldLink RX6 23 "HeapMover$Planner" "columnFrom" "[I" ∈ lw_g := List.mem_filter.mpr ⟨List.mem_of_getElem? (i := 247) (by decide +kernel), rfl⟩
theorem wf_X6_26 : Cond.fieldLink RX6 26 "HeapMover$Planner" "columns" "[I" ∈ lw_g := List.mem_filter.mpr ⟨List.mem_of_getElem? (i := 248) (by decide +kernel), rfl⟩
theorem wq_X8_51 : Cond.classLink RX8 51 RX7 ∈ lw_g := List.mem_filter.mpr ⟨List.mem_of_getElem? (i := 260) (by decide +kernel), rfl⟩
theorem wb_X7 : Cond.instantiable RX7 3 ∈ lw_g := List.mem_filter.mpr ⟨List.mem_of_getElem? (i := 261) (by decide +kernel), rfl⟩
theorem wt_X8_53 : Cond.methodLinkNest RX8 53 yX7_init "HeapMover" ∈ lw_tbl := List.mem_of_getElem? (i := 262) (by decide +kernel)
theorem wi_X7_init : Cond.instanceMethod yX7_init ∈ lw_g := List.mem_filter.mpr ⟨List.mem_of_getElem? (i := 263) (by decide +kernel), rfl⟩
theorem wc_X7_init : Cond.code yX7_init cX7_init 1 none ∈ lw_g := List.mem_filter.mpr ⟨List.mem_of_getElem? (i := 264) (by decide +kernel), rfl⟩
theorem wm_X7_3 : Cond.methodLink RX7 3 objectInit ∈ lw_g := List.mem_filter.mpr ⟨List.mem_of_getElem? (i := 265) (by decide +kernel), rfl⟩
theorem wq_X7_15 : Cond.classLink RX7 15 RX5 ∈ lw_g := List.mem_filter.mpr ⟨List.mem_of_getElem? (i := 266) (by decide +kernel), rfl⟩
theorem wt_X7_17 : Cond.methodLinkNest RX7 17 yX5_init "HeapMover" ∈ lw_tbl := List.mem_of_getElem? (i := 267) (by decide +kernel)
theorem wf_X7_38 : Cond.fieldLink RX7 38 "HeapMover$Reach" "farthest" "I" ∈ lw_g := List.mem_filter.mpr ⟨List.mem_of_getElem? (i := 268) (by decide +kernel), rfl⟩
theorem wf_X8_166 : Cond.fieldLink RX8 166 "HeapMover$Reach" "farthest" "I" ∈ lw_g := List.mem_filter.mpr ⟨List.mem_of_getElem? (i := 269) (by decide +kernel), rfl⟩
theorem wf_X7_9 : Cond.fieldLink RX7 9 "HeapMover$Reach" "stuck" "[I" ∈ lw_g := List.mem_filter.mpr ⟨List.mem_of_getElem? (i := 270) (by decide +kernel), rfl⟩
theorem wf_X8_169 : Cond.fieldLink RX8 169 "HeapMover$Reach" "stuck" "[I" ∈ lw_g := List.mem_filter.mpr ⟨List.mem_of_getElem? (i := 271) (by decide +kernel), rfl⟩
theorem wf_X7_18 : Cond.fieldLink RX7 18 "HeapMover$Reach" "network" "LHeapMover$Network;" ∈ lw_g := List.mem_filter.mpr ⟨List.mem_of_getElem? (i := 272) (by decide +kernel), rfl⟩
theorem wf_X8_12 : Cond.fieldLink RX8 12 "HeapMover" "land" "LHeapMover$Land;" ∈ lw_g := List.mem_filter.mpr ⟨List.mem_of_getElem? (i := 280) (by decide +kernel), rfl⟩
theorem wf_X8_19 : Cond.fieldLink RX8 19 "HeapMover" "heaps" "LHeapMover$Heaps;" ∈ lw_g := List.mem_filter.mpr ⟨List.mem_of_getElem? (i := 281) (by decide +kernel), rfl⟩
theorem wf_X8_26 : Cond.fieldLink RX8 26 "HeapMover" "changes" "LHeapMover$Changes;" ∈ lw_g := List.mem_filter.mpr ⟨List.mem_of_getElem? (i := 282) (by decide +kernel), rfl⟩
theorem wf_X8_33 : Cond.fieldLink RX8 33 "HeapMover" "drafted" "LHeapMover$Draft;" ∈ lw_g := List.mem_filter.mpr ⟨List.mem_of_getElem? (i := 283) (by decide +kernel), rfl⟩
theorem wf_X8_40 : Cond.fieldLink RX8 40 "HeapMover" "mover" "LHeapMover$Mover;" ∈ lw_g := List.mem_filter.mpr ⟨List.mem_of_getElem? (i := 284) (by decide +kernel), rfl⟩
theorem wf_X8_47 : Cond.fieldLink RX8 47 "HeapMover" "planner" "LHeapMover$Planner;" ∈ lw_g := List.mem_filter.mpr ⟨List.mem_of_getElem? (i := 285) (by decide +kernel), rfl⟩
theorem wf_X8_54 : Cond.fieldLink RX8 54 "HeapMover" "reach" "LHeapMover$Reach;" ∈ lw_g := List.mem_filter.mpr ⟨List.mem_of_getElem? (i := 286) (by decide +kernel), rfl⟩
theorem wf_X8_58 : Cond.fieldLink RX8 58 "HeapMover" "plannedFrom" "I" ∈ lw_g := List.mem_filter.mpr ⟨List.mem_of_getElem? (i := 287) (by decide +kernel), rfl⟩
theorem wf_X8_62 : Cond.fieldLink RX8 62 "HeapMover" "plannedTo" "I" ∈ lw_g := List.mem_filter.mpr ⟨List.mem_of_getElem? (i := 288) (by decide +kernel), rfl⟩
theorem wf_X8_65 : Cond.fieldLink RX8 65 "HeapMover" "reachedFrom" "I" ∈ lw_g := List.mem_filter.mpr ⟨List.mem_of_getElem? (i := 289) (by decide +kernel), rfl⟩
theorem wf_X8_68 : Cond.fieldLink RX8 68 "HeapMover" "reachedTo" "I" ∈ lw_g := List.mem_filter.mpr ⟨List.mem_of_getElem? (i := 290) (by decide +kernel), rfl⟩
theorem wf_X8_71 : Cond.fieldLink RX8 71 "HeapMover" "told" "I" ∈ lw_g := List.mem_filter.mpr ⟨List.mem_of_getElem? (i := 291) (by decide +kernel), rfl⟩
theorem wm_L_13 : Cond.methodLink RL 13 yX8_place ∈ lw_g := List.mem_filter.mpr ⟨List.mem_of_getElem? (i := 317) (by decide +kernel), rfl⟩
theorem wi_X8_place : Cond.instanceMethod yX8_place ∈ lw_g := List.mem_filter.mpr ⟨List.mem_of_getElem? (i := 318) (by decide +kernel), rfl⟩
theorem wl_X8_place : Cond.selects RX8 yX8_place yX8_place ∈ lw_g := List.mem_filter.mpr ⟨List.mem_of_getElem? (i := 319) (by decide +kernel), rfl⟩
theorem wc_X8_place : Cond.code yX8_place cX8_place 2 (some .int) ∈ lw_g := List.mem_filter.mpr ⟨List.mem_of_getElem? (i := 320) (by decide +kernel), rfl⟩
theorem wm_X8_77 : Cond.methodLink RX8 77 yX3_addPlace ∈ lw_g := List.mem_filter.mpr ⟨List.mem_of_getElem? (i := 321) (by decide +kernel), rfl⟩
theorem wi_X3_addPlace : Cond.instanceMethod yX3_addPlace ∈ lw_g := List.mem_filter.mpr ⟨List.mem_of_getElem? (i := 322) (by decide +kernel), rfl⟩
theorem wl_X3_addPlace : Cond.selects RX3 yX3_addPlace yX3_addPlace ∈ lw_g := List.mem_filter.mpr ⟨List.mem_of_getElem? (i := 323) (by decide +kernel), rfl⟩
theorem wc_X3_addPlace : Cond.code yX3_addPlace cX3_addPlace 2 (some .int) ∈ lw_g := List.mem_filter.mpr ⟨List.mem_of_getElem? (i := 324) (by decide +kernel), rfl⟩
theorem wm_X3_36 : Cond.methodLink RX3 36 yX3_measure ∈ lw_g := List.mem_filter.mpr ⟨List.mem_of_getElem? (i := 325) (by decide +kernel), rfl⟩
theorem wi_X3_measure : Cond.instanceMethod yX3_measure ∈ lw_g := List.mem_filter.mpr ⟨List.mem_of_getElem? (i := 327) (by decide +kernel), rfl⟩
theorem wc_X3_measure : Cond.code yX3_measure cX3_measure 3 none ∈ lw_g := List.mem_filter.mpr ⟨List.mem_of_getElem? (i := 328) (by decide +kernel), rfl⟩
theorem wm_X3_43 : Cond.methodLink RX3 43 yX3_measureRoads ∈ lw_g := List.mem_filter.mpr ⟨List.mem_of_getElem? (i := 329) (by decide +kernel), rfl⟩
theorem wi_X3_measureRoads : Cond.instanceMethod yX3_measureRoads ∈ lw_g := List.mem_filter.mpr ⟨List.mem_of_getElem? (i := 331) (by decide +kernel), rfl⟩
theorem wc_X3_measureRoads : Cond.code yX3_measureRoads cX3_measureRoads 5 none ∈ lw_g := List.mem_filter.mpr ⟨List.mem_of_getElem? (i := 332) (by decide +kernel), rfl⟩
theorem wk_X3_42 : Cond.constant RX3 42 (1000000) ∈ lw_g := List.mem_filter.mpr ⟨List.mem_of_getElem? (i := 333) (by decide +kernel), rfl⟩
theorem wm_X3_56 : Cond.methodLink RX3 56 yJ7_fill_53178 ∈ lw_g := List.mem_filter.mpr ⟨List.mem_of_getElem? (i := 334) (by decide +kernel), rfl⟩
theorem wa_J7_fill_53178 : Cond.static yJ7_fill_53178 ∈ lw_g := List.mem_filter.mpr ⟨List.mem_of_getElem? (i := 335) (by decide +kernel), rfl⟩
theorem wc_J7_fill_53178 : Cond.code yJ7_fill_53178 cJ7_fill_53178 4 none ∈ lw_g := List.mem_filter.mpr ⟨List.mem_of_getElem? (i := 336) (by decide +kernel), rfl⟩
theorem wm_X3_62 : Cond.methodLink RX3 62 Lib.Math.min.name ∈ lw_g := List.mem_filter.mpr ⟨List.mem_of_getElem? (i := 337) (by decide +kernel), rfl⟩
theorem wa_min : Cond.static Lib.Math.min.name ∈ lw_g := List.mem_filter.mpr ⟨List.mem_of_getElem? (i := 338) (by decide +kernel), rfl⟩
theorem wc_min : Cond.code Lib.Math.min.name Lib.Math.min.code 2 (some .int) ∈ lw_g := List.mem_filter.mpr ⟨List.mem_of_getElem? (i := 339) (by decide +kernel), rfl⟩
theorem wm_X3_46 : Cond.methodLink RX3 46 arraycopyName ∈ lw_g := List.mem_filter.mpr ⟨List.mem_of_getElem? (i := 340) (by decide +kernel), rfl⟩
theorem wa_acopy : Cond.static arraycopyName ∈ lw_g := List.mem_filter.mpr ⟨List.mem_of_getElem? (i := 341) (by decide +kernel), rfl⟩
theorem wv_acopy : Cond.native arraycopyName ∈ lw_g := List.mem_filter.mpr ⟨List.mem_of_getElem? (i := 342) (by decide +kernel), rfl⟩
theorem wm_X3_52 : Cond.methodLink RX3 52 yX3_shortenBy ∈ lw_g := List.mem_filter.mpr ⟨List.mem_of_getElem? (i := 343) (by decide +kernel), rfl⟩
theorem wi_X3_shortenBy : Cond.instanceMethod yX3_shortenBy ∈ lw_g := List.mem_filter.mpr ⟨List.mem_of_getElem? (i := 345) (by decide +kernel), rfl⟩
theorem wc_X3_shortenBy : Cond.code yX3_shortenBy cX3_shortenBy 6 none ∈ lw_g := List.mem_filter.mpr ⟨List.mem_of_getElem? (i := 346) (by decide +kernel), rfl⟩
theorem wm_X8_81 : Cond.methodLink RX8 81 yX8_noteChange ∈ lw_g := List.mem_filter.mpr ⟨List.mem_of_getElem? (i := 347) (by decide +kernel), rfl⟩
theorem wi_X8_noteChange : Cond.instanceMethod yX8_noteChange ∈ lw_g := List.mem_filter.mpr ⟨List.mem_of_getElem? (i := 349) (by decide +kernel), rfl⟩
theorem wc_X8_noteChange : Cond.code yX8_noteChange cX8_noteChange 5 none ∈ lw_g := List.mem_filter.mpr ⟨List.mem_of_getElem? (i := 350) (by decide +kernel), rfl⟩
theorem wm_X8_219 : Cond.methodLink RX8 219 yX0_keep ∈ lw_g := List.mem_filter.mpr ⟨List.mem_of_getElem? (i := 351) (by decide +kernel), rfl⟩
theorem wi_X0_keep : Cond.instanceMethod yX0_keep ∈ lw_g := List.mem_filter.mpr ⟨List.mem_of_getElem? (i := 352) (by decide +kernel), rfl⟩
theorem wl_X0_keep : Cond.selects RX0 yX0_keep yX0_keep ∈ lw_g := List.mem_filter.mpr ⟨List.mem_of_getElem? (i := 353) (by decide +kernel), rfl⟩
theorem wc_X0_keep : Cond.code yX0_keep cX0_keep 6 none ∈ lw_g := List.mem_filter.mpr ⟨List.mem_of_getElem? (i := 354) (by decide +kernel), rfl⟩
theorem wm_X8_119 : Cond.methodLink RX8 119 yX8_forgetResults ∈ lw_g := List.mem_filter.mpr ⟨List.mem_of_getElem? (i := 355) (by decide +kernel), rfl⟩
theorem wi_X8_forgetResults : Cond.instanceMethod yX8_forgetResults ∈ lw_g := List.mem_filter.mpr ⟨List.mem_of_getElem? (i := 357) (by decide +kernel), rfl⟩
theorem wc_X8_forgetResults : Cond.code yX8_forgetResults cX8_forgetResults 1 none ∈ lw_g := List.mem_filter.mpr ⟨List.mem_of_getElem? (i := 358) (by decide +kernel), rfl⟩
theorem wm_L_18 : Cond.methodLink RL 18 yX8_road ∈ lw_g := List.mem_filter.mpr ⟨List.mem_of_getElem? (i := 359) (by decide +kernel), rfl⟩
theorem wi_X8_road : Cond.instanceMethod yX8_road ∈ lw_g := List.mem_filter.mpr ⟨List.mem_of_getElem? (i := 360) (by decide +kernel), rfl⟩
theorem wl_X8_road : Cond.selects RX8 yX8_road yX8_road ∈ lw_g := List.mem_filter.mpr ⟨List.mem_of_getElem? (i := 361) (by decide +kernel), rfl⟩
theorem wc_X8_road : Cond.code yX8_road cX8_road 5 (some .int) ∈ lw_g := List.mem_filter.mpr ⟨List.mem_of_getElem? (i := 362) (by decide +kernel), rfl⟩
theorem wm_X8_85 : Cond.methodLink RX8 85 yX3_has ∈ lw_g := List.mem_filter.mpr ⟨List.mem_of_getElem? (i := 363) (by decide +kernel), rfl⟩
theorem wi_X3_has : Cond.instanceMethod yX3_has ∈ lw_g := List.mem_filter.mpr ⟨List.mem_of_getElem? (i := 364) (by decide +kernel), rfl⟩
theorem wl_X3_has : Cond.selects RX3 yX3_has yX3_has ∈ lw_g := List.mem_filter.mpr ⟨List.mem_of_getElem? (i := 365) (by decide +kernel), rfl⟩
theorem wc_X3_has : Cond.code yX3_has cX3_has 2 (some .boolean) ∈ lw_g := List.mem_filter.mpr ⟨List.mem_of_getElem? (i := 366) (by decide +kernel), rfl⟩
theorem wm_X8_92 : Cond.methodLink RX8 92 yX3_addRoad ∈ lw_g := List.mem_filter.mpr ⟨List.mem_of_getElem? (i := 367) (by decide +kernel), rfl⟩
theorem wi_X3_addRoad : Cond.instanceMethod yX3_addRoad ∈ lw_g := List.mem_filter.mpr ⟨List.mem_of_getElem? (i := 368) (by decide +kernel), rfl⟩
theorem wl_X3_addRoad : Cond.selects RX3 yX3_addRoad yX3_addRoad ∈ lw_g := List.mem_filter.mpr ⟨List.mem_of_getElem? (i := 369) (by decide +kernel), rfl⟩
theorem wc_X3_addRoad : Cond.code yX3_addRoad cX3_addRoad 5 (some .int) ∈ lw_g := List.mem_filter.mpr ⟨List.mem_of_getElem? (i := 370) (by decide +kernel), rfl⟩
theorem wm_L_23 : Cond.methodLink RL 23 yX8_heap ∈ lw_g := List.mem_filter.mpr ⟨List.mem_of_getElem? (i := 371) (by decide +kernel), rfl⟩
theorem wi_X8_heap : Cond.instanceMethod yX8_heap ∈ lw_g := List.mem_filter.mpr ⟨List.mem_of_getElem? (i := 372) (by decide +kernel), rfl⟩
theorem wl_X8_heap : Cond.selects RX8 yX8_heap yX8_heap ∈ lw_g := List.mem_filter.mpr ⟨List.mem_of_getElem? (i := 373) (by decide +kernel), rfl⟩
theorem wc_X8_heap : Cond.code yX8_heap cX8_heap 2 (some .int) ∈ lw_g := List.mem_filter.mpr ⟨List.mem_of_getElem? (i := 374) (by decide +kernel), rfl⟩
theorem wm_L_27 : Cond.methodLink RL 27 yX8_set ∈ lw_g := List.mem_filter.mpr ⟨List.mem_of_getElem? (i := 375) (by decide +kernel), rfl⟩
theorem wi_X8_set : Cond.instanceMethod yX8_set ∈ lw_g := List.mem_filter.mpr ⟨List.mem_of_getElem? (i := 376) (by decide +kernel), rfl⟩
theorem wl_X8_set : Cond.selects RX8 yX8_set yX8_set ∈ lw_g := List.mem_filter.mpr ⟨List.mem_of_getElem? (i := 377) (by decide +kernel), rfl⟩
theorem wc_X8_set : Cond.code yX8_set cX8_set 5 (some .int) ∈ lw_g := List.mem_filter.mpr ⟨List.mem_of_getElem? (i := 378) (by decide +kernel), rfl⟩
theorem wm_X8_99 : Cond.methodLink RX8 99 yX2_has ∈ lw_g := List.mem_filter.mpr ⟨List.mem_of_getElem? (i := 379) (by decide +kernel), rfl⟩
theorem wi_X2_has : Cond.instanceMethod yX2_has ∈ lw_g := List.mem_filter.mpr ⟨List.mem_of_getElem? (i := 380) (by decide +kernel), rfl⟩
theorem wl_X2_has : Cond.selects RX2 yX2_has yX2_has ∈ lw_g := List.mem_filter.mpr ⟨List.mem_of_getElem? (i := 381) (by decide +kernel), rfl⟩
theorem wc_X2_has : Cond.code yX2_has cX2_has 2 (some .boolean) ∈ lw_g := List.mem_filter.mpr ⟨List.mem_of_getElem? (i := 382) (by decide +kernel), rfl⟩
theorem wm_L_31 : Cond.methodLink RL 31 yX8_gate ∈ lw_g := List.mem_filter.mpr ⟨List.mem_of_getElem? (i := 383) (by decide +kernel), rfl⟩
theorem wi_X8_gate : Cond.instanceMethod yX8_gate ∈ lw_g := List.mem_filter.mpr ⟨List.mem_of_getElem? (i := 384) (by decide +kernel), rfl⟩
theorem wl_X8_gate : Cond.selects RX8 yX8_gate yX8_gate ∈ lw_g := List.mem_filter.mpr ⟨List.mem_of_getElem? (i := 385) (by decide +kernel), rfl⟩
theorem wc_X8_gate : Cond.code yX8_gate cX8_gate 4 (some .int) ∈ lw_g := List.mem_filter.mpr ⟨List.mem_of_getElem? (i := 386) (by decide +kernel), rfl⟩
theorem wk_X8_104 : Cond.constant RX8 104 (100000) ∈ lw_g := List.mem_filter.mpr ⟨List.mem_of_getElem? (i := 387) (by decide +kernel), rfl⟩
theorem wm_L_36 : Cond.methodLink RL 36 yX8_undo ∈ lw_g := List.mem_filter.mpr ⟨List.mem_of_getElem? (i := 388) (by decide +kernel), rfl⟩
theorem wi_X8_undo : Cond.instanceMethod yX8_undo ∈ lw_g := List.mem_filter.mpr ⟨List.mem_of_getElem? (i := 389) (by decide +kernel), rfl⟩
theorem wl_X8_undo : Cond.selects RX8 yX8_undo yX8_undo ∈ lw_g := List.mem_filter.mpr ⟨List.mem_of_getElem? (i := 390) (by decide +kernel), rfl⟩
theorem wc_X8_undo : Cond.code yX8_undo cX8_undo 1 (some .int) ∈ lw_g := List.mem_filter.mpr ⟨List.mem_of_getElem? (i := 391) (by decide +kernel), rfl⟩
theorem wm_X8_112 : Cond.methodLink RX8 112 yX0_dropLatest ∈ lw_g := List.mem_filter.mpr ⟨List.mem_of_getElem? (i := 392) (by decide +kernel), rfl⟩
theorem wi_X0_dropLatest : Cond.instanceMethod yX0_dropLatest ∈ lw_g := List.mem_filter.mpr ⟨List.mem_of_getElem? (i := 393) (by decide +kernel), rfl⟩
theorem wl_X0_dropLatest : Cond.selects RX0 yX0_dropLatest yX0_dropLatest ∈ lw_g := List.mem_filter.mpr ⟨List.mem_of_getElem? (i := 394) (by decide +kernel), rfl⟩
theorem wc_X0_dropLatest : Cond.code yX0_dropLatest cX0_dropLatest 1 (some .int) ∈ lw_g := List.mem_filter.mpr ⟨List.mem_of_getElem? (i := 395) (by decide +kernel), rfl⟩
theorem wm_X8_115 : Cond.methodLink RX8 115 yX8_takeBack ∈ lw_g := List.mem_filter.mpr ⟨List.mem_of_getElem? (i := 396) (by decide +kernel), rfl⟩
theorem wi_X8_takeBack : Cond.instanceMethod yX8_takeBack ∈ lw_g := List.mem_filter.mpr ⟨List.mem_of_getElem? (i := 398) (by decide +kernel), rfl⟩
theorem wc_X8_takeBack : Cond.code yX8_takeBack cX8_takeBack 4 none ∈ lw_g := List.mem_filter.mpr ⟨List.mem_of_getElem? (i := 399) (by decide +kernel), rfl⟩
theorem wm_X8_231 : Cond.methodLink RX8 231 yX3_dropPlace ∈ lw_g := List.mem_filter.mpr ⟨List.mem_of_getElem? (i := 400) (by decide +kernel), rfl⟩
theorem wi_X3_dropPlace : Cond.instanceMethod yX3_dropPlace ∈ lw_g := List.mem_filter.mpr ⟨List.mem_of_getElem? (i := 401) (by decide +kernel), rfl⟩
theorem wl_X3_dropPlace : Cond.selects RX3 yX3_dropPlace yX3_dropPlace ∈ lw_g := List.mem_filter.mpr ⟨List.mem_of_getElem? (i := 402) (by decide +kernel), rfl⟩
theorem wc_X3_dropPlace : Cond.code yX3_dropPlace cX3_dropPlace 1 none ∈ lw_g := List.mem_filter.mpr ⟨List.mem_of_getElem? (i := 403) (by decide +kernel), rfl⟩
theorem wm_X8_234 : Cond.methodLink RX8 234 yX1_wipePlace ∈ lw_g := List.mem_filter.mpr ⟨List.mem_of_getElem? (i := 404) (by decide +kernel), rfl⟩
theorem wi_X1_wipePlace : Cond.instanceMethod yX1_wipePlace ∈ lw_g := List.mem_filter.mpr ⟨List.mem_of_getElem? (i := 405) (by decide +kernel), rfl⟩
theorem wl_X1_wipePlace : Cond.selects RX1 yX1_wipePlace yX1_wipePlace ∈ lw_g := List.mem_filter.mpr ⟨List.mem_of_getElem? (i := 406) (by decide +kernel), rfl⟩
theorem wc_X1_wipePlace : Cond.code yX1_wipePlace cX1_wipePlace 3 none ∈ lw_g := List.mem_filter.mpr ⟨List.mem_of_getElem? (i := 407) (by decide +kernel), rfl⟩
theorem wm_X8_237 : Cond.methodLink RX8 237 yX3_dropRoad ∈ lw_g := List.mem_filter.mpr ⟨List.mem_of_getElem? (i := 408) (by decide +kernel), rfl⟩
theorem wi_X3_dropRoad : Cond.instanceMethod yX3_dropRoad ∈ lw_g := List.mem_filter.mpr ⟨List.mem_of_getElem? (i := 409) (by decide +kernel), rfl⟩
theorem wl_X3_dropRoad : Cond.selects RX3 yX3_dropRoad yX3_dropRoad ∈ lw_g := List.mem_filter.mpr ⟨List.mem_of_getElem? (i := 410) (by decide +kernel), rfl⟩
theorem wc_X3_dropRoad : Cond.code yX3_dropRoad cX3_dropRoad 1 none ∈ lw_g := List.mem_filter.mpr ⟨List.mem_of_getElem? (i := 411) (by decide +kernel), rfl⟩
theorem wm_L_40 : Cond.methodLink RL 40 yX8_apart ∈ lw_g := List.mem_filter.mpr ⟨List.mem_of_getElem? (i := 412) (by decide +kernel), rfl⟩
theorem wi_X8_apart : Cond.instanceMethod yX8_apart ∈ lw_g := List.mem_filter.mpr ⟨List.mem_of_getElem? (i := 413) (by decide +kernel), rfl⟩
theorem wl_X8_apart : Cond.selects RX8 yX8_apart yX8_apart ∈ lw_g := List.mem_filter.mpr ⟨List.mem_of_getElem? (i := 414) (by decide +kernel), rfl⟩
theorem wc_X8_apart : Cond.code yX8_apart cX8_apart 4 (some .int) ∈ lw_g := List.mem_filter.mpr ⟨List.mem_of_getElem? (i := 415) (by decide +kernel), rfl⟩
theorem wk_X8_125 : Cond.constant RX8 125 (1000000) ∈ lw_g := List.mem_filter.mpr ⟨List.mem_of_getElem? (i := 416) (by decide +kernel), rfl⟩
theorem wm_L_44 : Cond.methodLink RL 44 yX8_next ∈ lw_g := List.mem_filter.mpr ⟨List.mem_of_getElem? (i := 417) (by decide +kernel), rfl⟩
theorem wi_X8_next : Cond.instanceMethod yX8_next ∈ lw_g := List.mem_filter.mpr ⟨List.mem_of_getElem? (i := 418) (by decide +kernel), rfl⟩
theorem wl_X8_next : Cond.selects RX8 yX8_next yX8_next ∈ lw_g := List.mem_filter.mpr ⟨List.mem_of_getElem? (i := 419) (by decide +kernel), rfl⟩
theorem wc_X8_next : Cond.code yX8_next cX8_next 3 (some .int) ∈ lw_g := List.mem_filter.mpr ⟨List.mem_of_getElem? (i := 420) (by decide +kernel), rfl⟩
theorem wm_X8_126 : Cond.methodLink RX8 126 yX3_placeBehind ∈ lw_g := List.mem_filter.mpr ⟨List.mem_of_getElem? (i := 421) (by decide +kernel), rfl⟩
theorem wi_X3_placeBehind : Cond.instanceMethod yX3_placeBehind ∈ lw_g := List.mem_filter.mpr ⟨List.mem_of_getElem? (i := 422) (by decide +kernel), rfl⟩
theorem wl_X3_placeBehind : Cond.selects RX3 yX3_placeBehind yX3_placeBehind ∈ lw_g := List.mem_filter.mpr ⟨List.mem_of_getElem? (i := 423) (by decide +kernel), rfl⟩
theorem wc_X3_placeBehind : Cond.code yX3_placeBehind cX3_placeBehind 4 (some .int) ∈ lw_g := List.mem_filter.mpr ⟨List.mem_of_getElem? (i := 424) (by decide +kernel), rfl⟩
theorem wm_L_48 : Cond.methodLink RL 48 yX8_amount ∈ lw_g := List.mem_filter.mpr ⟨List.mem_of_getElem? (i := 425) (by decide +kernel), rfl⟩
theorem wi_X8_amount : Cond.instanceMethod yX8_amount ∈ lw_g := List.mem_filter.mpr ⟨List.mem_of_getElem? (i := 426) (by decide +kernel), rfl⟩
theorem wl_X8_amount : Cond.selects RX8 yX8_amount yX8_amount ∈ lw_g := List.mem_filter.mpr ⟨List.mem_of_getElem? (i := 427) (by decide +kernel), rfl⟩
theorem wc_X8_amount : Cond.code yX8_amount cX8_amount 3 (some .int) ∈ lw_g := List.mem_filter.mpr ⟨List.mem_of_getElem? (i := 428) (by decide +kernel), rfl⟩
theorem wm_L_52 : Cond.methodLink RL 52 yX8_sum ∈ lw_g := List.mem_filter.mpr ⟨List.mem_of_getElem? (i := 429) (by decide +kernel), rfl⟩
theorem wi_X8_sum : Cond.instanceMethod yX8_sum ∈ lw_g := List.mem_filter.mpr ⟨List.mem_of_getElem? (i := 430) (by decide +kernel), rfl⟩
theorem wl_X8_sum : Cond.selects RX8 yX8_sum yX8_sum ∈ lw_g := List.mem_filter.mpr ⟨List.mem_of_getElem? (i := 431) (by decide +kernel), rfl⟩
theorem wc_X8_sum : Cond.code yX8_sum cX8_sum 2 (some .int) ∈ lw_g := List.mem_filter.mpr ⟨List.mem_of_getElem? (i := 432) (by decide +kernel), rfl⟩
theorem wm_X8_130 : Cond.methodLink RX8 130 yX2_total ∈ lw_g := List.mem_filter.mpr ⟨List.mem_of_getElem? (i := 433) (by decide +kernel), rfl⟩
theorem wi_X2_total : Cond.instanceMethod yX2_total ∈ lw_g := List.mem_filter.mpr ⟨List.mem_of_getElem? (i := 434) (by decide +kernel), rfl⟩
theorem wl_X2_total : Cond.selects RX2 yX2_total yX2_total ∈ lw_g := List.mem_filter.mpr ⟨List.mem_of_getElem? (i := 435) (by decide +kernel), rfl⟩
theorem wc_X2_total : Cond.code yX2_total cX2_total 4 (some .int) ∈ lw_g := List.mem_filter.mpr ⟨List.mem_of_getElem? (i := 436) (by decide +kernel), rfl⟩
theorem wm_L_57 : Cond.methodLink RL 57 yX8_least ∈ lw_g := List.mem_filter.mpr ⟨List.mem_of_getElem? (i := 437) (by decide +kernel), rfl⟩
theorem wi_X8_least : Cond.instanceMethod yX8_least ∈ lw_g := List.mem_filter.mpr ⟨List.mem_of_getElem? (i := 438) (by decide +kernel), rfl⟩
theorem wl_X8_least : Cond.selects RX8 yX8_least yX8_least ∈ lw_g := List.mem_filter.mpr ⟨List.mem_of_getElem? (i := 439) (by decide +kernel), rfl⟩
theorem wc_X8_least : Cond.code yX8_least cX8_least 4 (some .int) ∈ lw_g := List.mem_filter.mpr ⟨List.mem_of_getElem? (i := 440) (by decide +kernel), rfl⟩
theorem wm_X8_134 : Cond.methodLink RX8 134 yX8_refusalOfMoving ∈ lw_g := List.mem_filter.mpr ⟨List.mem_of_getElem? (i := 441) (by decide +kernel), rfl⟩
theorem wi_X8_refusalOfMoving : Cond.instanceMethod yX8_refusalOfMoving ∈ lw_g := List.mem_filter.mpr ⟨List.mem_of_getElem? (i := 443) (by decide +kernel), rfl⟩
theorem wc_X8_refusalOfMoving : Cond.code yX8_refusalOfMoving cX8_refusalOfMoving 3 (some .int) ∈ lw_g := List.mem_filter.mpr ⟨List.mem_of_getElem? (i := 444) (by decide +kernel), rfl⟩
theorem wm_X8_177 : Cond.methodLink RX8 177 yX3_isJoined ∈ lw_g := List.mem_filter.mpr ⟨List.mem_of_getElem? (i := 445) (by decide +kernel), rfl⟩
theorem wi_X3_isJoined : Cond.instanceMethod yX3_isJoined ∈ lw_g := List.mem_filter.mpr ⟨List.mem_of_getElem? (i := 446) (by decide +kernel), rfl⟩
theorem wl_X3_isJoined : Cond.selects RX3 yX3_isJoined yX3_isJoined ∈ lw_g := List.mem_filter.mpr ⟨List.mem_of_getElem? (i := 447) (by decide +kernel), rfl⟩
theorem wc_X3_isJoined : Cond.code yX3_isJoined cX3_isJoined 2 (some .boolean) ∈ lw_g := List.mem_filter.mpr ⟨List.mem_of_getElem? (i := 448) (by decide +kernel), rfl⟩
theorem wm_X8_137 : Cond.methodLink RX8 137 yX8_leastCost ∈ lw_g := List.mem_filter.mpr ⟨List.mem_of_getElem? (i := 449) (by decide +kernel), rfl⟩
theorem wi_X8_leastCost : Cond.instanceMethod yX8_leastCost ∈ lw_g := List.mem_filter.mpr ⟨List.mem_of_getElem? (i := 451) (by decide +kernel), rfl⟩
theorem wc_X8_leastCost : Cond.code yX8_leastCost cX8_leastCost 3 (some .int) ∈ lw_g := List.mem_filter.mpr ⟨List.mem_of_getElem? (i := 452) (by decide +kernel), rfl⟩
theorem wm_X8_181 : Cond.methodLink RX8 181 yX4_cheapest ∈ lw_g := List.mem_filter.mpr ⟨List.mem_of_getElem? (i := 453) (by decide +kernel), rfl⟩
theorem wi_X4_cheapest : Cond.instanceMethod yX4_cheapest ∈ lw_g := List.mem_filter.mpr ⟨List.mem_of_getElem? (i := 454) (by decide +kernel), rfl⟩
theorem wl_X4_cheapest : Cond.selects RX4 yX4_cheapest yX4_cheapest ∈ lw_g := List.mem_filter.mpr ⟨List.mem_of_getElem? (i := 455) (by decide +kernel), rfl⟩
theorem wc_X4_cheapest : Cond.code yX4_cheapest cX4_cheapest 7 (some .int) ∈ lw_g := List.mem_filter.mpr ⟨List.mem_of_getElem? (i := 456) (by decide +kernel), rfl⟩
theorem wm_X4_18 : Cond.methodLink RX4 18 yX5_empty ∈ lw_g := List.mem_filter.mpr ⟨List.mem_of_getElem? (i := 457) (by decide +kernel), rfl⟩
theorem wi_X5_empty : Cond.instanceMethod yX5_empty ∈ lw_g := List.mem_filter.mpr ⟨List.mem_of_getElem? (i := 458) (by decide +kernel), rfl⟩
theorem wl_X5_empty : Cond.selects RX5 yX5_empty yX5_empty ∈ lw_g := List.mem_filter.mpr ⟨List.mem_of_getElem? (i := 459) (by decide +kernel), rfl⟩
theorem wc_X5_empty : Cond.code yX5_empty cX5_empty 1 none ∈ lw_g := List.mem_filter.mpr ⟨List.mem_of_getElem? (i := 460) (by decide +kernel), rfl⟩
theorem wm_X4_27 : Cond.methodLink RX4 27 yX4_joinSource ∈ lw_g := List.mem_filter.mpr ⟨List.mem_of_getElem? (i := 461) (by decide +kernel), rfl⟩
theorem wi_X4_joinSource : Cond.instanceMethod yX4_joinSource ∈ lw_g := List.mem_filter.mpr ⟨List.mem_of_getElem? (i := 463) (by decide +kernel), rfl⟩
theorem wc_X4_joinSource : Cond.code yX4_joinSource cX4_joinSource 6 (some .int) ∈ lw_g := List.mem_filter.mpr ⟨List.mem_of_getElem? (i := 464) (by decide +kernel), rfl⟩
theorem wm_X4_36 : Cond.methodLink RX4 36 yX5_join ∈ lw_g := List.mem_filter.mpr ⟨List.mem_of_getElem? (i := 465) (by decide +kernel), rfl⟩
theorem wi_X5_join : Cond.instanceMethod yX5_join ∈ lw_g := List.mem_filter.mpr ⟨List.mem_of_getElem? (i := 466) (by decide +kernel), rfl⟩
theorem wl_X5_join : Cond.selects RX5 yX5_join yX5_join ∈ lw_g := List.mem_filter.mpr ⟨List.mem_of_getElem? (i := 467) (by decide +kernel), rfl⟩
theorem wc_X5_join : Cond.code yX5_join cX5_join 5 none ∈ lw_g := List.mem_filter.mpr ⟨List.mem_of_getElem? (i := 468) (by decide +kernel), rfl⟩
theorem wm_X5_40 : Cond.methodLink RX5 40 yX5_addArc ∈ lw_g := List.mem_filter.mpr ⟨List.mem_of_getElem? (i := 469) (by decide +kernel), rfl⟩
theorem wi_X5_addArc : Cond.instanceMethod yX5_addArc ∈ lw_g := List.mem_filter.mpr ⟨List.mem_of_getElem? (i := 471) (by decide +kernel), rfl⟩
theorem wc_X5_addArc : Cond.code yX5_addArc cX5_addArc 5 none ∈ lw_g := List.mem_filter.mpr ⟨List.mem_of_getElem? (i := 472) (by decide +kernel), rfl⟩
theorem wk_X4_31 : Cond.constant RX4 31 (1000000) ∈ lw_g := List.mem_filter.mpr ⟨List.mem_of_getElem? (i := 473) (by decide +kernel), rfl⟩
theorem wm_X4_40 : Cond.methodLink RX4 40 yX4_joinSink ∈ lw_g := List.mem_filter.mpr ⟨List.mem_of_getElem? (i := 474) (by decide +kernel), rfl⟩
theorem wi_X4_joinSink : Cond.instanceMethod yX4_joinSink ∈ lw_g := List.mem_filter.mpr ⟨List.mem_of_getElem? (i := 476) (by decide +kernel), rfl⟩
theorem wc_X4_joinSink : Cond.code yX4_joinSink cX4_joinSink 5 none ∈ lw_g := List.mem_filter.mpr ⟨List.mem_of_getElem? (i := 477) (by decide +kernel), rfl⟩
theorem wm_X4_44 : Cond.methodLink RX4 44 yX4_staying ∈ lw_g := List.mem_filter.mpr ⟨List.mem_of_getElem? (i := 478) (by decide +kernel), rfl⟩
theorem wa_X4_staying : Cond.static yX4_staying ∈ lw_g := List.mem_filter.mpr ⟨List.mem_of_getElem? (i := 479) (by decide +kernel), rfl⟩
theorem wc_X4_staying : Cond.code yX4_staying cX4_staying 5 (some .int) ∈ lw_g := List.mem_filter.mpr ⟨List.mem_of_getElem? (i := 480) (by decide +kernel), rfl⟩
theorem wm_X4_64 : Cond.methodLink RX4 64 Lib.Math.min.name ∈ lw_g := List.mem_filter.mpr ⟨List.mem_of_getElem? (i := 481) (by decide +kernel), rfl⟩
theorem wm_X4_47 : Cond.methodLink RX4 47 yX5_push ∈ lw_g := List.mem_filter.mpr ⟨List.mem_of_getElem? (i := 482) (by decide +kernel), rfl⟩
theorem wi_X5_push : Cond.instanceMethod yX5_push ∈ lw_g := List.mem_filter.mpr ⟨List.mem_of_getElem? (i := 483) (by decide +kernel), rfl⟩
theorem wl_X5_push : Cond.selects RX5 yX5_push yX5_push ∈ lw_g := List.mem_filter.mpr ⟨List.mem_of_getElem? (i := 484) (by decide +kernel), rfl⟩
theorem wc_X5_push : Cond.code yX5_push cX5_push 3 none ∈ lw_g := List.mem_filter.mpr ⟨List.mem_of_getElem? (i := 485) (by decide +kernel), rfl⟩
theorem wm_X5_44 : Cond.methodLink RX5 44 yX5_search ∈ lw_g := List.mem_filter.mpr ⟨List.mem_of_getElem? (i := 486) (by decide +kernel), rfl⟩
theorem wi_X5_search : Cond.instanceMethod yX5_search ∈ lw_g := List.mem_filter.mpr ⟨List.mem_of_getElem? (i := 488) (by decide +kernel), rfl⟩
theorem wc_X5_search : Cond.code yX5_search cX5_search 2 (some .boolean) ∈ lw_g := List.mem_filter.mpr ⟨List.mem_of_getElem? (i := 489) (by decide +kernel), rfl⟩
theorem wk_X5_52 : Cond.constant RX5 52 (1000000) ∈ lw_g := List.mem_filter.mpr ⟨List.mem_of_getElem? (i := 490) (by decide +kernel), rfl⟩
theorem wm_X5_53 : Cond.methodLink RX5 53 yJ7_fill_53178 ∈ lw_g := List.mem_filter.mpr ⟨List.mem_of_getElem? (i := 491) (by decide +kernel), rfl⟩
theorem wm_X5_59 : Cond.methodLink RX5 59 yX5_relax ∈ lw_g := List.mem_filter.mpr ⟨List.mem_of_getElem? (i := 492) (by decide +kernel), rfl⟩
theorem wi_X5_relax : Cond.instanceMethod yX5_relax ∈ lw_g := List.mem_filter.mpr ⟨List.mem_of_getElem? (i := 494) (by decide +kernel), rfl⟩
theorem wc_X5_relax : Cond.code yX5_relax cX5_relax 4 (some .boolean) ∈ lw_g := List.mem_filter.mpr ⟨List.mem_of_getElem? (i := 495) (by decide +kernel), rfl⟩
theorem wm_X5_62 : Cond.methodLink RX5 62 yX5_isReached ∈ lw_g := List.mem_filter.mpr ⟨List.mem_of_getElem? (i := 496) (by decide +kernel), rfl⟩
theorem wi_X5_isReached : Cond.instanceMethod yX5_isReached ∈ lw_g := List.mem_filter.mpr ⟨List.mem_of_getElem? (i := 497) (by decide +kernel), rfl⟩
theorem wl_X5_isReached : Cond.selects RX5 yX5_isReached yX5_isReached ∈ lw_g := List.mem_filter.mpr ⟨List.mem_of_getElem? (i := 498) (by decide +kernel), rfl⟩
theorem wc_X5_isReached : Cond.code yX5_isReached cX5_isReached 2 (some .boolean) ∈ lw_g := List.mem_filter.mpr ⟨List.mem_of_getElem? (i := 499) (by decide +kernel), rfl⟩
theorem wm_X5_48 : Cond.methodLink RX5 48 yX5_carry ∈ lw_g := List.mem_filter.mpr ⟨List.mem_of_getElem? (i := 500) (by decide +kernel), rfl⟩
theorem wi_X5_carry : Cond.instanceMethod yX5_carry ∈ lw_g := List.mem_filter.mpr ⟨List.mem_of_getElem? (i := 502) (by decide +kernel), rfl⟩
theorem wc_X5_carry : Cond.code yX5_carry cX5_carry 5 none ∈ lw_g := List.mem_filter.mpr ⟨List.mem_of_getElem? (i := 503) (by decide +kernel), rfl⟩
theorem wm_X5_66 : Cond.methodLink RX5 66 Lib.Math.min.name ∈ lw_g := List.mem_filter.mpr ⟨List.mem_of_getElem? (i := 504) (by decide +kernel), rfl⟩
theorem wm_L_61 : Cond.methodLink RL 61 yX8_plan ∈ lw_g := List.mem_filter.mpr ⟨List.mem_of_getElem? (i := 505) (by decide +kernel), rfl⟩
theorem wi_X8_plan : Cond.instanceMethod yX8_plan ∈ lw_g := List.mem_filter.mpr ⟨List.mem_of_getElem? (i := 506) (by decide +kernel), rfl⟩
theorem wl_X8_plan : Cond.selects RX8 yX8_plan yX8_plan ∈ lw_g := List.mem_filter.mpr ⟨List.mem_of_getElem? (i := 507) (by decide +kernel), rfl⟩
theorem wc_X8_plan : Cond.code yX8_plan cX8_plan 6 (some .int) ∈ lw_g := List.mem_filter.mpr ⟨List.mem_of_getElem? (i := 508) (by decide +kernel), rfl⟩
theorem wm_X8_140 : Cond.methodLink RX8 140 yX8_refusalAtPlaces ∈ lw_g := List.mem_filter.mpr ⟨List.mem_of_getElem? (i := 509) (by decide +kernel), rfl⟩
theorem wi_X8_refusalAtPlaces : Cond.instanceMethod yX8_refusalAtPlaces ∈ lw_g := List.mem_filter.mpr ⟨List.mem_of_getElem? (i := 511) (by decide +kernel), rfl⟩
theorem wc_X8_refusalAtPlaces : Cond.code yX8_refusalAtPlaces cX8_refusalAtPlaces 5 (some .int) ∈ lw_g := List.mem_filter.mpr ⟨List.mem_of_getElem? (i := 512) (by decide +kernel), rfl⟩
theorem wm_X8_144 : Cond.methodLink RX8 144 yX8_makePlan ∈ lw_g := List.mem_filter.mpr ⟨List.mem_of_getElem? (i := 513) (by decide +kernel), rfl⟩
theorem wi_X8_makePlan : Cond.instanceMethod yX8_makePlan ∈ lw_g := List.mem_filter.mpr ⟨List.mem_of_getElem? (i := 515) (by decide +kernel), rfl⟩
theorem wc_X8_makePlan : Cond.code yX8_makePlan cX8_makePlan 3 none ∈ lw_g := List.mem_filter.mpr ⟨List.mem_of_getElem? (i := 516) (by decide +kernel), rfl⟩
theorem wm_X8_212 : Cond.methodLink RX8 212 yX6_make ∈ lw_g := List.mem_filter.mpr ⟨List.mem_of_getElem? (i := 517) (by decide +kernel), rfl⟩
theorem wi_X6_make : Cond.instanceMethod yX6_make ∈ lw_g := List.mem_filter.mpr ⟨List.mem_of_getElem? (i := 518) (by decide +kernel), rfl⟩
theorem wl_X6_make : Cond.selects RX6 yX6_make yX6_make ∈ lw_g := List.mem_filter.mpr ⟨List.mem_of_getElem? (i := 519) (by decide +kernel), rfl⟩
theorem wc_X6_make : Cond.code yX6_make cX6_make 6 none ∈ lw_g := List.mem_filter.mpr ⟨List.mem_of_getElem? (i := 520) (by decide +kernel), rfl⟩
theorem wm_X6_29 : Cond.methodLink RX6 29 yX4_cheapest ∈ lw_g := List.mem_filter.mpr ⟨List.mem_of_getElem? (i := 521) (by decide +kernel), rfl⟩
theorem wm_X6_45 : Cond.methodLink RX6 45 yX6_takeGoods ∈ lw_g := List.mem_filter.mpr ⟨List.mem_of_getElem? (i := 522) (by decide +kernel), rfl⟩
theorem wi_X6_takeGoods : Cond.instanceMethod yX6_takeGoods ∈ lw_g := List.mem_filter.mpr ⟨List.mem_of_getElem? (i := 524) (by decide +kernel), rfl⟩
theorem wc_X6_takeGoods : Cond.code yX6_takeGoods cX6_takeGoods 8 none ∈ lw_g := List.mem_filter.mpr ⟨List.mem_of_getElem? (i := 525) (by decide +kernel), rfl⟩
theorem wm_X6_59 : Cond.methodLink RX6 59 yJ7_fill_53178 ∈ lw_g := List.mem_filter.mpr ⟨List.mem_of_getElem? (i := 526) (by decide +kernel), rfl⟩
theorem wm_X6_65 : Cond.methodLink RX6 65 Lib.Math.min.name ∈ lw_g := List.mem_filter.mpr ⟨List.mem_of_getElem? (i := 527) (by decide +kernel), rfl⟩
theorem wm_X6_49 : Cond.methodLink RX6 49 yX6_raiseHeights ∈ lw_g := List.mem_filter.mpr ⟨List.mem_of_getElem? (i := 528) (by decide +kernel), rfl⟩
theorem wi_X6_raiseHeights : Cond.instanceMethod yX6_raiseHeights ∈ lw_g := List.mem_filter.mpr ⟨List.mem_of_getElem? (i := 530) (by decide +kernel), rfl⟩
theorem wc_X6_raiseHeights : Cond.code yX6_raiseHeights cX6_raiseHeights 3 none ∈ lw_g := List.mem_filter.mpr ⟨List.mem_of_getElem? (i := 531) (by decide +kernel), rfl⟩
theorem wm_X6_85 : Cond.methodLink RX6 85 yX6_lowerHeights ∈ lw_g := List.mem_filter.mpr ⟨List.mem_of_getElem? (i := 532) (by decide +kernel), rfl⟩
theorem wi_X6_lowerHeights : Cond.instanceMethod yX6_lowerHeights ∈ lw_g := List.mem_filter.mpr ⟨List.mem_of_getElem? (i := 534) (by decide +kernel), rfl⟩
theorem wc_X6_lowerHeights : Cond.code yX6_lowerHeights cX6_lowerHeights 6 (some .boolean) ∈ lw_g := List.mem_filter.mpr ⟨List.mem_of_getElem? (i := 535) (by decide +kernel), rfl⟩
theorem wm_X6_53 : Cond.methodLink RX6 53 yX6_putFirst ∈ lw_g := List.mem_filter.mpr ⟨List.mem_of_getElem? (i := 536) (by decide +kernel), rfl⟩
theorem wi_X6_putFirst : Cond.instanceMethod yX6_putFirst ∈ lw_g := List.mem_filter.mpr ⟨List.mem_of_getElem? (i := 538) (by decide +kernel), rfl⟩
theorem wc_X6_putFirst : Cond.code yX6_putFirst cX6_putFirst 6 none ∈ lw_g := List.mem_filter.mpr ⟨List.mem_of_getElem? (i := 539) (by decide +kernel), rfl⟩
theorem wm_X6_89 : Cond.methodLink RX6 89 yX6_isTight ∈ lw_g := List.mem_filter.mpr ⟨List.mem_of_getElem? (i := 540) (by decide +kernel), rfl⟩
theorem wi_X6_isTight : Cond.instanceMethod yX6_isTight ∈ lw_g := List.mem_filter.mpr ⟨List.mem_of_getElem? (i := 542) (by decide +kernel), rfl⟩
theorem wc_X6_isTight : Cond.code yX6_isTight cX6_isTight 4 (some .boolean) ∈ lw_g := List.mem_filter.mpr ⟨List.mem_of_getElem? (i := 543) (by decide +kernel), rfl⟩
theorem wm_X6_93 : Cond.methodLink RX6 93 yX6_cell ∈ lw_g := List.mem_filter.mpr ⟨List.mem_of_getElem? (i := 544) (by decide +kernel), rfl⟩
theorem wa_X6_cell : Cond.static yX6_cell ∈ lw_g := List.mem_filter.mpr ⟨List.mem_of_getElem? (i := 545) (by decide +kernel), rfl⟩
theorem wc_X6_cell : Cond.code yX6_cell cX6_cell 2 (some .int) ∈ lw_g := List.mem_filter.mpr ⟨List.mem_of_getElem? (i := 546) (by decide +kernel), rfl⟩
theorem wm_X6_96 : Cond.methodLink RX6 96 yX6_findRing ∈ lw_g := List.mem_filter.mpr ⟨List.mem_of_getElem? (i := 547) (by decide +kernel), rfl⟩
theorem wi_X6_findRing : Cond.instanceMethod yX6_findRing ∈ lw_g := List.mem_filter.mpr ⟨List.mem_of_getElem? (i := 549) (by decide +kernel), rfl⟩
theorem wc_X6_findRing : Cond.code yX6_findRing cX6_findRing 10 (some .boolean) ∈ lw_g := List.mem_filter.mpr ⟨List.mem_of_getElem? (i := 550) (by decide +kernel), rfl⟩
theorem wm_X6_104 : Cond.methodLink RX6 104 yX6_reachColumns ∈ lw_g := List.mem_filter.mpr ⟨List.mem_of_getElem? (i := 551) (by decide +kernel), rfl⟩
theorem wi_X6_reachColumns : Cond.instanceMethod yX6_reachColumns ∈ lw_g := List.mem_filter.mpr ⟨List.mem_of_getElem? (i := 553) (by decide +kernel), rfl⟩
theorem wc_X6_reachColumns : Cond.code yX6_reachColumns cX6_reachColumns 7 (some .int) ∈ lw_g := List.mem_filter.mpr ⟨List.mem_of_getElem? (i := 554) (by decide +kernel), rfl⟩
theorem wm_X6_100 : Cond.methodLink RX6 100 yX6_turnRing ∈ lw_g := List.mem_filter.mpr ⟨List.mem_of_getElem? (i := 555) (by decide +kernel), rfl⟩
theorem wi_X6_turnRing : Cond.instanceMethod yX6_turnRing ∈ lw_g := List.mem_filter.mpr ⟨List.mem_of_getElem? (i := 557) (by decide +kernel), rfl⟩
theorem wc_X6_turnRing : Cond.code yX6_turnRing cX6_turnRing 7 none ∈ lw_g := List.mem_filter.mpr ⟨List.mem_of_getElem? (i := 558) (by decide +kernel), rfl⟩
theorem wm_X6_108 : Cond.methodLink RX6 108 yX6_ringAmount ∈ lw_g := List.mem_filter.mpr ⟨List.mem_of_getElem? (i := 559) (by decide +kernel), rfl⟩
theorem wi_X6_ringAmount : Cond.instanceMethod yX6_ringAmount ∈ lw_g := List.mem_filter.mpr ⟨List.mem_of_getElem? (i := 561) (by decide +kernel), rfl⟩
theorem wc_X6_ringAmount : Cond.code yX6_ringAmount cX6_ringAmount 7 (some .int) ∈ lw_g := List.mem_filter.mpr ⟨List.mem_of_getElem? (i := 562) (by decide +kernel), rfl⟩
theorem wm_L_66 : Cond.methodLink RL 66 yX8_alone ∈ lw_g := List.mem_filter.mpr ⟨List.mem_of_getElem? (i := 563) (by decide +kernel), rfl⟩
theorem wi_X8_alone : Cond.instanceMethod yX8_alone ∈ lw_g := List.mem_filter.mpr ⟨List.mem_of_getElem? (i := 564) (by decide +kernel), rfl⟩
theorem wl_X8_alone : Cond.selects RX8 yX8_alone yX8_alone ∈ lw_g := List.mem_filter.mpr ⟨List.mem_of_getElem? (i := 565) (by decide +kernel), rfl⟩
theorem wc_X8_alone : Cond.code yX8_alone cX8_alone 4 (some .int) ∈ lw_g := List.mem_filter.mpr ⟨List.mem_of_getElem? (i := 566) (by decide +kernel), rfl⟩
theorem wm_X8_151 : Cond.methodLink RX8 151 yX6_hasOther ∈ lw_g := List.mem_filter.mpr ⟨List.mem_of_getElem? (i := 567) (by decide +kernel), rfl⟩
theorem wi_X6_hasOther : Cond.instanceMethod yX6_hasOther ∈ lw_g := List.mem_filter.mpr ⟨List.mem_of_getElem? (i := 568) (by decide +kernel), rfl⟩
theorem wl_X6_hasOther : Cond.selects RX6 yX6_hasOther yX6_hasOther ∈ lw_g := List.mem_filter.mpr ⟨List.mem_of_getElem? (i := 569) (by decide +kernel), rfl⟩
theorem wc_X6_hasOther : Cond.code yX6_hasOther cX6_hasOther 4 (some .boolean) ∈ lw_g := List.mem_filter.mpr ⟨List.mem_of_getElem? (i := 570) (by decide +kernel), rfl⟩
theorem wm_L_70 : Cond.methodLink RL 70 yX8_height ∈ lw_g := List.mem_filter.mpr ⟨List.mem_of_getElem? (i := 571) (by decide +kernel), rfl⟩
theorem wi_X8_height : Cond.instanceMethod yX8_height ∈ lw_g := List.mem_filter.mpr ⟨List.mem_of_getElem? (i := 572) (by decide +kernel), rfl⟩
theorem wl_X8_height : Cond.selects RX8 yX8_height yX8_height ∈ lw_g := List.mem_filter.mpr ⟨List.mem_of_getElem? (i := 573) (by decide +kernel), rfl⟩
theorem wc_X8_height : Cond.code yX8_height cX8_height 4 (some .int) ∈ lw_g := List.mem_filter.mpr ⟨List.mem_of_getElem? (i := 574) (by decide +kernel), rfl⟩
theorem wk_X8_155 : Cond.constant RX8 155 (-2147483648) ∈ lw_g := List.mem_filter.mpr ⟨List.mem_of_getElem? (i := 575) (by decide +kernel), rfl⟩
theorem wm_L_74 : Cond.methodLink RL 74 yX8_load ∈ lw_g := List.mem_filter.mpr ⟨List.mem_of_getElem? (i := 576) (by decide +kernel), rfl⟩
theorem wi_X8_load : Cond.instanceMethod yX8_load ∈ lw_g := List.mem_filter.mpr ⟨List.mem_of_getElem? (i := 577) (by decide +kernel), rfl⟩
theorem wl_X8_load : Cond.selects RX8 yX8_load yX8_load ∈ lw_g := List.mem_filter.mpr ⟨List.mem_of_getElem? (i := 578) (by decide +kernel), rfl⟩
theorem wc_X8_load : Cond.code yX8_load cX8_load 6 (some .int) ∈ lw_g := List.mem_filter.mpr ⟨List.mem_of_getElem? (i := 579) (by decide +kernel), rfl⟩
theorem wm_X8_159 : Cond.methodLink RX8 159 yX6_carried ∈ lw_g := List.mem_filter.mpr ⟨List.mem_of_getElem? (i := 580) (by decide +kernel), rfl⟩
theorem wi_X6_carried : Cond.instanceMethod yX6_carried ∈ lw_g := List.mem_filter.mpr ⟨List.mem_of_getElem? (i := 581) (by decide +kernel), rfl⟩
theorem wl_X6_carried : Cond.selects RX6 yX6_carried yX6_carried ∈ lw_g := List.mem_filter.mpr ⟨List.mem_of_getElem? (i := 582) (by decide +kernel), rfl⟩
theorem wc_X6_carried : Cond.code yX6_carried cX6_carried 7 (some .int) ∈ lw_g := List.mem_filter.mpr ⟨List.mem_of_getElem? (i := 583) (by decide +kernel), rfl⟩
theorem wm_X6_111 : Cond.methodLink RX6 111 yX3_placeBehind ∈ lw_g := List.mem_filter.mpr ⟨List.mem_of_getElem? (i := 584) (by decide +kernel), rfl⟩
theorem wm_X6_114 : Cond.methodLink RX6 114 yX6_passes ∈ lw_g := List.mem_filter.mpr ⟨List.mem_of_getElem? (i := 585) (by decide +kernel), rfl⟩
theorem wa_X6_passes : Cond.static yX6_passes ∈ lw_g := List.mem_filter.mpr ⟨List.mem_of_getElem? (i := 586) (by decide +kernel), rfl⟩
theorem wc_X6_passes : Cond.code yX6_passes cX6_passes 6 (some .boolean) ∈ lw_g := List.mem_filter.mpr ⟨List.mem_of_getElem? (i := 587) (by decide +kernel), rfl⟩
theorem wm_L_78 : Cond.methodLink RL 78 yX8_far ∈ lw_g := List.mem_filter.mpr ⟨List.mem_of_getElem? (i := 588) (by decide +kernel), rfl⟩
theorem wi_X8_far : Cond.instanceMethod yX8_far ∈ lw_g := List.mem_filter.mpr ⟨List.mem_of_getElem? (i := 589) (by decide +kernel), rfl⟩
theorem wl_X8_far : Cond.selects RX8 yX8_far yX8_far ∈ lw_g := List.mem_filter.mpr ⟨List.mem_of_getElem? (i := 590) (by decide +kernel), rfl⟩
theorem wc_X8_far : Cond.code yX8_far cX8_far 4 (some .int) ∈ lw_g := List.mem_filter.mpr ⟨List.mem_of_getElem? (i := 591) (by decide +kernel), rfl⟩
theorem wm_X8_163 : Cond.methodLink RX8 163 yX8_makeReach ∈ lw_g := List.mem_filter.mpr ⟨List.mem_of_getElem? (i := 592) (by decide +kernel), rfl⟩
theorem wi_X8_makeReach : Cond.instanceMethod yX8_makeReach ∈ lw_g := List.mem_filter.mpr ⟨List.mem_of_getElem? (i := 594) (by decide +kernel), rfl⟩
theorem wc_X8_makeReach : Cond.code yX8_makeReach cX8_makeReach 3 none ∈ lw_g := List.mem_filter.mpr ⟨List.mem_of_getElem? (i := 595) (by decide +kernel), rfl⟩
theorem wm_X8_216 : Cond.methodLink RX8 216 yX7_make ∈ lw_g := List.mem_filter.mpr ⟨List.mem_of_getElem? (i := 596) (by decide +kernel), rfl⟩
theorem wi_X7_make : Cond.instanceMethod yX7_make ∈ lw_g := List.mem_filter.mpr ⟨List.mem_of_getElem? (i := 597) (by decide +kernel), rfl⟩
theorem wl_X7_make : Cond.selects RX7 yX7_make yX7_make ∈ lw_g := List.mem_filter.mpr ⟨List.mem_of_getElem? (i := 598) (by decide +kernel), rfl⟩
theorem wc_X7_make : Cond.code yX7_make cX7_make 6 none ∈ lw_g := List.mem_filter.mpr ⟨List.mem_of_getElem? (i := 599) (by decide +kernel), rfl⟩
theorem wm_X7_28 : Cond.methodLink RX7 28 yX7_joinEnds ∈ lw_g := List.mem_filter.mpr ⟨List.mem_of_getElem? (i := 600) (by decide +kernel), rfl⟩
theorem wi_X7_joinEnds : Cond.instanceMethod yX7_joinEnds ∈ lw_g := List.mem_filter.mpr ⟨List.mem_of_getElem? (i := 602) (by decide +kernel), rfl⟩
theorem wc_X7_joinEnds : Cond.code yX7_joinEnds cX7_joinEnds 5 none ∈ lw_g := List.mem_filter.mpr ⟨List.mem_of_getElem? (i := 603) (by decide +kernel), rfl⟩
theorem wm_X7_59 : Cond.methodLink RX7 59 yX5_empty ∈ lw_g := List.mem_filter.mpr ⟨List.mem_of_getElem? (i := 604) (by decide +kernel), rfl⟩
theorem wm_X7_62 : Cond.methodLink RX7 62 yX5_join ∈ lw_g := List.mem_filter.mpr ⟨List.mem_of_getElem? (i := 605) (by decide +kernel), rfl⟩
theorem wm_X7_32 : Cond.methodLink RX7 32 yJ7_fill_53178 ∈ lw_g := List.mem_filter.mpr ⟨List.mem_of_getElem? (i := 606) (by decide +kernel), rfl⟩
theorem wm_X7_41 : Cond.methodLink RX7 41 yX7_joinDistance ∈ lw_g := List.mem_filter.mpr ⟨List.mem_of_getElem? (i := 607) (by decide +kernel), rfl⟩
theorem wi_X7_joinDistance : Cond.instanceMethod yX7_joinDistance ∈ lw_g := List.mem_filter.mpr ⟨List.mem_of_getElem? (i := 609) (by decide +kernel), rfl⟩
theorem wc_X7_joinDistance : Cond.code yX7_joinDistance cX7_joinDistance 6 none ∈ lw_g := List.mem_filter.mpr ⟨List.mem_of_getElem? (i := 610) (by decide +kernel), rfl⟩
theorem wk_X7_70 : Cond.constant RX7 70 (1000000) ∈ lw_g := List.mem_filter.mpr ⟨List.mem_of_getElem? (i := 611) (by decide +kernel), rfl⟩
theorem wm_X7_45 : Cond.methodLink RX7 45 yX5_push ∈ lw_g := List.mem_filter.mpr ⟨List.mem_of_getElem? (i := 612) (by decide +kernel), rfl⟩
theorem wm_X7_52 : Cond.methodLink RX7 52 yX7_noteStuck ∈ lw_g := List.mem_filter.mpr ⟨List.mem_of_getElem? (i := 613) (by decide +kernel), rfl⟩
theorem wi_X7_noteStuck : Cond.instanceMethod yX7_noteStuck ∈ lw_g := List.mem_filter.mpr ⟨List.mem_of_getElem? (i := 615) (by decide +kernel), rfl⟩
theorem wc_X7_noteStuck : Cond.code yX7_noteStuck cX7_noteStuck 3 none ∈ lw_g := List.mem_filter.mpr ⟨List.mem_of_getElem? (i := 616) (by decide +kernel), rfl⟩
theorem wm_X7_71 : Cond.methodLink RX7 71 yX5_isReached ∈ lw_g := List.mem_filter.mpr ⟨List.mem_of_getElem? (i := 617) (by decide +kernel), rfl⟩
theorem wm_X7_55 : Cond.methodLink RX7 55 yX7_distanceAbove ∈ lw_g := List.mem_filter.mpr ⟨List.mem_of_getElem? (i := 618) (by decide +kernel), rfl⟩
theorem wa_X7_distanceAbove : Cond.static yX7_distanceAbove ∈ lw_g := List.mem_filter.mpr ⟨List.mem_of_getElem? (i := 619) (by decide +kernel), rfl⟩
theorem wc_X7_distanceAbove : Cond.code yX7_distanceAbove cX7_distanceAbove 5 (some .int) ∈ lw_g := List.mem_filter.mpr ⟨List.mem_of_getElem? (i := 620) (by decide +kernel), rfl⟩
theorem wm_X7_75 : Cond.methodLink RX7 75 Lib.Math.min.name ∈ lw_g := List.mem_filter.mpr ⟨List.mem_of_getElem? (i := 621) (by decide +kernel), rfl⟩
theorem wm_L_82 : Cond.methodLink RL 82 yX8_shown ∈ lw_g := List.mem_filter.mpr ⟨List.mem_of_getElem? (i := 622) (by decide +kernel), rfl⟩
theorem wi_X8_shown : Cond.instanceMethod yX8_shown ∈ lw_g := List.mem_filter.mpr ⟨List.mem_of_getElem? (i := 623) (by decide +kernel), rfl⟩
theorem wl_X8_shown : Cond.selects RX8 yX8_shown yX8_shown ∈ lw_g := List.mem_filter.mpr ⟨List.mem_of_getElem? (i := 624) (by decide +kernel), rfl⟩
theorem wc_X8_shown : Cond.code yX8_shown cX8_shown 5 (some .int) ∈ lw_g := List.mem_filter.mpr ⟨List.mem_of_getElem? (i := 625) (by decide +kernel), rfl⟩
theorem wm_L_86 : Cond.methodLink RL 86 yX8_some ∈ lw_g := List.mem_filter.mpr ⟨List.mem_of_getElem? (i := 626) (by decide +kernel), rfl⟩
theorem wi_X8_some : Cond.instanceMethod yX8_some ∈ lw_g := List.mem_filter.mpr ⟨List.mem_of_getElem? (i := 627) (by decide +kernel), rfl⟩
theorem wl_X8_some : Cond.selects RX8 yX8_some yX8_some ∈ lw_g := List.mem_filter.mpr ⟨List.mem_of_getElem? (i := 628) (by decide +kernel), rfl⟩
theorem wc_X8_some : Cond.code yX8_some cX8_some 4 (some .int) ∈ lw_g := List.mem_filter.mpr ⟨List.mem_of_getElem? (i := 629) (by decide +kernel), rfl⟩
theorem wm_X8_172 : Cond.methodLink RX8 172 Lib.Math.min.name ∈ lw_g := List.mem_filter.mpr ⟨List.mem_of_getElem? (i := 630) (by decide +kernel), rfl⟩
theorem wm_L_90 : Cond.methodLink RL 90 yX8_gated ∈ lw_g := List.mem_filter.mpr ⟨List.mem_of_getElem? (i := 631) (by decide +kernel), rfl⟩
theorem wi_X8_gated : Cond.instanceMethod yX8_gated ∈ lw_g := List.mem_filter.mpr ⟨List.mem_of_getElem? (i := 632) (by decide +kernel), rfl⟩
theorem wl_X8_gated : Cond.selects RX8 yX8_gated yX8_gated ∈ lw_g := List.mem_filter.mpr ⟨List.mem_of_getElem? (i := 633) (by decide +kernel), rfl⟩
theorem wc_X8_gated : Cond.code yX8_gated cX8_gated 4 (some .int) ∈ lw_g := List.mem_filter.mpr ⟨List.mem_of_getElem? (i := 634) (by decide +kernel), rfl⟩
theorem wm_X8_185 : Cond.methodLink RX8 185 yX4_cheapestThroughGates ∈ lw_g := List.mem_filter.mpr ⟨List.mem_of_getElem? (i := 635) (by decide +kernel), rfl⟩
theorem wi_X4_cheapestThroughGates : Cond.instanceMethod yX4_cheapestThroughGates ∈ lw_g := List.mem_filter.mpr ⟨List.mem_of_getElem? (i := 636) (by decide +kernel), rfl⟩
theorem wl_X4_cheapestThroughGates : Cond.selects RX4 yX4_cheapestThroughGates yX4_cheapestThroughGates ∈ lw_g := List.mem_filter.mpr ⟨List.mem_of_getElem? (i := 637) (by decide +kernel), rfl⟩
theorem wc_X4_cheapestThroughGates : Cond.code yX4_cheapestThroughGates cX4_cheapestThroughGates 8 (some .int) ∈ lw_g := List.mem_filter.mpr ⟨List.mem_of_getElem? (i := 638) (by decide +kernel), rfl⟩
theorem wm_L_94 : Cond.methodLink RL 94 yX8_draft ∈ lw_g := List.mem_filter.mpr ⟨List.mem_of_getElem? (i := 639) (by decide +kernel), rfl⟩
theorem wi_X8_draft : Cond.instanceMethod yX8_draft ∈ lw_g := List.mem_filter.mpr ⟨List.mem_of_getElem? (i := 640) (by decide +kernel), rfl⟩
theorem wl_X8_draft : Cond.selects RX8 yX8_draft yX8_draft ∈ lw_g := List.mem_filter.mpr ⟨List.mem_of_getElem? (i := 641) (by decide +kernel), rfl⟩
theorem wc_X8_draft : Cond.code yX8_draft cX8_draft 5 (some .int) ∈ lw_g := List.mem_filter.mpr ⟨List.mem_of_getElem? (i := 642) (by decide +kernel), rfl⟩
theorem wm_L_98 : Cond.methodLink RL 98 yX8_clear ∈ lw_g := List.mem_filter.mpr ⟨List.mem_of_getElem? (i := 643) (by decide +kernel), rfl⟩
theorem wi_X8_clear : Cond.instanceMethod yX8_clear ∈ lw_g := List.mem_filter.mpr ⟨List.mem_of_getElem? (i := 644) (by decide +kernel), rfl⟩
theorem wl_X8_clear : Cond.selects RX8 yX8_clear yX8_clear ∈ lw_g := List.mem_filter.mpr ⟨List.mem_of_getElem? (i := 645) (by decide +kernel), rfl⟩
theorem wc_X8_clear : Cond.code yX8_clear cX8_clear 2 (some .int) ∈ lw_g := List.mem_filter.mpr ⟨List.mem_of_getElem? (i := 646) (by decide +kernel), rfl⟩
theorem wm_X8_192 : Cond.methodLink RX8 192 yX1_others ∈ lw_g := List.mem_filter.mpr ⟨List.mem_of_getElem? (i := 647) (by decide +kernel), rfl⟩
theorem wi_X1_others : Cond.instanceMethod yX1_others ∈ lw_g := List.mem_filter.mpr ⟨List.mem_of_getElem? (i := 648) (by decide +kernel), rfl⟩
theorem wl_X1_others : Cond.selects RX1 yX1_others yX1_others ∈ lw_g := List.mem_filter.mpr ⟨List.mem_of_getElem? (i := 649) (by decide +kernel), rfl⟩
theorem wc_X1_others : Cond.code yX1_others cX1_others 4 (some .int) ∈ lw_g := List.mem_filter.mpr ⟨List.mem_of_getElem? (i := 650) (by decide +kernel), rfl⟩
theorem wm_X8_195 : Cond.methodLink RX8 195 yX1_wipe ∈ lw_g := List.mem_filter.mpr ⟨List.mem_of_getElem? (i := 651) (by decide +kernel), rfl⟩
theorem wi_X1_wipe : Cond.instanceMethod yX1_wipe ∈ lw_g := List.mem_filter.mpr ⟨List.mem_of_getElem? (i := 652) (by decide +kernel), rfl⟩
theorem wl_X1_wipe : Cond.selects RX1 yX1_wipe yX1_wipe ∈ lw_g := List.mem_filter.mpr ⟨List.mem_of_getElem? (i := 653) (by decide +kernel), rfl⟩
theorem wc_X1_wipe : Cond.code yX1_wipe cX1_wipe 2 none ∈ lw_g := List.mem_filter.mpr ⟨List.mem_of_getElem? (i := 654) (by decide +kernel), rfl⟩
theorem wm_X1_16 : Cond.methodLink RX1 16 yJ7_fill_53178 ∈ lw_g := List.mem_filter.mpr ⟨List.mem_of_getElem? (i := 655) (by decide +kernel), rfl⟩
theorem wm_L_102 : Cond.methodLink RL 102 yX8_copy ∈ lw_g := List.mem_filter.mpr ⟨List.mem_of_getElem? (i := 656) (by decide +kernel), rfl⟩
theorem wi_X8_copy : Cond.instanceMethod yX8_copy ∈ lw_g := List.mem_filter.mpr ⟨List.mem_of_getElem? (i := 657) (by decide +kernel), rfl⟩
theorem wl_X8_copy : Cond.selects RX8 yX8_copy yX8_copy ∈ lw_g := List.mem_filter.mpr ⟨List.mem_of_getElem? (i := 658) (by decide +kernel), rfl⟩
theorem wc_X8_copy : Cond.code yX8_copy cX8_copy 6 (some .int) ∈ lw_g := List.mem_filter.mpr ⟨List.mem_of_getElem? (i := 659) (by decide +kernel), rfl⟩
theorem wm_L_106 : Cond.methodLink RL 106 yX8_judge ∈ lw_g := List.mem_filter.mpr ⟨List.mem_of_getElem? (i := 660) (by decide +kernel), rfl⟩
theorem wi_X8_judge : Cond.instanceMethod yX8_judge ∈ lw_g := List.mem_filter.mpr ⟨List.mem_of_getElem? (i := 661) (by decide +kernel), rfl⟩
theorem wl_X8_judge : Cond.selects RX8 yX8_judge yX8_judge ∈ lw_g := List.mem_filter.mpr ⟨List.mem_of_getElem? (i := 662) (by decide +kernel), rfl⟩
theorem wc_X8_judge : Cond.code yX8_judge cX8_judge 5 (some .int) ∈ lw_g := List.mem_filter.mpr ⟨List.mem_of_getElem? (i := 663) (by decide +kernel), rfl⟩
theorem wm_X8_198 : Cond.methodLink RX8 198 yX1_firstWrongFrom ∈ lw_g := List.mem_filter.mpr ⟨List.mem_of_getElem? (i := 664) (by decide +kernel), rfl⟩
theorem wi_X1_firstWrongFrom : Cond.instanceMethod yX1_firstWrongFrom ∈ lw_g := List.mem_filter.mpr ⟨List.mem_of_getElem? (i := 665) (by decide +kernel), rfl⟩
theorem wl_X1_firstWrongFrom : Cond.selects RX1 yX1_firstWrongFrom yX1_firstWrongFrom ∈ lw_g := List.mem_filter.mpr ⟨List.mem_of_getElem? (i := 666) (by decide +kernel), rfl⟩
theorem wc_X1_firstWrongFrom : Cond.code yX1_firstWrongFrom cX1_firstWrongFrom 6 (some .int) ∈ lw_g := List.mem_filter.mpr ⟨List.mem_of_getElem? (i := 667) (by decide +kernel), rfl⟩
theorem wm_X8_202 : Cond.methodLink RX8 202 yX1_firstWrongTo ∈ lw_g := List.mem_filter.mpr ⟨List.mem_of_getElem? (i := 668) (by decide +kernel), rfl⟩
theorem wi_X1_firstWrongTo : Cond.instanceMethod yX1_firstWrongTo ∈ lw_g := List.mem_filter.mpr ⟨List.mem_of_getElem? (i := 669) (by decide +kernel), rfl⟩
theorem wl_X1_firstWrongTo : Cond.selects RX1 yX1_firstWrongTo yX1_firstWrongTo ∈ lw_g := List.mem_filter.mpr ⟨List.mem_of_getElem? (i := 670) (by decide +kernel), rfl⟩
theorem wc_X1_firstWrongTo : Cond.code yX1_firstWrongTo cX1_firstWrongTo 6 (some .int) ∈ lw_g := List.mem_filter.mpr ⟨List.mem_of_getElem? (i := 671) (by decide +kernel), rfl⟩
theorem wm_X8_205 : Cond.methodLink RX8 205 yX1_cost ∈ lw_g := List.mem_filter.mpr ⟨List.mem_of_getElem? (i := 672) (by decide +kernel), rfl⟩
theorem wi_X1_cost : Cond.instanceMethod yX1_cost ∈ lw_g := List.mem_filter.mpr ⟨List.mem_of_getElem? (i := 673) (by decide +kernel), rfl⟩
theorem wl_X1_cost : Cond.selects RX1 yX1_cost yX1_cost ∈ lw_g := List.mem_filter.mpr ⟨List.mem_of_getElem? (i := 674) (by decide +kernel), rfl⟩
theorem wc_X1_cost : Cond.code yX1_cost cX1_cost 5 (some .int) ∈ lw_g := List.mem_filter.mpr ⟨List.mem_of_getElem? (i := 675) (by decide +kernel), rfl⟩
theorem wm_L_110 : Cond.methodLink RL 110 yX8_beside ∈ lw_g := List.mem_filter.mpr ⟨List.mem_of_getElem? (i := 676) (by decide +kernel), rfl⟩
theorem wi_X8_beside : Cond.instanceMethod yX8_beside ∈ lw_g := List.mem_filter.mpr ⟨List.mem_of_getElem? (i := 677) (by decide +kernel), rfl⟩
theorem wl_X8_beside : Cond.selects RX8 yX8_beside yX8_beside ∈ lw_g := List.mem_filter.mpr ⟨List.mem_of_getElem? (i := 678) (by decide +kernel), rfl⟩
theorem wc_X8_beside : Cond.code yX8_beside cX8_beside 1 (some .int) ∈ lw_g := List.mem_filter.mpr ⟨List.mem_of_getElem? (i := 679) (by decide +kernel), rfl⟩
theorem wm_L_114 : Cond.methodLink RL 114 yX8_count ∈ lw_g := List.mem_filter.mpr ⟨List.mem_of_getElem? (i := 680) (by decide +kernel), rfl⟩
theorem wi_X8_count : Cond.instanceMethod yX8_count ∈ lw_g := List.mem_filter.mpr ⟨List.mem_of_getElem? (i := 681) (by decide +kernel), rfl⟩
theorem wl_X8_count : Cond.selects RX8 yX8_count yX8_count ∈ lw_g := List.mem_filter.mpr ⟨List.mem_of_getElem? (i := 682) (by decide +kernel), rfl⟩
theorem wc_X8_count : Cond.code yX8_count cX8_count 2 (some .int) ∈ lw_g := List.mem_filter.mpr ⟨List.mem_of_getElem? (i := 683) (by decide +kernel), rfl⟩
theorem wm_X8_209 : Cond.methodLink RX8 209 yX3_gates ∈ lw_g := List.mem_filter.mpr ⟨List.mem_of_getElem? (i := 684) (by decide +kernel), rfl⟩
theorem wi_X3_gates : Cond.instanceMethod yX3_gates ∈ lw_g := List.mem_filter.mpr ⟨List.mem_of_getElem? (i := 685) (by decide +kernel), rfl⟩
theorem wl_X3_gates : Cond.selects RX3 yX3_gates yX3_gates ∈ lw_g := List.mem_filter.mpr ⟨List.mem_of_getElem? (i := 686) (by decide +kernel), rfl⟩
theorem wc_X3_gates : Cond.code yX3_gates cX3_gates 3 (some .int) ∈ lw_g := List.mem_filter.mpr ⟨List.mem_of_getElem? (i := 687) (by decide +kernel), rfl⟩
theorem wq_L_10 : Cond.classLink RL 10 RX9 ∈ lw_g := List.mem_filter.mpr ⟨List.mem_of_getElem? (i := 688) (by decide +kernel), rfl⟩
theorem wb_X9 : Cond.instantiable RX9 31 ∈ lw_g := List.mem_filter.mpr ⟨List.mem_of_getElem? (i := 689) (by decide +kernel), rfl⟩
theorem wm_L_12 : Cond.methodLink RL 12 yX9_init ∈ lw_g := List.mem_filter.mpr ⟨List.mem_of_getElem? (i := 690) (by decide +kernel), rfl⟩
theorem wi_X9_init : Cond.instanceMethod yX9_init ∈ lw_g := List.mem_filter.mpr ⟨List.mem_of_getElem? (i := 691) (by decide +kernel), rfl⟩
theorem wc_X9_init : Cond.code yX9_init cX9_init 2 none ∈ lw_g := List.mem_filter.mpr ⟨List.mem_of_getElem? (i := 692) (by decide +kernel), rfl⟩
theorem wm_X9_1 : Cond.methodLink RX9 1 objectInit ∈ lw_g := List.mem_filter.mpr ⟨List.mem_of_getElem? (i := 693) (by decide +kernel), rfl⟩
theorem wf_X9_86 : Cond.fieldLink RX9 86 "HeapMoverModel" "places" "I" ∈ lw_g := List.mem_filter.mpr ⟨List.mem_of_getElem? (i := 694) (by decide +kernel), rfl⟩
theorem wf_X9_108 : Cond.fieldLink RX9 108 "HeapMoverModel" "roads" "I" ∈ lw_g := List.mem_filter.mpr ⟨List.mem_of_getElem? (i := 695) (by decide +kernel), rfl⟩
theorem wf_X9_7 : Cond.fieldLink RX9 7 "HeapMoverModel" "roadU" "[I" ∈ lw_g := List.mem_filter.mpr ⟨List.mem_of_getElem? (i := 696) (by decide +kernel), rfl⟩
theorem wf_X9_13 : Cond.fieldLink RX9 13 "HeapMoverModel" "roadV" "[I" ∈ lw_g := List.mem_filter.mpr ⟨List.mem_of_getElem? (i := 697) (by decide +kernel), rfl⟩
theorem wf_X9_16 : Cond.fieldLink RX9 16 "HeapMoverModel" "roadLength" "[I" ∈ lw_g := List.mem_filter.mpr ⟨List.mem_of_getElem? (i := 698) (by decide +kernel), rfl⟩
theorem wf_X9_94 : Cond.fieldLink RX9 94 "HeapMoverModel" "heaps" "I" ∈ lw_g := List.mem_filter.mpr ⟨List.mem_of_getElem? (i := 699) (by decide +kernel), rfl⟩
theorem wf_X9_19 : Cond.fieldLink RX9 19 "HeapMoverModel" "amounts" "[I" ∈ lw_g := List.mem_filter.mpr ⟨List.mem_of_getElem? (i := 700) (by decide +kernel), rfl⟩
theorem wf_X9_22 : Cond.fieldLink RX9 22 "HeapMoverModel" "bounds" "[I" ∈ lw_g := List.mem_filter.mpr ⟨List.mem_of_getElem? (i := 701) (by decide +kernel), rfl⟩
theorem wf_X9_25 : Cond.fieldLink RX9 25 "HeapMoverModel" "drafts" "[I" ∈ lw_g := List.mem_filter.mpr ⟨List.mem_of_getElem? (i := 702) (by decide +kernel), rfl⟩
theorem wf_X9_199 : Cond.fieldLink RX9 199 "HeapMoverModel" "beside" "I" ∈ lw_g := List.mem_filter.mpr ⟨List.mem_of_getElem? (i := 703) (by decide +kernel), rfl⟩
theorem wf_X9_97 : Cond.fieldLink RX9 97 "HeapMoverModel" "kept" "I" ∈ lw_g := List.mem_filter.mpr ⟨List.mem_of_getElem? (i := 704) (by decide +kernel), rfl⟩
theorem wf_X9_28 : Cond.fieldLink RX9 28 "HeapMoverModel" "keptWhat" "[I" ∈ lw_g := List.mem_filter.mpr ⟨List.mem_of_getElem? (i := 705) (by decide +kernel), rfl⟩
theorem wf_X9_31 : Cond.fieldLink RX9 31 "HeapMoverModel" "keptAt" "[I" ∈ lw_g := List.mem_filter.mpr ⟨List.mem_of_getElem? (i := 706) (by decide +kernel), rfl⟩
theorem wf_X9_34 : Cond.fieldLink RX9 34 "HeapMoverModel" "keptWas" "[I" ∈ lw_g := List.mem_filter.mpr ⟨List.mem_of_getElem? (i := 707) (by decide +kernel), rfl⟩
theorem wf_X9_37 : Cond.fieldLink RX9 37 "HeapMoverModel" "far" "[I" ∈ lw_g := List.mem_filter.mpr ⟨List.mem_of_getElem? (i := 708) (by decide +kernel), rfl⟩
theorem wf_X9_40 : Cond.fieldLink RX9 40 "HeapMoverModel" "flow" "[I" ∈ lw_g := List.mem_filter.mpr ⟨List.mem_of_getElem? (i := 709) (by decide +kernel), rfl⟩
theorem wf_X9_43 : Cond.fieldLink RX9 43 "HeapMoverModel" "supply" "[I" ∈ lw_g := List.mem_filter.mpr ⟨List.mem_of_getElem? (i := 710) (by decide +kernel), rfl⟩
theorem wf_X9_46 : Cond.fieldLink RX9 46 "HeapMoverModel" "demand" "[I" ∈ lw_g := List.mem_filter.mpr ⟨List.mem_of_getElem? (i := 711) (by decide +kernel), rfl⟩
theorem wf_X9_49 : Cond.fieldLink RX9 49 "HeapMoverModel" "heights" "[I" ∈ lw_g := List.mem_filter.mpr ⟨List.mem_of_getElem? (i := 712) (by decide +kernel), rfl⟩
theorem wf_X9_52 : Cond.fieldLink RX9 52 "HeapMoverModel" "dear" "[I" ∈ lw_g := List.mem_filter.mpr ⟨List.mem_of_getElem? (i := 713) (by decide +kernel), rfl⟩
theorem wf_X9_55 : Cond.fieldLink RX9 55 "HeapMoverModel" "came" "[I" ∈ lw_g := List.mem_filter.mpr ⟨List.mem_of_getElem? (i := 714) (by decide +kernel), rfl⟩
theorem wf_X9_58 : Cond.fieldLink RX9 58 "HeapMoverModel" "isFixed" "[Z" ∈ lw_g := List.mem_filter.mpr ⟨List.mem_of_getElem? (i := 715) (by decide +kernel), rfl⟩
theorem wf_X9_62 : Cond.fieldLink RX9 62 "HeapMoverModel" "isSeen" "[Z" ∈ lw_g := List.mem_filter.mpr ⟨List.mem_of_getElem? (i := 716) (by decide +kernel), rfl⟩
theorem wf_X9_65 : Cond.fieldLink RX9 65 "HeapMoverModel" "queue" "[I" ∈ lw_g := List.mem_filter.mpr ⟨List.mem_of_getElem? (i := 717) (by decide +kernel), rfl⟩
theorem wf_X9_182 : Cond.fieldLink RX9 182 "HeapMoverModel" "arcs" "I" ∈ lw_g := List.mem_filter.mpr ⟨List.mem_of_getElem? (i := 718) (by decide +kernel), rfl⟩
theorem wf_X9_68 : Cond.fieldLink RX9 68 "HeapMoverModel" "arcFrom" "[I" ∈ lw_g := List.mem_filter.mpr ⟨List.mem_of_getElem? (i := 719) (by decide +kernel), rfl⟩
theorem wf_X9_71 : Cond.fieldLink RX9 71 "HeapMoverModel" "arcTo" "[I" ∈ lw_g := List.mem_filter.mpr ⟨List.mem_of_getElem? (i := 720) (by decide +kernel), rfl⟩
theorem wf_X9_74 : Cond.fieldLink RX9 74 "HeapMoverModel" "arcRoom" "[I" ∈ lw_g := List.mem_filter.mpr ⟨List.mem_of_getElem? (i := 721) (by decide +kernel), rfl⟩
theorem wf_X9_77 : Cond.fieldLink RX9 77 "HeapMoverModel" "arcCost" "[I" ∈ lw_g := List.mem_filter.mpr ⟨List.mem_of_getElem? (i := 722) (by decide +kernel), rfl⟩
theorem wf_X9_80 : Cond.fieldLink RX9 80 "HeapMoverModel" "netDear" "[I" ∈ lw_g := List.mem_filter.mpr ⟨List.mem_of_getElem? (i := 723) (by decide +kernel), rfl⟩
theorem wf_X9_83 : Cond.fieldLink RX9 83 "HeapMoverModel" "netCame" "[I" ∈ lw_g := List.mem_filter.mpr ⟨List.mem_of_getElem? (i := 724) (by decide +kernel), rfl⟩
theorem wy_boolean : Cond.arrayClass .boolean ∈ lw_g := List.mem_filter.mpr ⟨List.mem_of_getElem? (i := 788) (by decide +kernel), rfl⟩
theorem wm_L_17 : Cond.methodLink RL 17 yX9_place ∈ lw_g := List.mem_filter.mpr ⟨List.mem_of_getElem? (i := 789) (by decide +kernel), rfl⟩
theorem wi_X9_place : Cond.instanceMethod yX9_place ∈ lw_g := List.mem_filter.mpr ⟨List.mem_of_getElem? (i := 790) (by decide +kernel), rfl⟩
theorem wl_X9_place : Cond.selects RX9 yX9_place yX9_place ∈ lw_g := List.mem_filter.mpr ⟨List.mem_of_getElem? (i := 791) (by decide +kernel), rfl⟩
theorem wc_X9_place : Cond.code yX9_place cX9_place 2 (some .int) ∈ lw_g := List.mem_filter.mpr ⟨List.mem_of_getElem? (i := 792) (by decide +kernel), rfl⟩
theorem wm_X9_100 : Cond.methodLink RX9 100 yX9_keep ∈ lw_g := List.mem_filter.mpr ⟨List.mem_of_getElem? (i := 793) (by decide +kernel), rfl⟩
theorem wi_X9_keep : Cond.instanceMethod yX9_keep ∈ lw_g := List.mem_filter.mpr ⟨List.mem_of_getElem? (i := 795) (by decide +kernel), rfl⟩
theorem wc_X9_keep : Cond.code yX9_keep cX9_keep 5 none ∈ lw_g := List.mem_filter.mpr ⟨List.mem_of_getElem? (i := 796) (by decide +kernel), rfl⟩
theorem wm_L_22 : Cond.methodLink RL 22 yX9_road ∈ lw_g := List.mem_filter.mpr ⟨List.mem_of_getElem? (i := 797) (by decide +kernel), rfl⟩
theorem wi_X9_road : Cond.instanceMethod yX9_road ∈ lw_g := List.mem_filter.mpr ⟨List.mem_of_getElem? (i := 798) (by decide +kernel), rfl⟩
theorem wl_X9_road : Cond.selects RX9 yX9_road yX9_road ∈ lw_g := List.mem_filter.mpr ⟨List.mem_of_getElem? (i := 799) (by decide +kernel), rfl⟩
theorem wc_X9_road : Cond.code yX9_road cX9_road 4 (some .int) ∈ lw_g := List.mem_filter.mpr ⟨List.mem_of_getElem? (i := 800) (by decide +kernel), rfl⟩
theorem wm_X9_104 : Cond.methodLink RX9 104 yX9_isPlace ∈ lw_g := List.mem_filter.mpr ⟨List.mem_of_getElem? (i := 801) (by decide +kernel), rfl⟩
theorem wi_X9_isPlace : Cond.instanceMethod yX9_isPlace ∈ lw_g := List.mem_filter.mpr ⟨List.mem_of_getElem? (i := 803) (by decide +kernel), rfl⟩
theorem wc_X9_isPlace : Cond.code yX9_isPlace cX9_isPlace 2 (some .boolean) ∈ lw_g := List.mem_filter.mpr ⟨List.mem_of_getElem? (i := 804) (by decide +kernel), rfl⟩
theorem wm_X9_90 : Cond.methodLink RX9 90 yX9_in ∈ lw_g := List.mem_filter.mpr ⟨List.mem_of_getElem? (i := 805) (by decide +kernel), rfl⟩
theorem wa_X9_in : Cond.static yX9_in ∈ lw_g := List.mem_filter.mpr ⟨List.mem_of_getElem? (i := 806) (by decide +kernel), rfl⟩
theorem wc_X9_in : Cond.code yX9_in cX9_in 3 (some .boolean) ∈ lw_g := List.mem_filter.mpr ⟨List.mem_of_getElem? (i := 807) (by decide +kernel), rfl⟩
theorem wm_L_26 : Cond.methodLink RL 26 yX9_heap ∈ lw_g := List.mem_filter.mpr ⟨List.mem_of_getElem? (i := 808) (by decide +kernel), rfl⟩
theorem wi_X9_heap : Cond.instanceMethod yX9_heap ∈ lw_g := List.mem_filter.mpr ⟨List.mem_of_getElem? (i := 809) (by decide +kernel), rfl⟩
theorem wl_X9_heap : Cond.selects RX9 yX9_heap yX9_heap ∈ lw_g := List.mem_filter.mpr ⟨List.mem_of_getElem? (i := 810) (by decide +kernel), rfl⟩
theorem wc_X9_heap : Cond.code yX9_heap cX9_heap 2 (some .int) ∈ lw_g := List.mem_filter.mpr ⟨List.mem_of_getElem? (i := 811) (by decide +kernel), rfl⟩
theorem wm_L_30 : Cond.methodLink RL 30 yX9_set ∈ lw_g := List.mem_filter.mpr ⟨List.mem_of_getElem? (i := 812) (by decide +kernel), rfl⟩
theorem wi_X9_set : Cond.instanceMethod yX9_set ∈ lw_g := List.mem_filter.mpr ⟨List.mem_of_getElem? (i := 813) (by decide +kernel), rfl⟩
theorem wl_X9_set : Cond.selects RX9 yX9_set yX9_set ∈ lw_g := List.mem_filter.mpr ⟨List.mem_of_getElem? (i := 814) (by decide +kernel), rfl⟩
theorem wc_X9_set : Cond.code yX9_set cX9_set 6 (some .int) ∈ lw_g := List.mem_filter.mpr ⟨List.mem_of_getElem? (i := 815) (by decide +kernel), rfl⟩
theorem wm_X9_111 : Cond.methodLink RX9 111 yX9_isHeap ∈ lw_g := List.mem_filter.mpr ⟨List.mem_of_getElem? (i := 816) (by decide +kernel), rfl⟩
theorem wi_X9_isHeap : Cond.instanceMethod yX9_isHeap ∈ lw_g := List.mem_filter.mpr ⟨List.mem_of_getElem? (i := 818) (by decide +kernel), rfl⟩
theorem wc_X9_isHeap : Cond.code yX9_isHeap cX9_isHeap 2 (some .boolean) ∈ lw_g := List.mem_filter.mpr ⟨List.mem_of_getElem? (i := 819) (by decide +kernel), rfl⟩
theorem wm_L_35 : Cond.methodLink RL 35 yX9_gate ∈ lw_g := List.mem_filter.mpr ⟨List.mem_of_getElem? (i := 820) (by decide +kernel), rfl⟩
theorem wi_X9_gate : Cond.instanceMethod yX9_gate ∈ lw_g := List.mem_filter.mpr ⟨List.mem_of_getElem? (i := 821) (by decide +kernel), rfl⟩
theorem wl_X9_gate : Cond.selects RX9 yX9_gate yX9_gate ∈ lw_g := List.mem_filter.mpr ⟨List.mem_of_getElem? (i := 822) (by decide +kernel), rfl⟩
theorem wc_X9_gate : Cond.code yX9_gate cX9_gate 4 (some .int) ∈ lw_g := List.mem_filter.mpr ⟨List.mem_of_getElem? (i := 823) (by decide +kernel), rfl⟩
theorem wk_X9_114 : Cond.constant RX9 114 (100000) ∈ lw_g := List.mem_filter.mpr ⟨List.mem_of_getElem? (i := 824) (by decide +kernel), rfl⟩
theorem wm_L_39 : Cond.methodLink RL 39 yX9_undo ∈ lw_g := List.mem_filter.mpr ⟨List.mem_of_getElem? (i := 825) (by decide +kernel), rfl⟩
theorem wi_X9_undo : Cond.instanceMethod yX9_undo ∈ lw_g := List.mem_filter.mpr ⟨List.mem_of_getElem? (i := 826) (by decide +kernel), rfl⟩
theorem wl_X9_undo : Cond.selects RX9 yX9_undo yX9_undo ∈ lw_g := List.mem_filter.mpr ⟨List.mem_of_getElem? (i := 827) (by decide +kernel), rfl⟩
theorem wc_X9_undo : Cond.code yX9_undo cX9_undo 4 (some .int) ∈ lw_g := List.mem_filter.mpr ⟨List.mem_of_getElem? (i := 828) (by decide +kernel), rfl⟩
theorem wm_L_43 : Cond.methodLink RL 43 yX9_apart ∈ lw_g := List.mem_filter.mpr ⟨List.mem_of_getElem? (i := 829) (by decide +kernel), rfl⟩
theorem wi_X9_apart : Cond.instanceMethod yX9_apart ∈ lw_g := List.mem_filter.mpr ⟨List.mem_of_getElem? (i := 830) (by decide +kernel), rfl⟩
theorem wl_X9_apart : Cond.selects RX9 yX9_apart yX9_apart ∈ lw_g := List.mem_filter.mpr ⟨List.mem_of_getElem? (i := 831) (by decide +kernel), rfl⟩
theorem wc_X9_apart : Cond.code yX9_apart cX9_apart 3 (some .int) ∈ lw_g := List.mem_filter.mpr ⟨List.mem_of_getElem? (i := 832) (by decide +kernel), rfl⟩
theorem wm_X9_116 : Cond.methodLink RX9 116 yX9_findFar ∈ lw_g := List.mem_filter.mpr ⟨List.mem_of_getElem? (i := 833) (by decide +kernel), rfl⟩
theorem wi_X9_findFar : Cond.instanceMethod yX9_findFar ∈ lw_g := List.mem_filter.mpr ⟨List.mem_of_getElem? (i := 835) (by decide +kernel), rfl⟩
theorem wc_X9_findFar : Cond.code yX9_findFar cX9_findFar 5 none ∈ lw_g := List.mem_filter.mpr ⟨List.mem_of_getElem? (i := 836) (by decide +kernel), rfl⟩
theorem wk_X9_115 : Cond.constant RX9 115 (1000000000) ∈ lw_g := List.mem_filter.mpr ⟨List.mem_of_getElem? (i := 837) (by decide +kernel), rfl⟩
theorem wm_L_47 : Cond.methodLink RL 47 yX9_next ∈ lw_g := List.mem_filter.mpr ⟨List.mem_of_getElem? (i := 838) (by decide +kernel), rfl⟩
theorem wi_X9_next : Cond.instanceMethod yX9_next ∈ lw_g := List.mem_filter.mpr ⟨List.mem_of_getElem? (i := 839) (by decide +kernel), rfl⟩
theorem wl_X9_next : Cond.selects RX9 yX9_next yX9_next ∈ lw_g := List.mem_filter.mpr ⟨List.mem_of_getElem? (i := 840) (by decide +kernel), rfl⟩
theorem wc_X9_next : Cond.code yX9_next cX9_next 3 (some .int) ∈ lw_g := List.mem_filter.mpr ⟨List.mem_of_getElem? (i := 841) (by decide +kernel), rfl⟩
theorem wm_X9_119 : Cond.methodLink RX9 119 yX9_nextTo ∈ lw_g := List.mem_filter.mpr ⟨List.mem_of_getElem? (i := 842) (by decide +kernel), rfl⟩
theorem wi_X9_nextTo : Cond.instanceMethod yX9_nextTo ∈ lw_g := List.mem_filter.mpr ⟨List.mem_of_getElem? (i := 844) (by decide +kernel), rfl⟩
theorem wc_X9_nextTo : Cond.code yX9_nextTo cX9_nextTo 7 (some .int) ∈ lw_g := List.mem_filter.mpr ⟨List.mem_of_getElem? (i := 845) (by decide +kernel), rfl⟩
theorem wm_L_51 : Cond.methodLink RL 51 yX9_amount ∈ lw_g := List.mem_filter.mpr ⟨List.mem_of_getElem? (i := 846) (by decide +kernel), rfl⟩
theorem wi_X9_amount : Cond.instanceMethod yX9_amount ∈ lw_g := List.mem_filter.mpr ⟨List.mem_of_getElem? (i := 847) (by decide +kernel), rfl⟩
theorem wl_X9_amount : Cond.selects RX9 yX9_amount yX9_amount ∈ lw_g := List.mem_filter.mpr ⟨List.mem_of_getElem? (i := 848) (by decide +kernel), rfl⟩
theorem wc_X9_amount : Cond.code yX9_amount cX9_amount 3 (some .int) ∈ lw_g := List.mem_filter.mpr ⟨List.mem_of_getElem? (i := 849) (by decide +kernel), rfl⟩
theorem wm_L_56 : Cond.methodLink RL 56 yX9_sum ∈ lw_g := List.mem_filter.mpr ⟨List.mem_of_getElem? (i := 850) (by decide +kernel), rfl⟩
theorem wi_X9_sum : Cond.instanceMethod yX9_sum ∈ lw_g := List.mem_filter.mpr ⟨List.mem_of_getElem? (i := 851) (by decide +kernel), rfl⟩
theorem wl_X9_sum : Cond.selects RX9 yX9_sum yX9_sum ∈ lw_g := List.mem_filter.mpr ⟨List.mem_of_getElem? (i := 852) (by decide +kernel), rfl⟩
theorem wc_X9_sum : Cond.code yX9_sum cX9_sum 2 (some .int) ∈ lw_g := List.mem_filter.mpr ⟨List.mem_of_getElem? (i := 853) (by decide +kernel), rfl⟩
theorem wm_X9_123 : Cond.methodLink RX9 123 yX9_sumOf ∈ lw_g := List.mem_filter.mpr ⟨List.mem_of_getElem? (i := 854) (by decide +kernel), rfl⟩
theorem wi_X9_sumOf : Cond.instanceMethod yX9_sumOf ∈ lw_g := List.mem_filter.mpr ⟨List.mem_of_getElem? (i := 856) (by decide +kernel), rfl⟩
theorem wc_X9_sumOf : Cond.code yX9_sumOf cX9_sumOf 4 (some .int) ∈ lw_g := List.mem_filter.mpr ⟨List.mem_of_getElem? (i := 857) (by decide +kernel), rfl⟩
theorem wm_L_60 : Cond.methodLink RL 60 yX9_least ∈ lw_g := List.mem_filter.mpr ⟨List.mem_of_getElem? (i := 858) (by decide +kernel), rfl⟩
theorem wi_X9_least : Cond.instanceMethod yX9_least ∈ lw_g := List.mem_filter.mpr ⟨List.mem_of_getElem? (i := 859) (by decide +kernel), rfl⟩
theorem wl_X9_least : Cond.selects RX9 yX9_least yX9_least ∈ lw_g := List.mem_filter.mpr ⟨List.mem_of_getElem? (i := 860) (by decide +kernel), rfl⟩
theorem wc_X9_least : Cond.code yX9_least cX9_least 4 (some .int) ∈ lw_g := List.mem_filter.mpr ⟨List.mem_of_getElem? (i := 861) (by decide +kernel), rfl⟩
theorem wm_X9_146 : Cond.methodLink RX9 146 yX9_against ∈ lw_g := List.mem_filter.mpr ⟨List.mem_of_getElem? (i := 862) (by decide +kernel), rfl⟩
theorem wi_X9_against : Cond.instanceMethod yX9_against ∈ lw_g := List.mem_filter.mpr ⟨List.mem_of_getElem? (i := 864) (by decide +kernel), rfl⟩
theorem wc_X9_against : Cond.code yX9_against cX9_against 3 (some .int) ∈ lw_g := List.mem_filter.mpr ⟨List.mem_of_getElem? (i := 865) (by decide +kernel), rfl⟩
theorem wm_X9_142 : Cond.methodLink RX9 142 yX9_isJoined ∈ lw_g := List.mem_filter.mpr ⟨List.mem_of_getElem? (i := 866) (by decide +kernel), rfl⟩
theorem wi_X9_isJoined : Cond.instanceMethod yX9_isJoined ∈ lw_g := List.mem_filter.mpr ⟨List.mem_of_getElem? (i := 868) (by decide +kernel), rfl⟩
theorem wc_X9_isJoined : Cond.code yX9_isJoined cX9_isJoined 3 (some .boolean) ∈ lw_g := List.mem_filter.mpr ⟨List.mem_of_getElem? (i := 869) (by decide +kernel), rfl⟩
theorem wm_X9_149 : Cond.methodLink RX9 149 yX9_solve ∈ lw_g := List.mem_filter.mpr ⟨List.mem_of_getElem? (i := 870) (by decide +kernel), rfl⟩
theorem wi_X9_solve : Cond.instanceMethod yX9_solve ∈ lw_g := List.mem_filter.mpr ⟨List.mem_of_getElem? (i := 872) (by decide +kernel), rfl⟩
theorem wc_X9_solve : Cond.code yX9_solve cX9_solve 6 (some .int) ∈ lw_g := List.mem_filter.mpr ⟨List.mem_of_getElem? (i := 873) (by decide +kernel), rfl⟩
theorem wm_X9_127 : Cond.methodLink RX9 127 yX9_begin ∈ lw_g := List.mem_filter.mpr ⟨List.mem_of_getElem? (i := 874) (by decide +kernel), rfl⟩
theorem wi_X9_begin : Cond.instanceMethod yX9_begin ∈ lw_g := List.mem_filter.mpr ⟨List.mem_of_getElem? (i := 876) (by decide +kernel), rfl⟩
theorem wc_X9_begin : Cond.code yX9_begin cX9_begin 4 none ∈ lw_g := List.mem_filter.mpr ⟨List.mem_of_getElem? (i := 877) (by decide +kernel), rfl⟩
theorem wm_X9_131 : Cond.methodLink RX9 131 yX9_findWay ∈ lw_g := List.mem_filter.mpr ⟨List.mem_of_getElem? (i := 878) (by decide +kernel), rfl⟩
theorem wi_X9_findWay : Cond.instanceMethod yX9_findWay ∈ lw_g := List.mem_filter.mpr ⟨List.mem_of_getElem? (i := 880) (by decide +kernel), rfl⟩
theorem wc_X9_findWay : Cond.code yX9_findWay cX9_findWay 5 (some .int) ∈ lw_g := List.mem_filter.mpr ⟨List.mem_of_getElem? (i := 881) (by decide +kernel), rfl⟩
theorem wm_X9_135 : Cond.methodLink RX9 135 yX9_go ∈ lw_g := List.mem_filter.mpr ⟨List.mem_of_getElem? (i := 882) (by decide +kernel), rfl⟩
theorem wi_X9_go : Cond.instanceMethod yX9_go ∈ lw_g := List.mem_filter.mpr ⟨List.mem_of_getElem? (i := 884) (by decide +kernel), rfl⟩
theorem wc_X9_go : Cond.code yX9_go cX9_go 6 (some .int) ∈ lw_g := List.mem_filter.mpr ⟨List.mem_of_getElem? (i := 885) (by decide +kernel), rfl⟩
theorem wm_X9_138 : Cond.methodLink RX9 138 yX9_costOf ∈ lw_g := List.mem_filter.mpr ⟨List.mem_of_getElem? (i := 886) (by decide +kernel), rfl⟩
theorem wi_X9_costOf : Cond.instanceMethod yX9_costOf ∈ lw_g := List.mem_filter.mpr ⟨List.mem_of_getElem? (i := 888) (by decide +kernel), rfl⟩
theorem wc_X9_costOf : Cond.code yX9_costOf cX9_costOf 5 (some .int) ∈ lw_g := List.mem_filter.mpr ⟨List.mem_of_getElem? (i := 889) (by decide +kernel), rfl⟩
theorem wm_L_65 : Cond.methodLink RL 65 yX9_plan ∈ lw_g := List.mem_filter.mpr ⟨List.mem_of_getElem? (i := 890) (by decide +kernel), rfl⟩
theorem wi_X9_plan : Cond.instanceMethod yX9_plan ∈ lw_g := List.mem_filter.mpr ⟨List.mem_of_getElem? (i := 891) (by decide +kernel), rfl⟩
theorem wl_X9_plan : Cond.selects RX9 yX9_plan yX9_plan ∈ lw_g := List.mem_filter.mpr ⟨List.mem_of_getElem? (i := 892) (by decide +kernel), rfl⟩
theorem wc_X9_plan : Cond.code yX9_plan cX9_plan 6 (some .int) ∈ lw_g := List.mem_filter.mpr ⟨List.mem_of_getElem? (i := 893) (by decide +kernel), rfl⟩
theorem wm_X9_169 : Cond.methodLink RX9 169 yX9_findPlan ∈ lw_g := List.mem_filter.mpr ⟨List.mem_of_getElem? (i := 894) (by decide +kernel), rfl⟩
theorem wi_X9_findPlan : Cond.instanceMethod yX9_findPlan ∈ lw_g := List.mem_filter.mpr ⟨List.mem_of_getElem? (i := 896) (by decide +kernel), rfl⟩
theorem wc_X9_findPlan : Cond.code yX9_findPlan cX9_findPlan 6 none ∈ lw_g := List.mem_filter.mpr ⟨List.mem_of_getElem? (i := 897) (by decide +kernel), rfl⟩
theorem wm_X9_157 : Cond.methodLink RX9 157 yX9_findHeights ∈ lw_g := List.mem_filter.mpr ⟨List.mem_of_getElem? (i := 898) (by decide +kernel), rfl⟩
theorem wi_X9_findHeights : Cond.instanceMethod yX9_findHeights ∈ lw_g := List.mem_filter.mpr ⟨List.mem_of_getElem? (i := 900) (by decide +kernel), rfl⟩
theorem wc_X9_findHeights : Cond.code yX9_findHeights cX9_findHeights 5 none ∈ lw_g := List.mem_filter.mpr ⟨List.mem_of_getElem? (i := 901) (by decide +kernel), rfl⟩
theorem wm_X9_160 : Cond.methodLink RX9 160 yX9_loosen ∈ lw_g := List.mem_filter.mpr ⟨List.mem_of_getElem? (i := 902) (by decide +kernel), rfl⟩
theorem wi_X9_loosen : Cond.instanceMethod yX9_loosen ∈ lw_g := List.mem_filter.mpr ⟨List.mem_of_getElem? (i := 904) (by decide +kernel), rfl⟩
theorem wc_X9_loosen : Cond.code yX9_loosen cX9_loosen 2 none ∈ lw_g := List.mem_filter.mpr ⟨List.mem_of_getElem? (i := 905) (by decide +kernel), rfl⟩
theorem wm_X9_153 : Cond.methodLink RX9 153 yX9_isTight ∈ lw_g := List.mem_filter.mpr ⟨List.mem_of_getElem? (i := 906) (by decide +kernel), rfl⟩
theorem wi_X9_isTight : Cond.instanceMethod yX9_isTight ∈ lw_g := List.mem_filter.mpr ⟨List.mem_of_getElem? (i := 908) (by decide +kernel), rfl⟩
theorem wc_X9_isTight : Cond.code yX9_isTight cX9_isTight 3 (some .boolean) ∈ lw_g := List.mem_filter.mpr ⟨List.mem_of_getElem? (i := 909) (by decide +kernel), rfl⟩
theorem wm_X9_163 : Cond.methodLink RX9 163 yX9_canTurn ∈ lw_g := List.mem_filter.mpr ⟨List.mem_of_getElem? (i := 910) (by decide +kernel), rfl⟩
theorem wi_X9_canTurn : Cond.instanceMethod yX9_canTurn ∈ lw_g := List.mem_filter.mpr ⟨List.mem_of_getElem? (i := 912) (by decide +kernel), rfl⟩
theorem wc_X9_canTurn : Cond.code yX9_canTurn cX9_canTurn 10 (some .boolean) ∈ lw_g := List.mem_filter.mpr ⟨List.mem_of_getElem? (i := 913) (by decide +kernel), rfl⟩
theorem wm_X9_166 : Cond.methodLink RX9 166 yX9_turn ∈ lw_g := List.mem_filter.mpr ⟨List.mem_of_getElem? (i := 914) (by decide +kernel), rfl⟩
theorem wi_X9_turn : Cond.instanceMethod yX9_turn ∈ lw_g := List.mem_filter.mpr ⟨List.mem_of_getElem? (i := 916) (by decide +kernel), rfl⟩
theorem wc_X9_turn : Cond.code yX9_turn cX9_turn 6 none ∈ lw_g := List.mem_filter.mpr ⟨List.mem_of_getElem? (i := 917) (by decide +kernel), rfl⟩
theorem wm_L_69 : Cond.methodLink RL 69 yX9_alone ∈ lw_g := List.mem_filter.mpr ⟨List.mem_of_getElem? (i := 918) (by decide +kernel), rfl⟩
theorem wi_X9_alone : Cond.instanceMethod yX9_alone ∈ lw_g := List.mem_filter.mpr ⟨List.mem_of_getElem? (i := 919) (by decide +kernel), rfl⟩
theorem wl_X9_alone : Cond.selects RX9 yX9_alone yX9_alone ∈ lw_g := List.mem_filter.mpr ⟨List.mem_of_getElem? (i := 920) (by decide +kernel), rfl⟩
theorem wc_X9_alone : Cond.code yX9_alone cX9_alone 6 (some .int) ∈ lw_g := List.mem_filter.mpr ⟨List.mem_of_getElem? (i := 921) (by decide +kernel), rfl⟩
theorem wm_L_73 : Cond.methodLink RL 73 yX9_height ∈ lw_g := List.mem_filter.mpr ⟨List.mem_of_getElem? (i := 922) (by decide +kernel), rfl⟩
theorem wi_X9_height : Cond.instanceMethod yX9_height ∈ lw_g := List.mem_filter.mpr ⟨List.mem_of_getElem? (i := 923) (by decide +kernel), rfl⟩
theorem wl_X9_height : Cond.selects RX9 yX9_height yX9_height ∈ lw_g := List.mem_filter.mpr ⟨List.mem_of_getElem? (i := 924) (by decide +kernel), rfl⟩
theorem wc_X9_height : Cond.code yX9_height cX9_height 5 (some .int) ∈ lw_g := List.mem_filter.mpr ⟨List.mem_of_getElem? (i := 925) (by decide +kernel), rfl⟩
theorem wk_X9_172 : Cond.constant RX9 172 (-2147483648) ∈ lw_g := List.mem_filter.mpr ⟨List.mem_of_getElem? (i := 926) (by decide +kernel), rfl⟩
theorem wm_L_77 : Cond.methodLink RL 77 yX9_load ∈ lw_g := List.mem_filter.mpr ⟨List.mem_of_getElem? (i := 927) (by decide +kernel), rfl⟩
theorem wi_X9_load : Cond.instanceMethod yX9_load ∈ lw_g := List.mem_filter.mpr ⟨List.mem_of_getElem? (i := 928) (by decide +kernel), rfl⟩
theorem wl_X9_load : Cond.selects RX9 yX9_load yX9_load ∈ lw_g := List.mem_filter.mpr ⟨List.mem_of_getElem? (i := 929) (by decide +kernel), rfl⟩
theorem wc_X9_load : Cond.code yX9_load cX9_load 11 (some .int) ∈ lw_g := List.mem_filter.mpr ⟨List.mem_of_getElem? (i := 930) (by decide +kernel), rfl⟩
theorem wm_L_81 : Cond.methodLink RL 81 yX9_far ∈ lw_g := List.mem_filter.mpr ⟨List.mem_of_getElem? (i := 931) (by decide +kernel), rfl⟩
theorem wi_X9_far : Cond.instanceMethod yX9_far ∈ lw_g := List.mem_filter.mpr ⟨List.mem_of_getElem? (i := 932) (by decide +kernel), rfl⟩
theorem wl_X9_far : Cond.selects RX9 yX9_far yX9_far ∈ lw_g := List.mem_filter.mpr ⟨List.mem_of_getElem? (i := 933) (by decide +kernel), rfl⟩
theorem wc_X9_far : Cond.code yX9_far cX9_far 4 (some .int) ∈ lw_g := List.mem_filter.mpr ⟨List.mem_of_getElem? (i := 934) (by decide +kernel), rfl⟩
theorem wm_X9_179 : Cond.methodLink RX9 179 yX9_findFarthest ∈ lw_g := List.mem_filter.mpr ⟨List.mem_of_getElem? (i := 935) (by decide +kernel), rfl⟩
theorem wi_X9_findFarthest : Cond.instanceMethod yX9_findFarthest ∈ lw_g := List.mem_filter.mpr ⟨List.mem_of_getElem? (i := 937) (by decide +kernel), rfl⟩
theorem wc_X9_findFarthest : Cond.code yX9_findFarthest cX9_findFarthest 8 (some .int) ∈ lw_g := List.mem_filter.mpr ⟨List.mem_of_getElem? (i := 938) (by decide +kernel), rfl⟩
theorem wm_X9_176 : Cond.methodLink RX9 176 yX9_fits ∈ lw_g := List.mem_filter.mpr ⟨List.mem_of_getElem? (i := 939) (by decide +kernel), rfl⟩
theorem wi_X9_fits : Cond.instanceMethod yX9_fits ∈ lw_g := List.mem_filter.mpr ⟨List.mem_of_getElem? (i := 941) (by decide +kernel), rfl⟩
theorem wc_X9_fits : Cond.code yX9_fits cX9_fits 7 (some .boolean) ∈ lw_g := List.mem_filter.mpr ⟨List.mem_of_getElem? (i := 942) (by decide +kernel), rfl⟩
theorem wm_X9_173 : Cond.methodLink RX9 173 yX9_reach ∈ lw_g := List.mem_filter.mpr ⟨List.mem_of_getElem? (i := 943) (by decide +kernel), rfl⟩
theorem wi_X9_reach : Cond.instanceMethod yX9_reach ∈ lw_g := List.mem_filter.mpr ⟨List.mem_of_getElem? (i := 945) (by decide +kernel), rfl⟩
theorem wc_X9_reach : Cond.code yX9_reach cX9_reach 8 (some .int) ∈ lw_g := List.mem_filter.mpr ⟨List.mem_of_getElem? (i := 946) (by decide +kernel), rfl⟩
theorem wm_L_85 : Cond.methodLink RL 85 yX9_shown ∈ lw_g := List.mem_filter.mpr ⟨List.mem_of_getElem? (i := 947) (by decide +kernel), rfl⟩
theorem wi_X9_shown : Cond.instanceMethod yX9_shown ∈ lw_g := List.mem_filter.mpr ⟨List.mem_of_getElem? (i := 948) (by decide +kernel), rfl⟩
theorem wl_X9_shown : Cond.selects RX9 yX9_shown yX9_shown ∈ lw_g := List.mem_filter.mpr ⟨List.mem_of_getElem? (i := 949) (by decide +kernel), rfl⟩
theorem wc_X9_shown : Cond.code yX9_shown cX9_shown 7 (some .int) ∈ lw_g := List.mem_filter.mpr ⟨List.mem_of_getElem? (i := 950) (by decide +kernel), rfl⟩
theorem wm_L_89 : Cond.methodLink RL 89 yX9_some ∈ lw_g := List.mem_filter.mpr ⟨List.mem_of_getElem? (i := 951) (by decide +kernel), rfl⟩
theorem wi_X9_some : Cond.instanceMethod yX9_some ∈ lw_g := List.mem_filter.mpr ⟨List.mem_of_getElem? (i := 952) (by decide +kernel), rfl⟩
theorem wl_X9_some : Cond.selects RX9 yX9_some yX9_some ∈ lw_g := List.mem_filter.mpr ⟨List.mem_of_getElem? (i := 953) (by decide +kernel), rfl⟩
theorem wc_X9_some : Cond.code yX9_some cX9_some 6 (some .int) ∈ lw_g := List.mem_filter.mpr ⟨List.mem_of_getElem? (i := 954) (by decide +kernel), rfl⟩
theorem wm_L_93 : Cond.methodLink RL 93 yX9_gated ∈ lw_g := List.mem_filter.mpr ⟨List.mem_of_getElem? (i := 955) (by decide +kernel), rfl⟩
theorem wi_X9_gated : Cond.instanceMethod yX9_gated ∈ lw_g := List.mem_filter.mpr ⟨List.mem_of_getElem? (i := 956) (by decide +kernel), rfl⟩
theorem wl_X9_gated : Cond.selects RX9 yX9_gated yX9_gated ∈ lw_g := List.mem_filter.mpr ⟨List.mem_of_getElem? (i := 957) (by decide +kernel), rfl⟩
theorem wc_X9_gated : Cond.code yX9_gated cX9_gated 8 (some .int) ∈ lw_g := List.mem_filter.mpr ⟨List.mem_of_getElem? (i := 958) (by decide +kernel), rfl⟩
theorem wm_X9_185 : Cond.methodLink RX9 185 yX9_arc ∈ lw_g := List.mem_filter.mpr ⟨List.mem_of_getElem? (i := 959) (by decide +kernel), rfl⟩
theorem wi_X9_arc : Cond.instanceMethod yX9_arc ∈ lw_g := List.mem_filter.mpr ⟨List.mem_of_getElem? (i := 961) (by decide +kernel), rfl⟩
theorem wc_X9_arc : Cond.code yX9_arc cX9_arc 5 none ∈ lw_g := List.mem_filter.mpr ⟨List.mem_of_getElem? (i := 962) (by decide +kernel), rfl⟩
theorem wm_X9_189 : Cond.methodLink RX9 189 yX9_hasNetWay ∈ lw_g := List.mem_filter.mpr ⟨List.mem_of_getElem? (i := 963) (by decide +kernel), rfl⟩
theorem wi_X9_hasNetWay : Cond.instanceMethod yX9_hasNetWay ∈ lw_g := List.mem_filter.mpr ⟨List.mem_of_getElem? (i := 965) (by decide +kernel), rfl⟩
theorem wc_X9_hasNetWay : Cond.code yX9_hasNetWay cX9_hasNetWay 4 (some .boolean) ∈ lw_g := List.mem_filter.mpr ⟨List.mem_of_getElem? (i := 966) (by decide +kernel), rfl⟩
theorem wm_X9_192 : Cond.methodLink RX9 192 yX9_goNet ∈ lw_g := List.mem_filter.mpr ⟨List.mem_of_getElem? (i := 967) (by decide +kernel), rfl⟩
theorem wi_X9_goNet : Cond.instanceMethod yX9_goNet ∈ lw_g := List.mem_filter.mpr ⟨List.mem_of_getElem? (i := 969) (by decide +kernel), rfl⟩
theorem wc_X9_goNet : Cond.code yX9_goNet cX9_goNet 4 (some .int) ∈ lw_g := List.mem_filter.mpr ⟨List.mem_of_getElem? (i := 970) (by decide +kernel), rfl⟩
theorem wm_L_97 : Cond.methodLink RL 97 yX9_draft ∈ lw_g := List.mem_filter.mpr ⟨List.mem_of_getElem? (i := 971) (by decide +kernel), rfl⟩
theorem wi_X9_draft : Cond.instanceMethod yX9_draft ∈ lw_g := List.mem_filter.mpr ⟨List.mem_of_getElem? (i := 972) (by decide +kernel), rfl⟩
theorem wl_X9_draft : Cond.selects RX9 yX9_draft yX9_draft ∈ lw_g := List.mem_filter.mpr ⟨List.mem_of_getElem? (i := 973) (by decide +kernel), rfl⟩
theorem wc_X9_draft : Cond.code yX9_draft cX9_draft 5 (some .int) ∈ lw_g := List.mem_filter.mpr ⟨List.mem_of_getElem? (i := 974) (by decide +kernel), rfl⟩
theorem wm_L_101 : Cond.methodLink RL 101 yX9_clear ∈ lw_g := List.mem_filter.mpr ⟨List.mem_of_getElem? (i := 975) (by decide +kernel), rfl⟩
theorem wi_X9_clear : Cond.instanceMethod yX9_clear ∈ lw_g := List.mem_filter.mpr ⟨List.mem_of_getElem? (i := 976) (by decide +kernel), rfl⟩
theorem wl_X9_clear : Cond.selects RX9 yX9_clear yX9_clear ∈ lw_g := List.mem_filter.mpr ⟨List.mem_of_getElem? (i := 977) (by decide +kernel), rfl⟩
theorem wc_X9_clear : Cond.code yX9_clear cX9_clear 3 (some .int) ∈ lw_g := List.mem_filter.mpr ⟨List.mem_of_getElem? (i := 978) (by decide +kernel), rfl⟩
theorem wm_L_105 : Cond.methodLink RL 105 yX9_copy ∈ lw_g := List.mem_filter.mpr ⟨List.mem_of_getElem? (i := 979) (by decide +kernel), rfl⟩
theorem wi_X9_copy : Cond.instanceMethod yX9_copy ∈ lw_g := List.mem_filter.mpr ⟨List.mem_of_getElem? (i := 980) (by decide +kernel), rfl⟩
theorem wl_X9_copy : Cond.selects RX9 yX9_copy yX9_copy ∈ lw_g := List.mem_filter.mpr ⟨List.mem_of_getElem? (i := 981) (by decide +kernel), rfl⟩
theorem wc_X9_copy : Cond.code yX9_copy cX9_copy 6 (some .int) ∈ lw_g := List.mem_filter.mpr ⟨List.mem_of_getElem? (i := 982) (by decide +kernel), rfl⟩
theorem wm_L_109 : Cond.methodLink RL 109 yX9_judge ∈ lw_g := List.mem_filter.mpr ⟨List.mem_of_getElem? (i := 983) (by decide +kernel), rfl⟩
theorem wi_X9_judge : Cond.instanceMethod yX9_judge ∈ lw_g := List.mem_filter.mpr ⟨List.mem_of_getElem? (i := 984) (by decide +kernel), rfl⟩
theorem wl_X9_judge : Cond.selects RX9 yX9_judge yX9_judge ∈ lw_g := List.mem_filter.mpr ⟨List.mem_of_getElem? (i := 985) (by decide +kernel), rfl⟩
theorem wc_X9_judge : Cond.code yX9_judge cX9_judge 6 (some .int) ∈ lw_g := List.mem_filter.mpr ⟨List.mem_of_getElem? (i := 986) (by decide +kernel), rfl⟩
theorem wm_X9_195 : Cond.methodLink RX9 195 yX9_drafted ∈ lw_g := List.mem_filter.mpr ⟨List.mem_of_getElem? (i := 987) (by decide +kernel), rfl⟩
theorem wi_X9_drafted : Cond.instanceMethod yX9_drafted ∈ lw_g := List.mem_filter.mpr ⟨List.mem_of_getElem? (i := 989) (by decide +kernel), rfl⟩
theorem wc_X9_drafted : Cond.code yX9_drafted cX9_drafted 5 (some .int) ∈ lw_g := List.mem_filter.mpr ⟨List.mem_of_getElem? (i := 990) (by decide +kernel), rfl⟩
theorem wm_L_113 : Cond.methodLink RL 113 yX9_beside ∈ lw_g := List.mem_filter.mpr ⟨List.mem_of_getElem? (i := 991) (by decide +kernel), rfl⟩
theorem wi_X9_beside : Cond.instanceMethod yX9_beside ∈ lw_g := List.mem_filter.mpr ⟨List.mem_of_getElem? (i := 992) (by decide +kernel), rfl⟩
theorem wl_X9_beside : Cond.selects RX9 yX9_beside yX9_beside ∈ lw_g := List.mem_filter.mpr ⟨List.mem_of_getElem? (i := 993) (by decide +kernel), rfl⟩
theorem wc_X9_beside : Cond.code yX9_beside cX9_beside 1 (some .int) ∈ lw_g := List.mem_filter.mpr ⟨List.mem_of_getElem? (i := 994) (by decide +kernel), rfl⟩
theorem wm_L_117 : Cond.methodLink RL 117 yX9_count ∈ lw_g := List.mem_filter.mpr ⟨List.mem_of_getElem? (i := 995) (by decide +kernel), rfl⟩
theorem wi_X9_count : Cond.instanceMethod yX9_count ∈ lw_g := List.mem_filter.mpr ⟨List.mem_of_getElem? (i := 996) (by decide +kernel), rfl⟩
theorem wl_X9_count : Cond.selects RX9 yX9_count yX9_count ∈ lw_g := List.mem_filter.mpr ⟨List.mem_of_getElem? (i := 997) (by decide +kernel), rfl⟩
theorem wc_X9_count : Cond.code yX9_count cX9_count 4 (some .int) ∈ lw_g := List.mem_filter.mpr ⟨List.mem_of_getElem? (i := 998) (by decide +kernel), rfl⟩
theorem wv_X0 : ∀ w ∈ wsX00, w ∈ lw_tbl := by decide +kernel
theorem wu_X0 : ∀ w ∈ wsX00, w ∈ lw_g := fun w h => List.mem_filter.mpr ⟨wv_X0 w h, List.all_eq_true.mp (show wsX00.all goodWord = true by decide +kernel) w h⟩
theorem wv_X1 : ∀ w ∈ wsX10, w ∈ lw_tbl := by decide +kernel
theorem wu_X1 : ∀ w ∈ wsX10, w ∈ lw_g := fun w h => List.mem_filter.mpr ⟨wv_X1 w h, List.all_eq_true.mp (show wsX10.all goodWord = true by decide +kernel) w h⟩
theorem wv_X2 : ∀ w ∈ wsX20, w ∈ lw_tbl := by decide +kernel
theorem wu_X2 : ∀ w ∈ wsX20, w ∈ lw_g := fun w h => List.mem_filter.mpr ⟨wv_X2 w h, List.all_eq_true.mp (show wsX20.all goodWord = true by decide +kernel) w h⟩
theorem wv_X3 : ∀ w ∈ wsX30, w ∈ lw_tbl := by decide +kernel
theorem wu_X3 : ∀ w ∈ wsX30, w ∈ lw_g := fun w h => List.mem_filter.mpr ⟨wv_X3 w h, List.all_eq_true.mp (show wsX30.all goodWord = true by decide +kernel) w h⟩
theorem wv_X4 : ∀ w ∈ wsX40, w ∈ lw_tbl := by decide +kernel
theorem wu_X4 : ∀ w ∈ wsX40, w ∈ lw_g := fun w h => List.mem_filter.mpr ⟨wv_X4 w h, List.all_eq_true.mp (show wsX40.all goodWord = true by decide +kernel) w h⟩
theorem wv_X5 : ∀ w ∈ wsX50, w ∈ lw_tbl := by decide +kernel
theorem wu_X5 : ∀ w ∈ wsX50, w ∈ lw_g := fun w h => List.mem_filter.mpr ⟨wv_X5 w h, List.all_eq_true.mp (show wsX50.all goodWord = true by decide +kernel) w h⟩
theorem wv_X6 : ∀ w ∈ wsX60, w ∈ lw_tbl := by decide +kernel
theorem wu_X6 : ∀ w ∈ wsX60, w ∈ lw_g := fun w h => List.mem_filter.mpr ⟨wv_X6 w h, List.all_eq_true.mp (show wsX60.all goodWord = true by decide +kernel) w h⟩
theorem wv_X7 : ∀ w ∈ wsX70, w ∈ lw_tbl := by decide +kernel
theorem wu_X7 : ∀ w ∈ wsX70, w ∈ lw_g := fun w h => List.mem_filter.mpr ⟨wv_X7 w h, List.all_eq_true.mp (show wsX70.all goodWord = true by decide +kernel) w h⟩
theorem wv_X8 : ∀ w ∈ wsX80, w ∈ lw_tbl := by decide +kernel
theorem wu_X8 : ∀ w ∈ wsX80, w ∈ lw_g := fun w h => List.mem_filter.mpr ⟨wv_X8 w h, List.all_eq_true.mp (show wsX80.all goodWord = true by decide +kernel) w h⟩
theorem wv_X9 : ∀ w ∈ wsX90, w ∈ lw_tbl := by decide +kernel
theorem wu_X9 : ∀ w ∈ wsX90, w ∈ lw_g := fun w h => List.mem_filter.mpr ⟨wv_X9 w h, List.all_eq_true.mp (show wsX90.all goodWord = true by decide +kernel) w h⟩
theorem wd_X0_init : yX0_init.cls ≠ "java/lang/invoke/MethodHandle" ∧ yX0_init.cls ≠ "java/lang/invoke/VarHandle" ∧ (parseMethodDescriptor yX0_init.desc).map (fun d => d.parameters.length) = some 0 := by decide +kernel
theorem wd_X0_keep : yX0_keep.cls = RX0 ∧ yX0_keep.cls ≠ "java/lang/invoke/MethodHandle" ∧ yX0_keep.cls ≠ "java/lang/invoke/VarHandle" ∧ (parseMethodDescriptor yX0_keep.desc).map (fun d => d.parameters.length) = some 4 := by decide +kernel
theorem wd_X0_dropLatest : yX0_dropLatest.cls = RX0 ∧ yX0_dropLatest.cls ≠ "java/lang/invoke/MethodHandle" ∧ yX0_dropLatest.cls ≠ "java/lang/invoke/VarHandle" ∧ (parseMethodDescriptor yX0_dropLatest.desc).map (fun d => d.parameters.length) = some 0 := by decide +kernel
theorem wd_X1_init : yX1_init.cls ≠ "java/lang/invoke/MethodHandle" ∧ yX1_init.cls ≠ "java/lang/invoke/VarHandle" ∧ (parseMethodDescriptor yX1_init.desc).map (fun d => d.parameters.length) = some 0 := by decide +kernel
theorem wd_X1_wipe : yX1_wipe.cls = RX1 ∧ yX1_wipe.cls ≠ "java/lang/invoke/MethodHandle" ∧ yX1_wipe.cls ≠ "java/lang/invoke/VarHandle" ∧ (parseMethodDescriptor yX1_wipe.desc).map (fun d => d.parameters.length) = some 0 := by decide +kernel
theorem wd_X1_wipePlace : yX1_wipePlace.cls = RX1 ∧ yX1_wipePlace.cls ≠ "java/lang/invoke/MethodHandle" ∧ yX1_wipePlace.cls ≠ "java/lang/invoke/VarHandle" ∧ (parseMethodDescriptor yX1_wipePlace.desc).map (fun d => d.parameters.length) = some 1 := by decide +kernel
theorem wd_X1_others : yX1_others.cls = RX1 ∧ yX1_others.cls ≠ "java/lang/invoke/MethodHandle" ∧ yX1_others.cls ≠ "java/lang/invoke/VarHandle" ∧ (parseMethodDescriptor yX1_others.desc).map (fun d => d.parameters.length) = some 0 := by decide +kernel
theorem wd_X1_firstWrongFrom : yX1_firstWrongFrom.cls = RX1 ∧ yX1_firstWrongFrom.cls ≠ "java/lang/invoke/MethodHandle" ∧ yX1_firstWrongFrom.cls ≠ "java/lang/invoke/VarHandle" ∧ (parseMethodDescriptor yX1_firstWrongFrom.desc).map (fun d => d.parameters.length) = some 2 := by decide +kernel
theorem wd_X1_firstWrongTo : yX1_firstWrongTo.cls = RX1 ∧ yX1_firstWrongTo.cls ≠ "java/lang/invoke/MethodHandle" ∧ yX1_firstWrongTo.cls ≠ "java/lang/invoke/VarHandle" ∧ (parseMethodDescriptor yX1_firstWrongTo.desc).map (fun d => d.parameters.length) = some 2 := by decide +kernel
theorem wd_X1_cost : yX1_cost.cls = RX1 ∧ yX1_cost.cls ≠ "java/lang/invoke/MethodHandle" ∧ yX1_cost.cls ≠ "java/lang/invoke/VarHandle" ∧ (parseMethodDescriptor yX1_cost.desc).map (fun d => d.parameters.length) = some 1 := by decide +kernel
theorem wd_X2_init : yX2_init.cls ≠ "java/lang/invoke/MethodHandle" ∧ yX2_init.cls ≠ "java/lang/invoke/VarHandle" ∧ (parseMethodDescriptor yX2_init.desc).map (fun d => d.parameters.length) = some 0 := by decide +kernel
theorem wd_X2_has : yX2_has.cls = RX2 ∧ yX2_has.cls ≠ "java/lang/invoke/MethodHandle" ∧ yX2_has.cls ≠ "java/lang/invoke/VarHandle" ∧ (parseMethodDescriptor yX2_has.desc).map (fun d => d.parameters.length) = some 1 := by decide +kernel
theorem wd_X2_total : yX2_total.cls = RX2 ∧ yX2_total.cls ≠ "java/lang/invoke/MethodHandle" ∧ yX2_total.cls ≠ "java/lang/invoke/VarHandle" ∧ (parseMethodDescriptor yX2_total.desc).map (fun d => d.parameters.length) = some 1 := by decide +kernel
theorem wd_X3_init : yX3_init.cls ≠ "java/lang/invoke/MethodHandle" ∧ yX3_init.cls ≠ "java/lang/invoke/VarHandle" ∧ (parseMethodDescriptor yX3_init.desc).map (fun d => d.parameters.length) = some 0 := by decide +kernel
theorem wd_X3_has : yX3_has.cls = RX3 ∧ yX3_has.cls ≠ "java/lang/invoke/MethodHandle" ∧ yX3_has.cls ≠ "java/lang/invoke/VarHandle" ∧ (parseMethodDescriptor yX3_has.desc).map (fun d => d.parameters.length) = some 1 := by decide +kernel
theorem wd_X3_addPlace : yX3_addPlace.cls = RX3 ∧ yX3_addPlace.cls ≠ "java/lang/invoke/MethodHandle" ∧ yX3_addPlace.cls ≠ "java/lang/invoke/VarHandle" ∧ (parseMethodDescriptor yX3_addPlace.desc).map (fun d => d.parameters.length) = some 0 := by decide +kernel
theorem wd_X3_dropPlace : yX3_dropPlace.cls = RX3 ∧ yX3_dropPlace.cls ≠ "java/lang/invoke/MethodHandle" ∧ yX3_dropPlace.cls ≠ "java/lang/invoke/VarHandle" ∧ (parseMethodDescriptor yX3_dropPlace.desc).map (fun d => d.parameters.length) = some 0 := by decide +kernel
theorem wd_X3_addRoad : yX3_addRoad.cls = RX3 ∧ yX3_addRoad.cls ≠ "java/lang/invoke/MethodHandle" ∧ yX3_addRoad.cls ≠ "java/lang/invoke/VarHandle" ∧ (parseMethodDescriptor yX3_addRoad.desc).map (fun d => d.parameters.length) = some 3 := by decide +kernel
theorem wd_X3_dropRoad : yX3_dropRoad.cls = RX3 ∧ yX3_dropRoad.cls ≠ "java/lang/invoke/MethodHandle" ∧ yX3_dropRoad.cls ≠ "java/lang/invoke/VarHandle" ∧ (parseMethodDescriptor yX3_dropRoad.desc).map (fun d => d.parameters.length) = some 0 := by decide +kernel
theorem wd_X3_gates : yX3_gates.cls = RX3 ∧ yX3_gates.cls ≠ "java/lang/invoke/MethodHandle" ∧ yX3_gates.cls ≠ "java/lang/invoke/VarHandle" ∧ (parseMethodDescriptor yX3_gates.desc).map (fun d => d.parameters.length) = some 0 := by decide +kernel
theorem wd_X3_isJoined : yX3_isJoined.cls = RX3 ∧ yX3_isJoined.cls ≠ "java/lang/invoke/MethodHandle" ∧ yX3_isJoined.cls ≠ "java/lang/invoke/VarHandle" ∧ (parseMethodDescriptor yX3_isJoined.desc).map (fun d => d.parameters.length) = some 0 := by decide +kernel
theorem wd_X3_placeBehind : yX3_placeBehind.cls = RX3 ∧ yX3_placeBehind.cls ≠ "java/lang/invoke/MethodHandle" ∧ yX3_placeBehind.cls ≠ "java/lang/invoke/VarHandle" ∧ (parseMethodDescriptor yX3_placeBehind.desc).map (fun d => d.parameters.length) = some 2 := by decide +kernel
theorem wd_X3_measure : yX3_measure.cls = RX3 ∧ yX3_measure.cls ≠ "java/lang/invoke/MethodHandle" ∧ yX3_measure.cls ≠ "java/lang/invoke/VarHandle" ∧ (parseMethodDescriptor yX3_measure.desc).map (fun d => d.parameters.length) = some 0 := by decide +kernel
theorem wd_X3_measureRoads : yX3_measureRoads.cls = RX3 ∧ yX3_measureRoads.cls ≠ "java/lang/invoke/MethodHandle" ∧ yX3_measureRoads.cls ≠ "java/lang/invoke/VarHandle" ∧ (parseMethodDescriptor yX3_measureRoads.desc).map (fun d => d.parameters.length) = some 0 := by decide +kernel
theorem wd_X3_shortenBy : yX3_shortenBy.cls = RX3 ∧ yX3_shortenBy.cls ≠ "java/lang/invoke/MethodHandle" ∧ yX3_shortenBy.cls ≠ "java/lang/invoke/VarHandle" ∧ (parseMethodDescriptor yX3_shortenBy.desc).map (fun d => d.parameters.length) = some 2 := by decide +kernel
theorem wd_X4_init : yX4_init.cls ≠ "java/lang/invoke/MethodHandle" ∧ yX4_init.cls ≠ "java/lang/invoke/VarHandle" ∧ (parseMethodDescriptor yX4_init.desc).map (fun d => d.parameters.length) = some 0 := by decide +kernel
theorem wd_X4_cheapest : yX4_cheapest.cls = RX4 ∧ yX4_cheapest.cls ≠ "java/lang/invoke/MethodHandle" ∧ yX4_cheapest.cls ≠ "java/lang/invoke/VarHandle" ∧ (parseMethodDescriptor yX4_cheapest.desc).map (fun d => d.parameters.length) = some 4 := by decide +kernel
theorem wd_X4_cheapestThroughGates : yX4_cheapestThroughGates.cls = RX4 ∧ yX4_cheapestThroughGates.cls ≠ "java/lang/invoke/MethodHandle" ∧ yX4_cheapestThroughGates.cls ≠ "java/lang/invoke/VarHandle" ∧ (parseMethodDescriptor yX4_cheapestThroughGates.desc).map (fun d => d.parameters.length) = some 3 := by decide +kernel
theorem wd_X4_joinSource : yX4_joinSource.cls = RX4 ∧ yX4_joinSource.cls ≠ "java/lang/invoke/MethodHandle" ∧ yX4_joinSource.cls ≠ "java/lang/invoke/VarHandle" ∧ (parseMethodDescriptor yX4_joinSource.desc).map (fun d => d.parameters.length) = some 3 := by decide +kernel
theorem wd_X4_joinSink : yX4_joinSink.cls = RX4 ∧ yX4_joinSink.cls ≠ "java/lang/invoke/MethodHandle" ∧ yX4_joinSink.cls ≠ "java/lang/invoke/VarHandle" ∧ (parseMethodDescriptor yX4_joinSink.desc).map (fun d => d.parameters.length) = some 3 := by decide +kernel
theorem wd_X4_staying : yX4_staying.cls ≠ "java/lang/invoke/MethodHandle" ∧ yX4_staying.cls ≠ "java/lang/invoke/VarHandle" ∧ (parseMethodDescriptor yX4_staying.desc).map (fun d => d.parameters.length) = some 3 := by decide +kernel
theorem wd_X5_init : yX5_init.cls ≠ "java/lang/invoke/MethodHandle" ∧ yX5_init.cls ≠ "java/lang/invoke/VarHandle" ∧ (parseMethodDescriptor yX5_init.desc).map (fun d => d.parameters.length) = some 0 := by decide +kernel
theorem wd_X5_empty : yX5_empty.cls = RX5 ∧ yX5_empty.cls ≠ "java/lang/invoke/MethodHandle" ∧ yX5_empty.cls ≠ "java/lang/invoke/VarHandle" ∧ (parseMethodDescriptor yX5_empty.desc).map (fun d => d.parameters.length) = some 0 := by decide +kernel
theorem wd_X5_join : yX5_join.cls = RX5 ∧ yX5_join.cls ≠ "java/lang/invoke/MethodHandle" ∧ yX5_join.cls ≠ "java/lang/invoke/VarHandle" ∧ (parseMethodDescriptor yX5_join.desc).map (fun d => d.parameters.length) = some 4 := by decide +kernel
theorem wd_X5_push : yX5_push.cls = RX5 ∧ yX5_push.cls ≠ "java/lang/invoke/MethodHandle" ∧ yX5_push.cls ≠ "java/lang/invoke/VarHandle" ∧ (parseMethodDescriptor yX5_push.desc).map (fun d => d.parameters.length) = some 1 := by decide +kernel
theorem wd_X5_isReached : yX5_isReached.cls = RX5 ∧ yX5_isReached.cls ≠ "java/lang/invoke/MethodHandle" ∧ yX5_isReached.cls ≠ "java/lang/invoke/VarHandle" ∧ (parseMethodDescriptor yX5_isReached.desc).map (fun d => d.parameters.length) = some 1 := by decide +kernel
theorem wd_X5_addArc : yX5_addArc.cls = RX5 ∧ yX5_addArc.cls ≠ "java/lang/invoke/MethodHandle" ∧ yX5_addArc.cls ≠ "java/lang/invoke/VarHandle" ∧ (parseMethodDescriptor yX5_addArc.desc).map (fun d => d.parameters.length) = some 4 := by decide +kernel
theorem wd_X5_search : yX5_search.cls = RX5 ∧ yX5_search.cls ≠ "java/lang/invoke/MethodHandle" ∧ yX5_search.cls ≠ "java/lang/invoke/VarHandle" ∧ (parseMethodDescriptor yX5_search.desc).map (fun d => d.parameters.length) = some 0 := by decide +kernel
theorem wd_X5_relax : yX5_relax.cls = RX5 ∧ yX5_relax.cls ≠ "java/lang/invoke/MethodHandle" ∧ yX5_relax.cls ≠ "java/lang/invoke/VarHandle" ∧ (parseMethodDescriptor yX5_relax.desc).map (fun d => d.parameters.length) = some 0 := by decide +kernel
theorem wd_X5_carry : yX5_carry.cls = RX5 ∧ yX5_carry.cls ≠ "java/lang/invoke/MethodHandle" ∧ yX5_carry.cls ≠ "java/lang/invoke/VarHandle" ∧ (parseMethodDescriptor yX5_carry.desc).map (fun d => d.parameters.length) = some 1 := by decide +kernel
theorem wd_X6_init : yX6_init.cls ≠ "java/lang/invoke/MethodHandle" ∧ yX6_init.cls ≠ "java/lang/invoke/VarHandle" ∧ (parseMethodDescriptor yX6_init.desc).map (fun d => d.parameters.length) = some 0 := by decide +kernel
theorem wd_X6_make : yX6_make.cls = RX6 ∧ yX6_make.cls ≠ "java/lang/invoke/MethodHandle" ∧ yX6_make.cls ≠ "java/lang/invoke/VarHandle" ∧ (parseMethodDescriptor yX6_make.desc).map (fun d => d.parameters.length) = some 5 := by decide +kernel
theorem wd_X6_isTight : yX6_isTight.cls = RX6 ∧ yX6_isTight.cls ≠ "java/lang/invoke/MethodHandle" ∧ yX6_isTight.cls ≠ "java/lang/invoke/VarHandle" ∧ (parseMethodDescriptor yX6_isTight.desc).map (fun d => d.parameters.length) = some 3 := by decide +kernel
theorem wd_X6_takeGoods : yX6_takeGoods.cls = RX6 ∧ yX6_takeGoods.cls ≠ "java/lang/invoke/MethodHandle" ∧ yX6_takeGoods.cls ≠ "java/lang/invoke/VarHandle" ∧ (parseMethodDescriptor yX6_takeGoods.desc).map (fun d => d.parameters.length) = some 4 := by decide +kernel
theorem wd_X6_raiseHeights : yX6_raiseHeights.cls = RX6 ∧ yX6_raiseHeights.cls ≠ "java/lang/invoke/MethodHandle" ∧ yX6_raiseHeights.cls ≠ "java/lang/invoke/VarHandle" ∧ (parseMethodDescriptor yX6_raiseHeights.desc).map (fun d => d.parameters.length) = some 1 := by decide +kernel
theorem wd_X6_lowerHeights : yX6_lowerHeights.cls = RX6 ∧ yX6_lowerHeights.cls ≠ "java/lang/invoke/MethodHandle" ∧ yX6_lowerHeights.cls ≠ "java/lang/invoke/VarHandle" ∧ (parseMethodDescriptor yX6_lowerHeights.desc).map (fun d => d.parameters.length) = some 1 := by decide +kernel
theorem wd_X6_putFirst : yX6_putFirst.cls = RX6 ∧ yX6_putFirst.cls ≠ "java/lang/invoke/MethodHandle" ∧ yX6_putFirst.cls ≠ "java/lang/invoke/VarHandle" ∧ (parseMethodDescriptor yX6_putFirst.desc).map (fun d => d.parameters.length) = some 1 := by decide +kernel
theorem wd_X6_hasOther : yX6_hasOther.cls = RX6 ∧ yX6_hasOther.cls ≠ "java/lang/invoke/MethodHandle" ∧ yX6_hasOther.cls ≠ "java/lang/invoke/VarHandle" ∧ (parseMethodDescriptor yX6_hasOther.desc).map (fun d => d.parameters.length) = some 1 := by decide +kernel
theorem wd_X6_cell : yX6_cell.cls ≠ "java/lang/invoke/MethodHandle" ∧ yX6_cell.cls ≠ "java/lang/invoke/VarHandle" ∧ (parseMethodDescriptor yX6_cell.desc).map (fun d => d.parameters.length) = some 2 := by decide +kernel
theorem wd_X6_findRing : yX6_findRing.cls = RX6 ∧ yX6_findRing.cls ≠ "java/lang/invoke/MethodHandle" ∧ yX6_findRing.cls ≠ "java/lang/invoke/VarHandle" ∧ (parseMethodDescriptor yX6_findRing.desc).map (fun d => d.parameters.length) = some 4 := by decide +kernel
theorem wd_X6_reachColumns : yX6_reachColumns.cls = RX6 ∧ yX6_reachColumns.cls ≠ "java/lang/invoke/MethodHandle" ∧ yX6_reachColumns.cls ≠ "java/lang/invoke/VarHandle" ∧ (parseMethodDescriptor yX6_reachColumns.desc).map (fun d => d.parameters.length) = some 4 := by decide +kernel
theorem wd_X6_turnRing : yX6_turnRing.cls = RX6 ∧ yX6_turnRing.cls ≠ "java/lang/invoke/MethodHandle" ∧ yX6_turnRing.cls ≠ "java/lang/invoke/VarHandle" ∧ (parseMethodDescriptor yX6_turnRing.desc).map (fun d => d.parameters.length) = some 2 := by decide +kernel
theorem wd_X6_ringAmount : yX6_ringAmount.cls = RX6 ∧ yX6_ringAmount.cls ≠ "java/lang/invoke/MethodHandle" ∧ yX6_ringAmount.cls ≠ "java/lang/invoke/VarHandle" ∧ (parseMethodDescriptor yX6_ringAmount.desc).map (fun d => d.parameters.length) = some 2 := by decide +kernel
theorem wd_X6_carried : yX6_carried.cls = RX6 ∧ yX6_carried.cls ≠ "java/lang/invoke/MethodHandle" ∧ yX6_carried.cls ≠ "java/lang/invoke/VarHandle" ∧ (parseMethodDescriptor yX6_carried.desc).map (fun d => d.parameters.length) = some 3 := by decide +kernel
theorem wd_X6_passes : yX6_passes.cls ≠ "java/lang/invoke/MethodHandle" ∧ yX6_passes.cls ≠ "java/lang/invoke/VarHandle" ∧ (parseMethodDescriptor yX6_passes.desc).map (fun d => d.parameters.length) = some 4 := by decide +kernel
theorem wd_X7_init : yX7_init.cls ≠ "java/lang/invoke/MethodHandle" ∧ yX7_init.cls ≠ "java/lang/invoke/VarHandle" ∧ (parseMethodDescriptor yX7_init.desc).map (fun d => d.parameters.length) = some 0 := by decide +kernel
theorem wd_X7_make : yX7_make.cls = RX7 ∧ yX7_make.cls ≠ "java/lang/invoke/MethodHandle" ∧ yX7_make.cls ≠ "java/lang/invoke/VarHandle" ∧ (parseMethodDescriptor yX7_make.desc).map (fun d => d.parameters.length) = some 4 := by decide +kernel
theorem wd_X7_joinEnds : yX7_joinEnds.cls = RX7 ∧ yX7_joinEnds.cls ≠ "java/lang/invoke/MethodHandle" ∧ yX7_joinEnds.cls ≠ "java/lang/invoke/VarHandle" ∧ (parseMethodDescriptor yX7_joinEnds.desc).map (fun d => d.parameters.length) = some 3 := by decide +kernel
theorem wd_X7_joinDistance : yX7_joinDistance.cls = RX7 ∧ yX7_joinDistance.cls ≠ "java/lang/invoke/MethodHandle" ∧ yX7_joinDistance.cls ≠ "java/lang/invoke/VarHandle" ∧ (parseMethodDescriptor yX7_joinDistance.desc).map (fun d => d.parameters.length) = some 3 := by decide +kernel
theorem wd_X7_noteStuck : yX7_noteStuck.cls = RX7 ∧ yX7_noteStuck.cls ≠ "java/lang/invoke/MethodHandle" ∧ yX7_noteStuck.cls ≠ "java/lang/invoke/VarHandle" ∧ (parseMethodDescriptor yX7_noteStuck.desc).map (fun d => d.parameters.length) = some 1 := by decide +kernel
theorem wd_X7_distanceAbove : yX7_distanceAbove.cls ≠ "java/lang/invoke/MethodHandle" ∧ yX7_distanceAbove.cls ≠ "java/lang/invoke/VarHandle" ∧ (parseMethodDescriptor yX7_distanceAbove.desc).map (fun d => d.parameters.length) = some 2 := by decide +kernel
theorem wd_X8_init : yX8_init.cls ≠ "java/lang/invoke/MethodHandle" ∧ yX8_init.cls ≠ "java/lang/invoke/VarHandle" ∧ (parseMethodDescriptor yX8_init.desc).map (fun d => d.parameters.length) = some 0 := by decide +kernel
theorem wd_X8_place : yX8_place.cls = RX8 ∧ yX8_place.cls ≠ "java/lang/invoke/MethodHandle" ∧ yX8_place.cls ≠ "java/lang/invoke/VarHandle" ∧ (parseMethodDescriptor yX8_place.desc).map (fun d => d.parameters.length) = some 0 := by decide +kernel
theorem wd_X8_road : yX8_road.cls = RX8 ∧ yX8_road.cls ≠ "java/lang/invoke/MethodHandle" ∧ yX8_road.cls ≠ "java/lang/invoke/VarHandle" ∧ (parseMethodDescriptor yX8_road.desc).map (fun d => d.parameters.length) = some 3 := by decide +kernel
theorem wd_X8_heap : yX8_heap.cls = RX8 ∧ yX8_heap.cls ≠ "java/lang/invoke/MethodHandle" ∧ yX8_heap.cls ≠ "java/lang/invoke/VarHandle" ∧ (parseMethodDescriptor yX8_heap.desc).map (fun d => d.parameters.length) = some 0 := by decide +kernel
theorem wd_X8_set : yX8_set.cls = RX8 ∧ yX8_set.cls ≠ "java/lang/invoke/MethodHandle" ∧ yX8_set.cls ≠ "java/lang/invoke/VarHandle" ∧ (parseMethodDescriptor yX8_set.desc).map (fun d => d.parameters.length) = some 3 := by decide +kernel
theorem wd_X8_gate : yX8_gate.cls = RX8 ∧ yX8_gate.cls ≠ "java/lang/invoke/MethodHandle" ∧ yX8_gate.cls ≠ "java/lang/invoke/VarHandle" ∧ (parseMethodDescriptor yX8_gate.desc).map (fun d => d.parameters.length) = some 2 := by decide +kernel
theorem wd_X8_undo : yX8_undo.cls = RX8 ∧ yX8_undo.cls ≠ "java/lang/invoke/MethodHandle" ∧ yX8_undo.cls ≠ "java/lang/invoke/VarHandle" ∧ (parseMethodDescriptor yX8_undo.desc).map (fun d => d.parameters.length) = some 0 := by decide +kernel
theorem wd_X8_apart : yX8_apart.cls = RX8 ∧ yX8_apart.cls ≠ "java/lang/invoke/MethodHandle" ∧ yX8_apart.cls ≠ "java/lang/invoke/VarHandle" ∧ (parseMethodDescriptor yX8_apart.desc).map (fun d => d.parameters.length) = some 2 := by decide +kernel
theorem wd_X8_next : yX8_next.cls = RX8 ∧ yX8_next.cls ≠ "java/lang/invoke/MethodHandle" ∧ yX8_next.cls ≠ "java/lang/invoke/VarHandle" ∧ (parseMethodDescriptor yX8_next.desc).map (fun d => d.parameters.length) = some 2 := by decide +kernel
theorem wd_X8_amount : yX8_amount.cls = RX8 ∧ yX8_amount.cls ≠ "java/lang/invoke/MethodHandle" ∧ yX8_amount.cls ≠ "java/lang/invoke/VarHandle" ∧ (parseMethodDescriptor yX8_amount.desc).map (fun d => d.parameters.length) = some 2 := by decide +kernel
theorem wd_X8_sum : yX8_sum.cls = RX8 ∧ yX8_sum.cls ≠ "java/lang/invoke/MethodHandle" ∧ yX8_sum.cls ≠ "java/lang/invoke/VarHandle" ∧ (parseMethodDescriptor yX8_sum.desc).map (fun d => d.parameters.length) = some 1 := by decide +kernel
theorem wd_X8_least : yX8_least.cls = RX8 ∧ yX8_least.cls ≠ "java/lang/invoke/MethodHandle" ∧ yX8_least.cls ≠ "java/lang/invoke/VarHandle" ∧ (parseMethodDescriptor yX8_least.desc).map (fun d => d.parameters.length) = some 2 := by decide +kernel
theorem wd_X8_plan : yX8_plan.cls = RX8 ∧ yX8_plan.cls ≠ "java/lang/invoke/MethodHandle" ∧ yX8_plan.cls ≠ "java/lang/invoke/VarHandle" ∧ (parseMethodDescriptor yX8_plan.desc).map (fun d => d.parameters.length) = some 4 := by decide +kernel
theorem wd_X8_alone : yX8_alone.cls = RX8 ∧ yX8_alone.cls ≠ "java/lang/invoke/MethodHandle" ∧ yX8_alone.cls ≠ "java/lang/invoke/VarHandle" ∧ (parseMethodDescriptor yX8_alone.desc).map (fun d => d.parameters.length) = some 2 := by decide +kernel
theorem wd_X8_height : yX8_height.cls = RX8 ∧ yX8_height.cls ≠ "java/lang/invoke/MethodHandle" ∧ yX8_height.cls ≠ "java/lang/invoke/VarHandle" ∧ (parseMethodDescriptor yX8_height.desc).map (fun d => d.parameters.length) = some 3 := by decide +kernel
theorem wd_X8_load : yX8_load.cls = RX8 ∧ yX8_load.cls ≠ "java/lang/invoke/MethodHandle" ∧ yX8_load.cls ≠ "java/lang/invoke/VarHandle" ∧ (parseMethodDescriptor yX8_load.desc).map (fun d => d.parameters.length) = some 4 := by decide +kernel
theorem wd_X8_far : yX8_far.cls = RX8 ∧ yX8_far.cls ≠ "java/lang/invoke/MethodHandle" ∧ yX8_far.cls ≠ "java/lang/invoke/VarHandle" ∧ (parseMethodDescriptor yX8_far.desc).map (fun d => d.parameters.length) = some 2 := by decide +kernel
theorem wd_X8_shown : yX8_shown.cls = RX8 ∧ yX8_shown.cls ≠ "java/lang/invoke/MethodHandle" ∧ yX8_shown.cls ≠ "java/lang/invoke/VarHandle" ∧ (parseMethodDescriptor yX8_shown.desc).map (fun d => d.parameters.length) = some 3 := by decide +kernel
theorem wd_X8_some : yX8_some.cls = RX8 ∧ yX8_some.cls ≠ "java/lang/invoke/MethodHandle" ∧ yX8_some.cls ≠ "java/lang/invoke/VarHandle" ∧ (parseMethodDescriptor yX8_some.desc).map (fun d => d.parameters.length) = some 3 := by decide +kernel
theorem wd_X8_gated : yX8_gated.cls = RX8 ∧ yX8_gated.cls ≠ "java/lang/invoke/MethodHandle" ∧ yX8_gated.cls ≠ "java/lang/invoke/VarHandle" ∧ (parseMethodDescriptor yX8_gated.desc).map (fun d => d.parameters.length) = some 2 := by decide +kernel
theorem wd_X8_draft : yX8_draft.cls = RX8 ∧ yX8_draft.cls ≠ "java/lang/invoke/MethodHandle" ∧ yX8_draft.cls ≠ "java/lang/invoke/VarHandle" ∧ (parseMethodDescriptor yX8_draft.desc).map (fun d => d.parameters.length) = some 3 := by decide +kernel
theorem wd_X8_clear : yX8_clear.cls = RX8 ∧ yX8_clear.cls ≠ "java/lang/invoke/MethodHandle" ∧ yX8_clear.cls ≠ "java/lang/invoke/VarHandle" ∧ (parseMethodDescriptor yX8_clear.desc).map (fun d => d.parameters.length) = some 0 := by decide +kernel
theorem wd_X8_copy : yX8_copy.cls = RX8 ∧ yX8_copy.cls ≠ "java/lang/invoke/MethodHandle" ∧ yX8_copy.cls ≠ "java/lang/invoke/VarHandle" ∧ (parseMethodDescriptor yX8_copy.desc).map (fun d => d.parameters.length) = some 2 := by decide +kernel
theorem wd_X8_judge : yX8_judge.cls = RX8 ∧ yX8_judge.cls ≠ "java/lang/invoke/MethodHandle" ∧ yX8_judge.cls ≠ "java/lang/invoke/VarHandle" ∧ (parseMethodDescriptor yX8_judge.desc).map (fun d => d.parameters.length) = some 2 := by decide +kernel
theorem wd_X8_beside : yX8_beside.cls = RX8 ∧ yX8_beside.cls ≠ "java/lang/invoke/MethodHandle" ∧ yX8_beside.cls ≠ "java/lang/invoke/VarHandle" ∧ (parseMethodDescriptor yX8_beside.desc).map (fun d => d.parameters.length) = some 0 := by decide +kernel
theorem wd_X8_count : yX8_count.cls = RX8 ∧ yX8_count.cls ≠ "java/lang/invoke/MethodHandle" ∧ yX8_count.cls ≠ "java/lang/invoke/VarHandle" ∧ (parseMethodDescriptor yX8_count.desc).map (fun d => d.parameters.length) = some 1 := by decide +kernel
theorem wd_X8_refusalOfMoving : yX8_refusalOfMoving.cls = RX8 ∧ yX8_refusalOfMoving.cls ≠ "java/lang/invoke/MethodHandle" ∧ yX8_refusalOfMoving.cls ≠ "java/lang/invoke/VarHandle" ∧ (parseMethodDescriptor yX8_refusalOfMoving.desc).map (fun d => d.parameters.length) = some 2 := by decide +kernel
theorem wd_X8_refusalAtPlaces : yX8_refusalAtPlaces.cls = RX8 ∧ yX8_refusalAtPlaces.cls ≠ "java/lang/invoke/MethodHandle" ∧ yX8_refusalAtPlaces.cls ≠ "java/lang/invoke/VarHandle" ∧ (parseMethodDescriptor yX8_refusalAtPlaces.desc).map (fun d => d.parameters.length) = some 4 := by decide +kernel
theorem wd_X8_leastCost : yX8_leastCost.cls = RX8 ∧ yX8_leastCost.cls ≠ "java/lang/invoke/MethodHandle" ∧ yX8_leastCost.cls ≠ "java/lang/invoke/VarHandle" ∧ (parseMethodDescriptor yX8_leastCost.desc).map (fun d => d.parameters.length) = some 2 := by decide +kernel
theorem wd_X8_makePlan : yX8_makePlan.cls = RX8 ∧ yX8_makePlan.cls ≠ "java/lang/invoke/MethodHandle" ∧ yX8_makePlan.cls ≠ "java/lang/invoke/VarHandle" ∧ (parseMethodDescriptor yX8_makePlan.desc).map (fun d => d.parameters.length) = some 2 := by decide +kernel
theorem wd_X8_makeReach : yX8_makeReach.cls = RX8 ∧ yX8_makeReach.cls ≠ "java/lang/invoke/MethodHandle" ∧ yX8_makeReach.cls ≠ "java/lang/invoke/VarHandle" ∧ (parseMethodDescriptor yX8_makeReach.desc).map (fun d => d.parameters.length) = some 2 := by decide +kernel
theorem wd_X8_noteChange : yX8_noteChange.cls = RX8 ∧ yX8_noteChange.cls ≠ "java/lang/invoke/MethodHandle" ∧ yX8_noteChange.cls ≠ "java/lang/invoke/VarHandle" ∧ (parseMethodDescriptor yX8_noteChange.desc).map (fun d => d.parameters.length) = some 4 := by decide +kernel
theorem wd_X8_forgetResults : yX8_forgetResults.cls = RX8 ∧ yX8_forgetResults.cls ≠ "java/lang/invoke/MethodHandle" ∧ yX8_forgetResults.cls ≠ "java/lang/invoke/VarHandle" ∧ (parseMethodDescriptor yX8_forgetResults.desc).map (fun d => d.parameters.length) = some 0 := by decide +kernel
theorem wd_X8_takeBack : yX8_takeBack.cls = RX8 ∧ yX8_takeBack.cls ≠ "java/lang/invoke/MethodHandle" ∧ yX8_takeBack.cls ≠ "java/lang/invoke/VarHandle" ∧ (parseMethodDescriptor yX8_takeBack.desc).map (fun d => d.parameters.length) = some 1 := by decide +kernel
theorem wd_X9_init : yX9_init.cls ≠ "java/lang/invoke/MethodHandle" ∧ yX9_init.cls ≠ "java/lang/invoke/VarHandle" ∧ (parseMethodDescriptor yX9_init.desc).map (fun d => d.parameters.length) = some 0 := by decide +kernel
theorem wd_X9_in : yX9_in.cls ≠ "java/lang/invoke/MethodHandle" ∧ yX9_in.cls ≠ "java/lang/invoke/VarHandle" ∧ (parseMethodDescriptor yX9_in.desc).map (fun d => d.parameters.length) = some 3 := by decide +kernel
theorem wd_X9_isPlace : yX9_isPlace.cls = RX9 ∧ yX9_isPlace.cls ≠ "java/lang/invoke/MethodHandle" ∧ yX9_isPlace.cls ≠ "java/lang/invoke/VarHandle" ∧ (parseMethodDescriptor yX9_isPlace.desc).map (fun d => d.parameters.length) = some 1 := by decide +kernel
theorem wd_X9_isHeap : yX9_isHeap.cls = RX9 ∧ yX9_isHeap.cls ≠ "java/lang/invoke/MethodHandle" ∧ yX9_isHeap.cls ≠ "java/lang/invoke/VarHandle" ∧ (parseMethodDescriptor yX9_isHeap.desc).map (fun d => d.parameters.length) = some 1 := by decide +kernel
theorem wd_X9_keep : yX9_keep.cls = RX9 ∧ yX9_keep.cls ≠ "java/lang/invoke/MethodHandle" ∧ yX9_keep.cls ≠ "java/lang/invoke/VarHandle" ∧ (parseMethodDescriptor yX9_keep.desc).map (fun d => d.parameters.length) = some 3 := by decide +kernel
theorem wd_X9_place : yX9_place.cls = RX9 ∧ yX9_place.cls ≠ "java/lang/invoke/MethodHandle" ∧ yX9_place.cls ≠ "java/lang/invoke/VarHandle" ∧ (parseMethodDescriptor yX9_place.desc).map (fun d => d.parameters.length) = some 0 := by decide +kernel
theorem wd_X9_road : yX9_road.cls = RX9 ∧ yX9_road.cls ≠ "java/lang/invoke/MethodHandle" ∧ yX9_road.cls ≠ "java/lang/invoke/VarHandle" ∧ (parseMethodDescriptor yX9_road.desc).map (fun d => d.parameters.length) = some 3 := by decide +kernel
theorem wd_X9_heap : yX9_heap.cls = RX9 ∧ yX9_heap.cls ≠ "java/lang/invoke/MethodHandle" ∧ yX9_heap.cls ≠ "java/lang/invoke/VarHandle" ∧ (parseMethodDescriptor yX9_heap.desc).map (fun d => d.parameters.length) = some 0 := by decide +kernel
theorem wd_X9_set : yX9_set.cls = RX9 ∧ yX9_set.cls ≠ "java/lang/invoke/MethodHandle" ∧ yX9_set.cls ≠ "java/lang/invoke/VarHandle" ∧ (parseMethodDescriptor yX9_set.desc).map (fun d => d.parameters.length) = some 3 := by decide +kernel
theorem wd_X9_gate : yX9_gate.cls = RX9 ∧ yX9_gate.cls ≠ "java/lang/invoke/MethodHandle" ∧ yX9_gate.cls ≠ "java/lang/invoke/VarHandle" ∧ (parseMethodDescriptor yX9_gate.desc).map (fun d => d.parameters.length) = some 2 := by decide +kernel
theorem wd_X9_undo : yX9_undo.cls = RX9 ∧ yX9_undo.cls ≠ "java/lang/invoke/MethodHandle" ∧ yX9_undo.cls ≠ "java/lang/invoke/VarHandle" ∧ (parseMethodDescriptor yX9_undo.desc).map (fun d => d.parameters.length) = some 0 := by decide +kernel
theorem wd_X9_findFar : yX9_findFar.cls = RX9 ∧ yX9_findFar.cls ≠ "java/lang/invoke/MethodHandle" ∧ yX9_findFar.cls ≠ "java/lang/invoke/VarHandle" ∧ (parseMethodDescriptor yX9_findFar.desc).map (fun d => d.parameters.length) = some 0 := by decide +kernel
theorem wd_X9_isJoined : yX9_isJoined.cls = RX9 ∧ yX9_isJoined.cls ≠ "java/lang/invoke/MethodHandle" ∧ yX9_isJoined.cls ≠ "java/lang/invoke/VarHandle" ∧ (parseMethodDescriptor yX9_isJoined.desc).map (fun d => d.parameters.length) = some 0 := by decide +kernel
theorem wd_X9_apart : yX9_apart.cls = RX9 ∧ yX9_apart.cls ≠ "java/lang/invoke/MethodHandle" ∧ yX9_apart.cls ≠ "java/lang/invoke/VarHandle" ∧ (parseMethodDescriptor yX9_apart.desc).map (fun d => d.parameters.length) = some 2 := by decide +kernel
theorem wd_X9_nextTo : yX9_nextTo.cls = RX9 ∧ yX9_nextTo.cls ≠ "java/lang/invoke/MethodHandle" ∧ yX9_nextTo.cls ≠ "java/lang/invoke/VarHandle" ∧ (parseMethodDescriptor yX9_nextTo.desc).map (fun d => d.parameters.length) = some 2 := by decide +kernel
theorem wd_X9_next : yX9_next.cls = RX9 ∧ yX9_next.cls ≠ "java/lang/invoke/MethodHandle" ∧ yX9_next.cls ≠ "java/lang/invoke/VarHandle" ∧ (parseMethodDescriptor yX9_next.desc).map (fun d => d.parameters.length) = some 2 := by decide +kernel
theorem wd_X9_amount : yX9_amount.cls = RX9 ∧ yX9_amount.cls ≠ "java/lang/invoke/MethodHandle" ∧ yX9_amount.cls ≠ "java/lang/invoke/VarHandle" ∧ (parseMethodDescriptor yX9_amount.desc).map (fun d => d.parameters.length) = some 2 := by decide +kernel
theorem wd_X9_sumOf : yX9_sumOf.cls = RX9 ∧ yX9_sumOf.cls ≠ "java/lang/invoke/MethodHandle" ∧ yX9_sumOf.cls ≠ "java/lang/invoke/VarHandle" ∧ (parseMethodDescriptor yX9_sumOf.desc).map (fun d => d.parameters.length) = some 1 := by decide +kernel
theorem wd_X9_sum : yX9_sum.cls = RX9 ∧ yX9_sum.cls ≠ "java/lang/invoke/MethodHandle" ∧ yX9_sum.cls ≠ "java/lang/invoke/VarHandle" ∧ (parseMethodDescriptor yX9_sum.desc).map (fun d => d.parameters.length) = some 1 := by decide +kernel
theorem wd_X9_begin : yX9_begin.cls = RX9 ∧ yX9_begin.cls ≠ "java/lang/invoke/MethodHandle" ∧ yX9_begin.cls ≠ "java/lang/invoke/VarHandle" ∧ (parseMethodDescriptor yX9_begin.desc).map (fun d => d.parameters.length) = some 2 := by decide +kernel
theorem wd_X9_findWay : yX9_findWay.cls = RX9 ∧ yX9_findWay.cls ≠ "java/lang/invoke/MethodHandle" ∧ yX9_findWay.cls ≠ "java/lang/invoke/VarHandle" ∧ (parseMethodDescriptor yX9_findWay.desc).map (fun d => d.parameters.length) = some 0 := by decide +kernel
theorem wd_X9_go : yX9_go.cls = RX9 ∧ yX9_go.cls ≠ "java/lang/invoke/MethodHandle" ∧ yX9_go.cls ≠ "java/lang/invoke/VarHandle" ∧ (parseMethodDescriptor yX9_go.desc).map (fun d => d.parameters.length) = some 2 := by decide +kernel
theorem wd_X9_costOf : yX9_costOf.cls = RX9 ∧ yX9_costOf.cls ≠ "java/lang/invoke/MethodHandle" ∧ yX9_costOf.cls ≠ "java/lang/invoke/VarHandle" ∧ (parseMethodDescriptor yX9_costOf.desc).map (fun d => d.parameters.length) = some 1 := by decide +kernel
theorem wd_X9_solve : yX9_solve.cls = RX9 ∧ yX9_solve.cls ≠ "java/lang/invoke/MethodHandle" ∧ yX9_solve.cls ≠ "java/lang/invoke/VarHandle" ∧ (parseMethodDescriptor yX9_solve.desc).map (fun d => d.parameters.length) = some 3 := by decide +kernel
theorem wd_X9_against : yX9_against.cls = RX9 ∧ yX9_against.cls ≠ "java/lang/invoke/MethodHandle" ∧ yX9_against.cls ≠ "java/lang/invoke/VarHandle" ∧ (parseMethodDescriptor yX9_against.desc).map (fun d => d.parameters.length) = some 2 := by decide +kernel
theorem wd_X9_least : yX9_least.cls = RX9 ∧ yX9_least.cls ≠ "java/lang/invoke/MethodHandle" ∧ yX9_least.cls ≠ "java/lang/invoke/VarHandle" ∧ (parseMethodDescriptor yX9_least.desc).map (fun d => d.parameters.length) = some 2 := by decide +kernel
theorem wd_X9_findHeights : yX9_findHeights.cls = RX9 ∧ yX9_findHeights.cls ≠ "java/lang/invoke/MethodHandle" ∧ yX9_findHeights.cls ≠ "java/lang/invoke/VarHandle" ∧ (parseMethodDescriptor yX9_findHeights.desc).map (fun d => d.parameters.length) = some 0 := by decide +kernel
theorem wd_X9_isTight : yX9_isTight.cls = RX9 ∧ yX9_isTight.cls ≠ "java/lang/invoke/MethodHandle" ∧ yX9_isTight.cls ≠ "java/lang/invoke/VarHandle" ∧ (parseMethodDescriptor yX9_isTight.desc).map (fun d => d.parameters.length) = some 2 := by decide +kernel
theorem wd_X9_canTurn : yX9_canTurn.cls = RX9 ∧ yX9_canTurn.cls ≠ "java/lang/invoke/MethodHandle" ∧ yX9_canTurn.cls ≠ "java/lang/invoke/VarHandle" ∧ (parseMethodDescriptor yX9_canTurn.desc).map (fun d => d.parameters.length) = some 2 := by decide +kernel
theorem wd_X9_turn : yX9_turn.cls = RX9 ∧ yX9_turn.cls ≠ "java/lang/invoke/MethodHandle" ∧ yX9_turn.cls ≠ "java/lang/invoke/VarHandle" ∧ (parseMethodDescriptor yX9_turn.desc).map (fun d => d.parameters.length) = some 2 := by decide +kernel
theorem wd_X9_loosen : yX9_loosen.cls = RX9 ∧ yX9_loosen.cls ≠ "java/lang/invoke/MethodHandle" ∧ yX9_loosen.cls ≠ "java/lang/invoke/VarHandle" ∧ (parseMethodDescriptor yX9_loosen.desc).map (fun d => d.parameters.length) = some 0 := by decide +kernel
theorem wd_X9_findPlan : yX9_findPlan.cls = RX9 ∧ yX9_findPlan.cls ≠ "java/lang/invoke/MethodHandle" ∧ yX9_findPlan.cls ≠ "java/lang/invoke/VarHandle" ∧ (parseMethodDescriptor yX9_findPlan.desc).map (fun d => d.parameters.length) = some 2 := by decide +kernel
theorem wd_X9_plan : yX9_plan.cls = RX9 ∧ yX9_plan.cls ≠ "java/lang/invoke/MethodHandle" ∧ yX9_plan.cls ≠ "java/lang/invoke/VarHandle" ∧ (parseMethodDescriptor yX9_plan.desc).map (fun d => d.parameters.length) = some 4 := by decide +kernel
theorem wd_X9_alone : yX9_alone.cls = RX9 ∧ yX9_alone.cls ≠ "java/lang/invoke/MethodHandle" ∧ yX9_alone.cls ≠ "java/lang/invoke/VarHandle" ∧ (parseMethodDescriptor yX9_alone.desc).map (fun d => d.parameters.length) = some 2 := by decide +kernel
theorem wd_X9_height : yX9_height.cls = RX9 ∧ yX9_height.cls ≠ "java/lang/invoke/MethodHandle" ∧ yX9_height.cls ≠ "java/lang/invoke/VarHandle" ∧ (parseMethodDescriptor yX9_height.desc).map (fun d => d.parameters.length) = some 3 := by decide +kernel
theorem wd_X9_load : yX9_load.cls = RX9 ∧ yX9_load.cls ≠ "java/lang/invoke/MethodHandle" ∧ yX9_load.cls ≠ "java/lang/invoke/VarHandle" ∧ (parseMethodDescriptor yX9_load.desc).map (fun d => d.parameters.length) = some 4 := by decide +kernel
theorem wd_X9_fits : yX9_fits.cls = RX9 ∧ yX9_fits.cls ≠ "java/lang/invoke/MethodHandle" ∧ yX9_fits.cls ≠ "java/lang/invoke/VarHandle" ∧ (parseMethodDescriptor yX9_fits.desc).map (fun d => d.parameters.length) = some 3 := by decide +kernel
theorem wd_X9_reach : yX9_reach.cls = RX9 ∧ yX9_reach.cls ≠ "java/lang/invoke/MethodHandle" ∧ yX9_reach.cls ≠ "java/lang/invoke/VarHandle" ∧ (parseMethodDescriptor yX9_reach.desc).map (fun d => d.parameters.length) = some 1 := by decide +kernel
theorem wd_X9_findFarthest : yX9_findFarthest.cls = RX9 ∧ yX9_findFarthest.cls ≠ "java/lang/invoke/MethodHandle" ∧ yX9_findFarthest.cls ≠ "java/lang/invoke/VarHandle" ∧ (parseMethodDescriptor yX9_findFarthest.desc).map (fun d => d.parameters.length) = some 2 := by decide +kernel
theorem wd_X9_far : yX9_far.cls = RX9 ∧ yX9_far.cls ≠ "java/lang/invoke/MethodHandle" ∧ yX9_far.cls ≠ "java/lang/invoke/VarHandle" ∧ (parseMethodDescriptor yX9_far.desc).map (fun d => d.parameters.length) = some 2 := by decide +kernel
theorem wd_X9_shown : yX9_shown.cls = RX9 ∧ yX9_shown.cls ≠ "java/lang/invoke/MethodHandle" ∧ yX9_shown.cls ≠ "java/lang/invoke/VarHandle" ∧ (parseMethodDescriptor yX9_shown.desc).map (fun d => d.parameters.length) = some 3 := by decide +kernel
theorem wd_X9_some : yX9_some.cls = RX9 ∧ yX9_some.cls ≠ "java/lang/invoke/MethodHandle" ∧ yX9_some.cls ≠ "java/lang/invoke/VarHandle" ∧ (parseMethodDescriptor yX9_some.desc).map (fun d => d.parameters.length) = some 3 := by decide +kernel
theorem wd_X9_arc : yX9_arc.cls = RX9 ∧ yX9_arc.cls ≠ "java/lang/invoke/MethodHandle" ∧ yX9_arc.cls ≠ "java/lang/invoke/VarHandle" ∧ (parseMethodDescriptor yX9_arc.desc).map (fun d => d.parameters.length) = some 4 := by decide +kernel
theorem wd_X9_hasNetWay : yX9_hasNetWay.cls = RX9 ∧ yX9_hasNetWay.cls ≠ "java/lang/invoke/MethodHandle" ∧ yX9_hasNetWay.cls ≠ "java/lang/invoke/VarHandle" ∧ (parseMethodDescriptor yX9_hasNetWay.desc).map (fun d => d.parameters.length) = some 0 := by decide +kernel
theorem wd_X9_goNet : yX9_goNet.cls = RX9 ∧ yX9_goNet.cls ≠ "java/lang/invoke/MethodHandle" ∧ yX9_goNet.cls ≠ "java/lang/invoke/VarHandle" ∧ (parseMethodDescriptor yX9_goNet.desc).map (fun d => d.parameters.length) = some 0 := by decide +kernel
theorem wd_X9_gated : yX9_gated.cls = RX9 ∧ yX9_gated.cls ≠ "java/lang/invoke/MethodHandle" ∧ yX9_gated.cls ≠ "java/lang/invoke/VarHandle" ∧ (parseMethodDescriptor yX9_gated.desc).map (fun d => d.parameters.length) = some 2 := by decide +kernel
theorem wd_X9_draft : yX9_draft.cls = RX9 ∧ yX9_draft.cls ≠ "java/lang/invoke/MethodHandle" ∧ yX9_draft.cls ≠ "java/lang/invoke/VarHandle" ∧ (parseMethodDescriptor yX9_draft.desc).map (fun d => d.parameters.length) = some 3 := by decide +kernel
theorem wd_X9_clear : yX9_clear.cls = RX9 ∧ yX9_clear.cls ≠ "java/lang/invoke/MethodHandle" ∧ yX9_clear.cls ≠ "java/lang/invoke/VarHandle" ∧ (parseMethodDescriptor yX9_clear.desc).map (fun d => d.parameters.length) = some 0 := by decide +kernel
theorem wd_X9_copy : yX9_copy.cls = RX9 ∧ yX9_copy.cls ≠ "java/lang/invoke/MethodHandle" ∧ yX9_copy.cls ≠ "java/lang/invoke/VarHandle" ∧ (parseMethodDescriptor yX9_copy.desc).map (fun d => d.parameters.length) = some 2 := by decide +kernel
theorem wd_X9_drafted : yX9_drafted.cls = RX9 ∧ yX9_drafted.cls ≠ "java/lang/invoke/MethodHandle" ∧ yX9_drafted.cls ≠ "java/lang/invoke/VarHandle" ∧ (parseMethodDescriptor yX9_drafted.desc).map (fun d => d.parameters.length) = some 2 := by decide +kernel
theorem wd_X9_judge : yX9_judge.cls = RX9 ∧ yX9_judge.cls ≠ "java/lang/invoke/MethodHandle" ∧ yX9_judge.cls ≠ "java/lang/invoke/VarHandle" ∧ (parseMethodDescriptor yX9_judge.desc).map (fun d => d.parameters.length) = some 2 := by decide +kernel
theorem wd_X9_beside : yX9_beside.cls = RX9 ∧ yX9_beside.cls ≠ "java/lang/invoke/MethodHandle" ∧ yX9_beside.cls ≠ "java/lang/invoke/VarHandle" ∧ (parseMethodDescriptor yX9_beside.desc).map (fun d => d.parameters.length) = some 0 := by decide +kernel
theorem wd_X9_count : yX9_count.cls = RX9 ∧ yX9_count.cls ≠ "java/lang/invoke/MethodHandle" ∧ yX9_count.cls ≠ "java/lang/invoke/VarHandle" ∧ (parseMethodDescriptor yX9_count.desc).map (fun d => d.parameters.length) = some 1 := by decide +kernel
theorem wd_J7_fill_53178 : yJ7_fill_53178.cls ≠ "java/lang/invoke/MethodHandle" ∧ yJ7_fill_53178.cls ≠ "java/lang/invoke/VarHandle" ∧ (parseMethodDescriptor yJ7_fill_53178.desc).map (fun d => d.parameters.length) = some 2 := by decide +kernel
theorem gd_c {w : Cond} (h : w ∈ lw_g) : w ∈ lw_g ∧ ((w.onTables && w.keeps) = true ∨ ∃ ty, w = .arrayClass ty) := ⟨h, good_of_word (List.mem_filter.mp h).2⟩
theorem gd_s {y : MethodName} {cc : ByteArray} {mL : Nat} {ret : Option FieldType} (h5 : Cond.code y cc mL ret ∈ lw_g) : GoodIn lw_g (Cond.code y cc mL ret :: lw_g) := fun w hw => (List.mem_cons.mp hw).elim (fun e => e ▸ gd_c h5) (fun h => gd_c h)
theorem gd_V {own C : String} {idx : Nat} {y : MethodName} {cc : ByteArray} {mL : Nat} {ret : Option FieldType} (h1 : Cond.methodLink own idx y ∈ lw_g) (h2 : Cond.instanceMethod y ∈ lw_g) (h3 : Cond.selects C y y ∈ lw_g) (h4 : Cond.initialized C ∈ lw_g) (h5 : Cond.code y cc mL ret ∈ lw_g) : GoodIn lw_g (wsV own idx C y (Cond.code y cc mL ret :: lw_g)) := by
  intro w hw
  unfold wsV at hw
  rcases List.mem_append.mp hw with h | h
  · simp only [List.mem_cons, List.not_mem_nil, or_false] at h
    rcases h with rfl | rfl | rfl | rfl
    · exact gd_c h1
    · exact gd_c h2
    · exact gd_c h3
    · exact gd_c h4
  · exact gd_s h5 w h
theorem gd_S {own : String} {idx : Nat} {y : MethodName} {cc : ByteArray} {mL : Nat} {ret : Option FieldType} (h1 : Cond.methodLink own idx y ∈ lw_g) (h2 : Cond.static y ∈ lw_g) (h4 : Cond.initialized y.cls ∈ lw_g) (h5 : Cond.code y cc mL ret ∈ lw_g) : GoodIn lw_g (va_wsS own idx y (Cond.code y cc mL ret :: lw_g)) := by
  intro w hw
  unfold va_wsS at hw
  rcases List.mem_append.mp hw with h | h
  · simp only [List.mem_cons, List.not_mem_nil, or_false] at h
    rcases h with rfl | rfl | rfl
    · exact gd_c h1
    · exact gd_c h2
    · exact gd_c h4
  · exact gd_s h5 w h
