abbrev wv_X0_hasState : List Cond := .code yX0_hasState cX0_hasState 2 (some .boolean) :: wsL_law
abbrev wv_X0_isStuck : List Cond := .code yX0_isStuck cX0_isStuck 2 (some .boolean) :: wsL_law
abbrev wv_X0_addState : List Cond := .code yX0_addState cX0_addState 4 (some .int) :: wsL_law
abbrev wv_X0_addMove : List Cond := .code yX0_addMove cX0_addMove 6 (some .int) :: wsL_law
abbrev wv_X2_join : List Cond := .code yX2_join cX2_join 4 none :: wsL_law
abbrev wv_X2_walk : List Cond := .code yX2_walk cX2_walk 6 none :: wsL_law
abbrev wv_X2_moveOnWayTo : List Cond := .code yX2_moveOnWayTo cX2_moveOnWayTo 6 (some .int) :: wsL_law
abbrev wv_X1_lower : List Cond := .code yX1_lower cX1_lower 3 none :: wsL_law
abbrev wv_X1_enter : List Cond := .code yX1_enter cX1_enter 3 none :: wsL_law
abbrev wv_X1_leave : List Cond := .code yX1_leave cX1_leave 2 none :: wsL_law
abbrev wv_X1_closeKnotBegunBy : List Cond := .code yX1_closeKnotBegunBy cX1_closeKnotBegunBy 3 none :: wsL_law
abbrev wv_X1_walkFrom : List Cond := .code yX1_walkFrom cX1_walkFrom 7 none :: wsL_law
abbrev wv_X1_find : List Cond := .code yX1_find cX1_find 3 none :: wsL_law
abbrev wv_X3_addState : List Cond := .code yX3_addState cX3_addState 4 none :: wsL_law
abbrev wv_X3_addMove : List Cond := .code yX3_addMove cX3_addMove 3 none :: wsL_law
abbrev wv_X3_take : List Cond := .code yX3_take cX3_take 6 none :: wsL_law
abbrev wv_X3_largestSize : List Cond := .code yX3_largestSize cX3_largestSize 4 (some .int) :: wsL_law
abbrev wv_X4_isLabel : List Cond := .code yX4_isLabel cX4_isLabel 1 (some .boolean) :: wsL_law
abbrev wv_X4_labelsOfKind : List Cond := .code yX4_labelsOfKind cX4_labelsOfKind 4 (some .int) :: wsL_law
abbrev wv_X4_chooseStatesOf : List Cond := .code yX4_chooseStatesOf cX4_chooseStatesOf 3 none :: wsL_law
abbrev wv_X4_isUnfair : List Cond := .code yX4_isUnfair cX4_isUnfair 6 (some .boolean) :: wsL_law
abbrev wv_X4_dropUnfairStates : List Cond := .code yX4_dropUnfairStates cX4_dropUnfairStates 5 (some .boolean) :: wsL_law
abbrev wv_X4_deadEnd : List Cond := .code yX4_deadEnd cX4_deadEnd 4 (some .int) :: wsL_law
abbrev wv_X4_keepFairStates : List Cond := .code yX4_keepFairStates cX4_keepFairStates 5 none :: wsL_law
abbrev wv_X4_alwaysServed : List Cond := .code yX4_alwaysServed cX4_alwaysServed 2 (some .boolean) :: wsL_law
abbrev wv_X4_findParts : List Cond := .code yX4_findParts cX4_findParts 2 none :: wsL_law
abbrev wv_X4_findFairParts : List Cond := .code yX4_findFairParts cX4_findFairParts 2 none :: wsL_law
abbrev wv_X4_knotByLowestState : List Cond := .code yX4_knotByLowestState cX4_knotByLowestState 4 (some .int) :: wsL_law
abbrev wv_X4_stateOfKnot : List Cond := .code yX4_stateOfKnot cX4_stateOfKnot 5 (some .int) :: wsL_law
abbrev wv_X4_rankAbove : List Cond := .code yX4_rankAbove cX4_rankAbove 5 (some .int) :: wsL_law
abbrev wv_X4_fillRanks : List Cond := .code yX4_fillRanks cX4_fillRanks 4 (some .int) :: wsL_law
abbrev wv_X4_liveAsks : List Cond := .code yX4_liveAsks cX4_liveAsks 3 (some .int) :: wsL_law
abbrev wv_X4_reached : List Cond := .code yX4_reached cX4_reached 1 (some .int) :: wsL_law
abbrev wv_J6_bitCount_0f7a4 : List Cond := .code yJ6_bitCount_0f7a4 cJ6_bitCount_0f7a4 1 (some .int) :: wsL_law
abbrev wv_X4_count : List Cond := .code yX4_count cX4_count 2 (some .int) :: wsL_law
abbrev wv_X4_refuseWrongAsk : List Cond := .code yX4_refuseWrongAsk cX4_refuseWrongAsk 1 none :: wsL_law
abbrev wv_X4_refuseWrongState : List Cond := .code yX4_refuseWrongState cX4_refuseWrongState 2 none :: wsL_law
abbrev wv_X4_state : List Cond := .code yX4_state cX4_state 3 (some .int) :: wsL_law
abbrev wv_X4_move : List Cond := .code yX4_move cX4_move 4 (some .int) :: wsL_law
abbrev wv_X4_label : List Cond := .code yX4_label cX4_label 4 (some .int) :: wsL_law
abbrev wv_X4_live : List Cond := .code yX4_live cX4_live 2 (some .boolean) :: wsL_law
abbrev wv_X4_parts : List Cond := .code yX4_parts cX4_parts 2 (some .int) :: wsL_law
abbrev wv_X4_part : List Cond := .code yX4_part cX4_part 6 (some .int) :: wsL_law
abbrev wv_X4_dead : List Cond := .code yX4_dead cX4_dead 4 (some .int) :: wsL_law
abbrev wv_X4_longest : List Cond := .code yX4_longest cX4_longest 2 (some .int) :: wsL_law
abbrev wv_X4_rank : List Cond := .code yX4_rank cX4_rank 3 (some .int) :: wsL_law
abbrev wv_X4_row : List Cond := .code yX4_row cX4_row 3 (some .int) :: wsL_law
abbrev wv_X4_largest : List Cond := .code yX4_largest cX4_largest 2 (some .int) :: wsL_law
abbrev wv_X5_thrown : List Cond := .code yX5_thrown cX5_thrown 1 (some .int) :: wsL_law
abbrev wv_X5_changed : List Cond := .code yX5_changed cX5_changed 1 none :: wsL_law
abbrev wv_X5_state : List Cond := .code yX5_state cX5_state 3 (some .int) :: wsL_law
abbrev wv_X5_isState : List Cond := .code yX5_isState cX5_isState 2 (some .boolean) :: wsL_law
abbrev wv_X5_move : List Cond := .code yX5_move cX5_move 5 (some .int) :: wsL_law
abbrev wv_X5_label : List Cond := .code yX5_label cX5_label 4 (some .int) :: wsL_law
abbrev wv_X5_walk : List Cond := .code yX5_walk cX5_walk 3 none :: wsL_law
abbrev wv_X5_reached : List Cond := .code yX5_reached cX5_reached 1 (some .int) :: wsL_law
abbrev wv_X5_row : List Cond := .code yX5_row cX5_row 5 (some .int) :: wsL_law
abbrev wv_X5_close : List Cond := .code yX5_close cX5_close 3 none :: wsL_law
abbrev wv_X5_spread : List Cond := .code yX5_spread cX5_spread 7 none :: wsL_law
abbrev wv_X5_together : List Cond := .code yX5_together cX5_together 3 (some .boolean) :: wsL_law
abbrev wv_X5_divide : List Cond := .code yX5_divide cX5_divide 4 (some .int) :: wsL_law
abbrev wv_X5_isAble : List Cond := .code yX5_isAble cX5_isAble 5 (some .boolean) :: wsL_law
abbrev wv_X5_isTaken : List Cond := .code yX5_isTaken cX5_isTaken 5 (some .boolean) :: wsL_law
abbrev wv_X5_takeAway : List Cond := .code yX5_takeAway cX5_takeAway 7 (some .boolean) :: wsL_law
abbrev wv_X5_shrink : List Cond := .code yX5_shrink cX5_shrink 6 (some .boolean) :: wsL_law
abbrev wv_X5_look : List Cond := .code yX5_look cX5_look 6 none :: wsL_law
abbrev wv_X5_isAsk : List Cond := .code yX5_isAsk cX5_isAsk 2 (some .boolean) :: wsL_law
abbrev wv_X5_begins : List Cond := .code yX5_begins cX5_begins 2 (some .boolean) :: wsL_law
abbrev wv_X5_isDead : List Cond := .code yX5_isDead cX5_isDead 2 (some .boolean) :: wsL_law
abbrev wv_X5_isLive : List Cond := .code yX5_isLive cX5_isLive 4 (some .boolean) :: wsL_law
abbrev wv_X5_live : List Cond := .code yX5_live cX5_live 2 (some .boolean) :: wsL_law
abbrev wv_X5_parts : List Cond := .code yX5_parts cX5_parts 2 (some .int) :: wsL_law
abbrev wv_X5_part : List Cond := .code yX5_part cX5_part 6 (some .int) :: wsL_law
abbrev wv_X5_dead : List Cond := .code yX5_dead cX5_dead 5 (some .int) :: wsL_law
abbrev wv_X5_measure : List Cond := .code yX5_measure cX5_measure 6 (some .boolean) :: wsL_law
abbrev wv_X5_longest : List Cond := .code yX5_longest cX5_longest 4 (some .int) :: wsL_law
abbrev wv_X5_rank : List Cond := .code yX5_rank cX5_rank 3 (some .int) :: wsL_law
abbrev wv_X5_largest : List Cond := .code yX5_largest cX5_largest 2 (some .int) :: wsL_law
abbrev wv_X5_count : List Cond := .code yX5_count cX5_count 4 (some .int) :: wsL_law
theorem wl_good0 : wsL_law0.all goodWord = true := by decide +kernel
theorem wk_2 : Cond.initialized RX4 ∈ wsL_law := List.mem_of_getElem? (i := 2) (by decide +kernel)
theorem wk_5 : Cond.initialized RX5 ∈ wsL_law := List.mem_of_getElem? (i := 5) (by decide +kernel)
theorem wk_15 : Cond.initialized RX0 ∈ wsL_law := List.mem_of_getElem? (i := 15) (by decide +kernel)
theorem wk_16 : Cond.fieldLink RX4 10 "FairLoops" "graph" "LFairLoops$Graph;" ∈ wsL_law := List.mem_of_getElem? (i := 16) (by decide +kernel)
theorem wk_18 : Cond.fieldLink RX4 16 "FairLoops" "kinds" "[I" ∈ wsL_law := List.mem_of_getElem? (i := 18) (by decide +kernel)
theorem wk_21 : Cond.initialized RX2 ∈ wsL_law := List.mem_of_getElem? (i := 21) (by decide +kernel)
theorem wk_22 : Cond.fieldLink RX4 23 "FairLoops" "reach" "LFairLoops$Reach;" ∈ wsL_law := List.mem_of_getElem? (i := 22) (by decide +kernel)
theorem wk_25 : Cond.initialized RX1 ∈ wsL_law := List.mem_of_getElem? (i := 25) (by decide +kernel)
theorem wk_26 : Cond.fieldLink RX4 30 "FairLoops" "knots" "LFairLoops$Knots;" ∈ wsL_law := List.mem_of_getElem? (i := 26) (by decide +kernel)
theorem wk_29 : Cond.initialized RX3 ∈ wsL_law := List.mem_of_getElem? (i := 29) (by decide +kernel)
theorem wk_30 : Cond.fieldLink RX4 37 "FairLoops" "sums" "LFairLoops$Sums;" ∈ wsL_law := List.mem_of_getElem? (i := 30) (by decide +kernel)
theorem wk_31 : Cond.fieldLink RX4 41 "FairLoops" "ranks" "[I" ∈ wsL_law := List.mem_of_getElem? (i := 31) (by decide +kernel)
theorem wk_35 : Cond.fieldLink RX0 9 "FairLoops$Graph" "asks" "[I" ∈ wsL_law := List.mem_of_getElem? (i := 35) (by decide +kernel)
theorem wk_37 : Cond.fieldLink RX0 15 "FairLoops$Graph" "isEnd" "[Z" ∈ wsL_law := List.mem_of_getElem? (i := 37) (by decide +kernel)
theorem wk_38 : Cond.fieldLink RX0 19 "FairLoops$Graph" "able" "[I" ∈ wsL_law := List.mem_of_getElem? (i := 38) (by decide +kernel)
theorem wk_39 : Cond.fieldLink RX0 22 "FairLoops$Graph" "from" "[I" ∈ wsL_law := List.mem_of_getElem? (i := 39) (by decide +kernel)
theorem wk_40 : Cond.fieldLink RX0 25 "FairLoops$Graph" "to" "[I" ∈ wsL_law := List.mem_of_getElem? (i := 40) (by decide +kernel)
theorem wk_41 : Cond.fieldLink RX0 28 "FairLoops$Graph" "labelOf" "[I" ∈ wsL_law := List.mem_of_getElem? (i := 41) (by decide +kernel)
theorem wk_42 : Cond.fieldLink RX0 31 "FairLoops$Graph" "out" "[I" ∈ wsL_law := List.mem_of_getElem? (i := 42) (by decide +kernel)
theorem wk_43 : Cond.fieldLink RX0 34 "FairLoops$Graph" "start" "[I" ∈ wsL_law := List.mem_of_getElem? (i := 43) (by decide +kernel)
theorem wk_47 : Cond.fieldLink RX2 9 "FairLoops$Reach" "line" "[I" ∈ wsL_law := List.mem_of_getElem? (i := 47) (by decide +kernel)
theorem wk_48 : Cond.fieldLink RX2 15 "FairLoops$Reach" "far" "[I" ∈ wsL_law := List.mem_of_getElem? (i := 48) (by decide +kernel)
theorem wk_49 : Cond.fieldLink RX2 18 "FairLoops$Reach" "lastMove" "[I" ∈ wsL_law := List.mem_of_getElem? (i := 49) (by decide +kernel)
theorem wk_53 : Cond.fieldLink RX1 9 "FairLoops$Knots" "chosen" "[Z" ∈ wsL_law := List.mem_of_getElem? (i := 53) (by decide +kernel)
theorem wk_54 : Cond.fieldLink RX1 15 "FairLoops$Knots" "knotOf" "[I" ∈ wsL_law := List.mem_of_getElem? (i := 54) (by decide +kernel)
theorem wk_55 : Cond.fieldLink RX1 19 "FairLoops$Knots" "order" "[I" ∈ wsL_law := List.mem_of_getElem? (i := 55) (by decide +kernel)
theorem wk_56 : Cond.fieldLink RX1 22 "FairLoops$Knots" "entered" "[I" ∈ wsL_law := List.mem_of_getElem? (i := 56) (by decide +kernel)
theorem wk_57 : Cond.fieldLink RX1 25 "FairLoops$Knots" "low" "[I" ∈ wsL_law := List.mem_of_getElem? (i := 57) (by decide +kernel)
theorem wk_58 : Cond.fieldLink RX1 28 "FairLoops$Knots" "nextOut" "[I" ∈ wsL_law := List.mem_of_getElem? (i := 58) (by decide +kernel)
theorem wk_59 : Cond.fieldLink RX1 31 "FairLoops$Knots" "path" "[I" ∈ wsL_law := List.mem_of_getElem? (i := 59) (by decide +kernel)
theorem wk_60 : Cond.fieldLink RX1 34 "FairLoops$Knots" "open" "[I" ∈ wsL_law := List.mem_of_getElem? (i := 60) (by decide +kernel)
theorem wk_64 : Cond.fieldLink RX3 9 "FairLoops$Sums" "size" "[I" ∈ wsL_law := List.mem_of_getElem? (i := 64) (by decide +kernel)
theorem wk_65 : Cond.fieldLink RX3 15 "FairLoops$Sums" "lowest" "[I" ∈ wsL_law := List.mem_of_getElem? (i := 65) (by decide +kernel)
theorem wk_66 : Cond.fieldLink RX3 18 "FairLoops$Sums" "ableInAll" "[I" ∈ wsL_law := List.mem_of_getElem? (i := 66) (by decide +kernel)
theorem wk_67 : Cond.fieldLink RX3 21 "FairLoops$Sums" "inside" "[I" ∈ wsL_law := List.mem_of_getElem? (i := 67) (by decide +kernel)
theorem wk_68 : Cond.fieldLink RX3 24 "FairLoops$Sums" "goesRound" "[Z" ∈ wsL_law := List.mem_of_getElem? (i := 68) (by decide +kernel)
theorem wk_73 : Cond.fieldLink RX5 7 "FairLoopsModel" "asks" "[I" ∈ wsL_law := List.mem_of_getElem? (i := 73) (by decide +kernel)
theorem wk_74 : Cond.fieldLink RX5 13 "FairLoopsModel" "from" "[I" ∈ wsL_law := List.mem_of_getElem? (i := 74) (by decide +kernel)
theorem wk_75 : Cond.fieldLink RX5 16 "FairLoopsModel" "to" "[I" ∈ wsL_law := List.mem_of_getElem? (i := 75) (by decide +kernel)
theorem wk_76 : Cond.fieldLink RX5 19 "FairLoopsModel" "labelOf" "[I" ∈ wsL_law := List.mem_of_getElem? (i := 76) (by decide +kernel)
theorem wk_77 : Cond.fieldLink RX5 22 "FairLoopsModel" "how" "[I" ∈ wsL_law := List.mem_of_getElem? (i := 77) (by decide +kernel)
theorem wk_78 : Cond.fieldLink RX5 25 "FairLoopsModel" "first" "[I" ∈ wsL_law := List.mem_of_getElem? (i := 78) (by decide +kernel)
theorem wk_79 : Cond.fieldLink RX5 28 "FairLoopsModel" "last" "[I" ∈ wsL_law := List.mem_of_getElem? (i := 79) (by decide +kernel)
theorem wk_80 : Cond.fieldLink RX5 31 "FairLoopsModel" "next" "[I" ∈ wsL_law := List.mem_of_getElem? (i := 80) (by decide +kernel)
theorem wk_81 : Cond.fieldLink RX5 34 "FairLoopsModel" "end" "[Z" ∈ wsL_law := List.mem_of_getElem? (i := 81) (by decide +kernel)
theorem wk_82 : Cond.fieldLink RX5 38 "FairLoopsModel" "queue" "[I" ∈ wsL_law := List.mem_of_getElem? (i := 82) (by decide +kernel)
theorem wk_83 : Cond.fieldLink RX5 41 "FairLoopsModel" "by" "[I" ∈ wsL_law := List.mem_of_getElem? (i := 83) (by decide +kernel)
theorem wk_84 : Cond.fieldLink RX5 44 "FairLoopsModel" "row" "[I" ∈ wsL_law := List.mem_of_getElem? (i := 84) (by decide +kernel)
theorem wk_85 : Cond.fieldLink RX5 47 "FairLoopsModel" "isReached" "[Z" ∈ wsL_law := List.mem_of_getElem? (i := 85) (by decide +kernel)
theorem wk_86 : Cond.fieldLink RX5 50 "FairLoopsModel" "lookedAt" "I" ∈ wsL_law := List.mem_of_getElem? (i := 86) (by decide +kernel)
theorem wk_87 : Cond.fieldLink RX5 54 "FairLoopsModel" "alive" "[Z" ∈ wsL_law := List.mem_of_getElem? (i := 87) (by decide +kernel)
theorem wk_89 : Cond.fieldLink RX5 58 "FairLoopsModel" "reach" "[Z" ∈ wsL_law := List.mem_of_getElem? (i := 89) (by decide +kernel)
theorem wk_90 : Cond.fieldLink RX5 61 "FairLoopsModel" "its" "[Z" ∈ wsL_law := List.mem_of_getElem? (i := 90) (by decide +kernel)
theorem wk_92 : Cond.fieldLink RX5 67 "FairLoopsModel" "partOf" "[I" ∈ wsL_law := List.mem_of_getElem? (i := 92) (by decide +kernel)
theorem wk_93 : Cond.fieldLink RX5 70 "FairLoopsModel" "longestFrom" "[I" ∈ wsL_law := List.mem_of_getElem? (i := 93) (by decide +kernel)
theorem wk_108 : Cond.fieldLink RX4 51 "FairLoops$Graph" "states" "I" ∈ wsL_law := List.mem_of_getElem? (i := 108) (by decide +kernel)
theorem wk_109 : Cond.methodLink RX4 60 yX0_addState ∈ wsL_law := List.mem_of_getElem? (i := 109) (by decide +kernel)
theorem wk_110 : Cond.instanceMethod yX0_addState ∈ wsL_law := List.mem_of_getElem? (i := 110) (by decide +kernel)
theorem wk_111 : Cond.selects RX0 yX0_addState yX0_addState ∈ wsL_law := List.mem_of_getElem? (i := 111) (by decide +kernel)
theorem wk_112 : Cond.code yX0_addState cX0_addState 4 (some .int) ∈ wsL_law := List.mem_of_getElem? (i := 112) (by decide +kernel)
theorem wk_113 : Cond.fieldLink RX0 37 "FairLoops$Graph" "states" "I" ∈ wsL_law := List.mem_of_getElem? (i := 113) (by decide +kernel)
theorem wk_114 : Cond.fieldLink RX0 41 "FairLoops$Graph" "ends" "I" ∈ wsL_law := List.mem_of_getElem? (i := 114) (by decide +kernel)
theorem wk_115 : Cond.fieldLink RX0 44 "FairLoops$Graph" "moves" "I" ∈ wsL_law := List.mem_of_getElem? (i := 115) (by decide +kernel)
theorem wk_120 : Cond.fieldLink RX5 80 "FairLoopsModel" "states" "I" ∈ wsL_law := List.mem_of_getElem? (i := 120) (by decide +kernel)
theorem wk_121 : Cond.fieldLink RX5 73 "FairLoopsModel" "thrown" "I" ∈ wsL_law := List.mem_of_getElem? (i := 121) (by decide +kernel)
theorem wk_122 : Cond.methodLink RX5 83 yX5_changed ∈ wsL_law := List.mem_of_getElem? (i := 122) (by decide +kernel)
theorem wk_123 : Cond.instanceMethod yX5_changed ∈ wsL_law := List.mem_of_getElem? (i := 123) (by decide +kernel)
theorem wk_124 : Cond.selects RX5 yX5_changed yX5_changed ∈ wsL_law := List.mem_of_getElem? (i := 124) (by decide +kernel)
theorem wk_125 : Cond.code yX5_changed cX5_changed 1 none ∈ wsL_law := List.mem_of_getElem? (i := 125) (by decide +kernel)
theorem wk_126 : Cond.fieldLink RX5 76 "FairLoopsModel" "known" "Z" ∈ wsL_law := List.mem_of_getElem? (i := 126) (by decide +kernel)
theorem wk_138 : Cond.fieldLink RX4 75 "FairLoops$Graph" "moves" "I" ∈ wsL_law := List.mem_of_getElem? (i := 138) (by decide +kernel)
theorem wk_139 : Cond.methodLink RX4 64 yX0_hasState ∈ wsL_law := List.mem_of_getElem? (i := 139) (by decide +kernel)
theorem wk_140 : Cond.instanceMethod yX0_hasState ∈ wsL_law := List.mem_of_getElem? (i := 140) (by decide +kernel)
theorem wk_141 : Cond.selects RX0 yX0_hasState yX0_hasState ∈ wsL_law := List.mem_of_getElem? (i := 141) (by decide +kernel)
theorem wk_142 : Cond.code yX0_hasState cX0_hasState 2 (some .boolean) ∈ wsL_law := List.mem_of_getElem? (i := 142) (by decide +kernel)
theorem wk_143 : Cond.methodLink RX4 70 yX4_isLabel ∈ wsL_law := List.mem_of_getElem? (i := 143) (by decide +kernel)
theorem wk_144 : Cond.static yX4_isLabel ∈ wsL_law := List.mem_of_getElem? (i := 144) (by decide +kernel)
theorem wk_145 : Cond.code yX4_isLabel cX4_isLabel 1 (some .boolean) ∈ wsL_law := List.mem_of_getElem? (i := 145) (by decide +kernel)
theorem wk_146 : Cond.methodLink RX4 80 yX0_addMove ∈ wsL_law := List.mem_of_getElem? (i := 146) (by decide +kernel)
theorem wk_147 : Cond.instanceMethod yX0_addMove ∈ wsL_law := List.mem_of_getElem? (i := 147) (by decide +kernel)
theorem wk_148 : Cond.selects RX0 yX0_addMove yX0_addMove ∈ wsL_law := List.mem_of_getElem? (i := 148) (by decide +kernel)
theorem wk_149 : Cond.code yX0_addMove cX0_addMove 6 (some .int) ∈ wsL_law := List.mem_of_getElem? (i := 149) (by decide +kernel)
theorem wk_154 : Cond.fieldLink RX5 90 "FairLoopsModel" "moves" "I" ∈ wsL_law := List.mem_of_getElem? (i := 154) (by decide +kernel)
theorem wk_155 : Cond.methodLink RX5 86 yX5_isState ∈ wsL_law := List.mem_of_getElem? (i := 155) (by decide +kernel)
theorem wk_156 : Cond.instanceMethod yX5_isState ∈ wsL_law := List.mem_of_getElem? (i := 156) (by decide +kernel)
theorem wk_157 : Cond.selects RX5 yX5_isState yX5_isState ∈ wsL_law := List.mem_of_getElem? (i := 157) (by decide +kernel)
theorem wk_158 : Cond.code yX5_isState cX5_isState 2 (some .boolean) ∈ wsL_law := List.mem_of_getElem? (i := 158) (by decide +kernel)
theorem wk_177 : Cond.fieldLink RX4 93 "FairLoops$Reach" "found" "I" ∈ wsL_law := List.mem_of_getElem? (i := 177) (by decide +kernel)
theorem wk_178 : Cond.methodLink RX4 89 yX2_walk ∈ wsL_law := List.mem_of_getElem? (i := 178) (by decide +kernel)
theorem wk_179 : Cond.instanceMethod yX2_walk ∈ wsL_law := List.mem_of_getElem? (i := 179) (by decide +kernel)
theorem wk_180 : Cond.selects RX2 yX2_walk yX2_walk ∈ wsL_law := List.mem_of_getElem? (i := 180) (by decide +kernel)
theorem wk_181 : Cond.code yX2_walk cX2_walk 6 none ∈ wsL_law := List.mem_of_getElem? (i := 181) (by decide +kernel)
theorem wk_182 : Cond.fieldLink RX2 21 "FairLoops$Graph" "states" "I" ∈ wsL_law := List.mem_of_getElem? (i := 182) (by decide +kernel)
theorem wk_183 : Cond.fieldLink RX2 27 "FairLoops$Reach" "found" "I" ∈ wsL_law := List.mem_of_getElem? (i := 183) (by decide +kernel)
theorem wk_184 : Cond.fieldLink RX2 34 "FairLoops$Graph" "start" "[I" ∈ wsL_law := List.mem_of_getElem? (i := 184) (by decide +kernel)
theorem wk_185 : Cond.fieldLink RX2 37 "FairLoops$Graph" "out" "[I" ∈ wsL_law := List.mem_of_getElem? (i := 185) (by decide +kernel)
theorem wk_186 : Cond.fieldLink RX2 40 "FairLoops$Graph" "to" "[I" ∈ wsL_law := List.mem_of_getElem? (i := 186) (by decide +kernel)
theorem wk_187 : Cond.methodLink RX2 30 yX2_join ∈ wsL_law := List.mem_of_getElem? (i := 187) (by decide +kernel)
theorem wk_188 : Cond.instanceMethod yX2_join ∈ wsL_law := List.mem_of_getElem? (i := 188) (by decide +kernel)
theorem wk_189 : Cond.selects RX2 yX2_join yX2_join ∈ wsL_law := List.mem_of_getElem? (i := 189) (by decide +kernel)
theorem wk_190 : Cond.code yX2_join cX2_join 4 none ∈ wsL_law := List.mem_of_getElem? (i := 190) (by decide +kernel)
theorem wk_195 : Cond.fieldLink RX5 93 "FairLoopsModel" "come" "I" ∈ wsL_law := List.mem_of_getElem? (i := 195) (by decide +kernel)
theorem wk_196 : Cond.methodLink RX5 96 yX5_walk ∈ wsL_law := List.mem_of_getElem? (i := 196) (by decide +kernel)
theorem wk_197 : Cond.instanceMethod yX5_walk ∈ wsL_law := List.mem_of_getElem? (i := 197) (by decide +kernel)
theorem wk_198 : Cond.selects RX5 yX5_walk yX5_walk ∈ wsL_law := List.mem_of_getElem? (i := 198) (by decide +kernel)
theorem wk_199 : Cond.code yX5_walk cX5_walk 3 none ∈ wsL_law := List.mem_of_getElem? (i := 199) (by decide +kernel)
theorem wk_207 : Cond.methodLink RX4 96 yX4_refuseWrongAsk ∈ wsL_law := List.mem_of_getElem? (i := 207) (by decide +kernel)
theorem wk_208 : Cond.static yX4_refuseWrongAsk ∈ wsL_law := List.mem_of_getElem? (i := 208) (by decide +kernel)
theorem wk_209 : Cond.code yX4_refuseWrongAsk cX4_refuseWrongAsk 1 none ∈ wsL_law := List.mem_of_getElem? (i := 209) (by decide +kernel)
theorem wk_210 : Cond.methodLink RX4 100 yX4_alwaysServed ∈ wsL_law := List.mem_of_getElem? (i := 210) (by decide +kernel)
theorem wk_211 : Cond.instanceMethod yX4_alwaysServed ∈ wsL_law := List.mem_of_getElem? (i := 211) (by decide +kernel)
theorem wk_212 : Cond.selects RX4 yX4_alwaysServed yX4_alwaysServed ∈ wsL_law := List.mem_of_getElem? (i := 212) (by decide +kernel)
theorem wk_213 : Cond.code yX4_alwaysServed cX4_alwaysServed 2 (some .boolean) ∈ wsL_law := List.mem_of_getElem? (i := 213) (by decide +kernel)
theorem wk_214 : Cond.fieldLink RX4 106 "FairLoops$Knots" "found" "I" ∈ wsL_law := List.mem_of_getElem? (i := 214) (by decide +kernel)
theorem wk_215 : Cond.methodLink RX4 117 yX4_chooseStatesOf ∈ wsL_law := List.mem_of_getElem? (i := 215) (by decide +kernel)
theorem wk_216 : Cond.instanceMethod yX4_chooseStatesOf ∈ wsL_law := List.mem_of_getElem? (i := 216) (by decide +kernel)
theorem wk_217 : Cond.selects RX4 yX4_chooseStatesOf yX4_chooseStatesOf ∈ wsL_law := List.mem_of_getElem? (i := 217) (by decide +kernel)
theorem wk_218 : Cond.code yX4_chooseStatesOf cX4_chooseStatesOf 3 none ∈ wsL_law := List.mem_of_getElem? (i := 218) (by decide +kernel)
theorem wk_219 : Cond.fieldLink RX4 138 "FairLoops$Knots" "chosen" "[Z" ∈ wsL_law := List.mem_of_getElem? (i := 219) (by decide +kernel)
theorem wk_220 : Cond.fieldLink RX4 167 "FairLoops$Reach" "far" "[I" ∈ wsL_law := List.mem_of_getElem? (i := 220) (by decide +kernel)
theorem wk_221 : Cond.fieldLink RX4 170 "FairLoops$Graph" "asks" "[I" ∈ wsL_law := List.mem_of_getElem? (i := 221) (by decide +kernel)
theorem wk_222 : Cond.methodLink RX4 120 yX4_deadEnd ∈ wsL_law := List.mem_of_getElem? (i := 222) (by decide +kernel)
theorem wk_223 : Cond.instanceMethod yX4_deadEnd ∈ wsL_law := List.mem_of_getElem? (i := 223) (by decide +kernel)
theorem wk_224 : Cond.selects RX4 yX4_deadEnd yX4_deadEnd ∈ wsL_law := List.mem_of_getElem? (i := 224) (by decide +kernel)
theorem wk_225 : Cond.code yX4_deadEnd cX4_deadEnd 4 (some .int) ∈ wsL_law := List.mem_of_getElem? (i := 225) (by decide +kernel)
theorem wk_226 : Cond.methodLink RX4 206 yX0_isStuck ∈ wsL_law := List.mem_of_getElem? (i := 226) (by decide +kernel)
theorem wk_227 : Cond.instanceMethod yX0_isStuck ∈ wsL_law := List.mem_of_getElem? (i := 227) (by decide +kernel)
theorem wk_228 : Cond.selects RX0 yX0_isStuck yX0_isStuck ∈ wsL_law := List.mem_of_getElem? (i := 228) (by decide +kernel)
theorem wk_229 : Cond.code yX0_isStuck cX0_isStuck 2 (some .boolean) ∈ wsL_law := List.mem_of_getElem? (i := 229) (by decide +kernel)
theorem wk_230 : Cond.methodLink RX4 164 yX4_keepFairStates ∈ wsL_law := List.mem_of_getElem? (i := 230) (by decide +kernel)
theorem wk_231 : Cond.instanceMethod yX4_keepFairStates ∈ wsL_law := List.mem_of_getElem? (i := 231) (by decide +kernel)
theorem wk_232 : Cond.selects RX4 yX4_keepFairStates yX4_keepFairStates ∈ wsL_law := List.mem_of_getElem? (i := 232) (by decide +kernel)
theorem wk_233 : Cond.code yX4_keepFairStates cX4_keepFairStates 5 none ∈ wsL_law := List.mem_of_getElem? (i := 233) (by decide +kernel)
theorem wk_234 : Cond.methodLink RX4 151 yX4_labelsOfKind ∈ wsL_law := List.mem_of_getElem? (i := 234) (by decide +kernel)
theorem wk_235 : Cond.instanceMethod yX4_labelsOfKind ∈ wsL_law := List.mem_of_getElem? (i := 235) (by decide +kernel)
theorem wk_236 : Cond.selects RX4 yX4_labelsOfKind yX4_labelsOfKind ∈ wsL_law := List.mem_of_getElem? (i := 236) (by decide +kernel)
theorem wk_237 : Cond.code yX4_labelsOfKind cX4_labelsOfKind 4 (some .int) ∈ wsL_law := List.mem_of_getElem? (i := 237) (by decide +kernel)
theorem wk_238 : Cond.methodLink RX4 173 yX1_find ∈ wsL_law := List.mem_of_getElem? (i := 238) (by decide +kernel)
theorem wk_239 : Cond.instanceMethod yX1_find ∈ wsL_law := List.mem_of_getElem? (i := 239) (by decide +kernel)
theorem wk_240 : Cond.selects RX1 yX1_find yX1_find ∈ wsL_law := List.mem_of_getElem? (i := 240) (by decide +kernel)
theorem wk_241 : Cond.code yX1_find cX1_find 3 none ∈ wsL_law := List.mem_of_getElem? (i := 241) (by decide +kernel)
theorem wk_242 : Cond.fieldLink RX1 37 "FairLoops$Knots" "found" "I" ∈ wsL_law := List.mem_of_getElem? (i := 242) (by decide +kernel)
theorem wk_243 : Cond.fieldLink RX1 41 "FairLoops$Knots" "closed" "I" ∈ wsL_law := List.mem_of_getElem? (i := 243) (by decide +kernel)
theorem wk_244 : Cond.fieldLink RX1 44 "FairLoops$Knots" "entries" "I" ∈ wsL_law := List.mem_of_getElem? (i := 244) (by decide +kernel)
theorem wk_245 : Cond.fieldLink RX1 47 "FairLoops$Knots" "depth" "I" ∈ wsL_law := List.mem_of_getElem? (i := 245) (by decide +kernel)
theorem wk_246 : Cond.fieldLink RX1 50 "FairLoops$Knots" "opened" "I" ∈ wsL_law := List.mem_of_getElem? (i := 246) (by decide +kernel)
theorem wk_247 : Cond.fieldLink RX1 53 "FairLoops$Graph" "states" "I" ∈ wsL_law := List.mem_of_getElem? (i := 247) (by decide +kernel)
theorem wk_248 : Cond.methodLink RX1 58 yX1_walkFrom ∈ wsL_law := List.mem_of_getElem? (i := 248) (by decide +kernel)
theorem wk_249 : Cond.instanceMethod yX1_walkFrom ∈ wsL_law := List.mem_of_getElem? (i := 249) (by decide +kernel)
theorem wk_250 : Cond.selects RX1 yX1_walkFrom yX1_walkFrom ∈ wsL_law := List.mem_of_getElem? (i := 250) (by decide +kernel)
theorem wk_251 : Cond.code yX1_walkFrom cX1_walkFrom 7 none ∈ wsL_law := List.mem_of_getElem? (i := 251) (by decide +kernel)
theorem wk_252 : Cond.fieldLink RX1 65 "FairLoops$Graph" "moves" "I" ∈ wsL_law := List.mem_of_getElem? (i := 252) (by decide +kernel)
theorem wk_253 : Cond.fieldLink RX1 68 "FairLoops$Graph" "start" "[I" ∈ wsL_law := List.mem_of_getElem? (i := 253) (by decide +kernel)
theorem wk_254 : Cond.fieldLink RX1 78 "FairLoops$Graph" "to" "[I" ∈ wsL_law := List.mem_of_getElem? (i := 254) (by decide +kernel)
theorem wk_255 : Cond.fieldLink RX1 81 "FairLoops$Graph" "out" "[I" ∈ wsL_law := List.mem_of_getElem? (i := 255) (by decide +kernel)
theorem wk_256 : Cond.methodLink RX1 62 yX1_enter ∈ wsL_law := List.mem_of_getElem? (i := 256) (by decide +kernel)
theorem wk_257 : Cond.instanceMethod yX1_enter ∈ wsL_law := List.mem_of_getElem? (i := 257) (by decide +kernel)
theorem wk_258 : Cond.selects RX1 yX1_enter yX1_enter ∈ wsL_law := List.mem_of_getElem? (i := 258) (by decide +kernel)
theorem wk_259 : Cond.code yX1_enter cX1_enter 3 none ∈ wsL_law := List.mem_of_getElem? (i := 259) (by decide +kernel)
theorem wk_260 : Cond.methodLink RX1 71 yX1_closeKnotBegunBy ∈ wsL_law := List.mem_of_getElem? (i := 260) (by decide +kernel)
theorem wk_261 : Cond.instanceMethod yX1_closeKnotBegunBy ∈ wsL_law := List.mem_of_getElem? (i := 261) (by decide +kernel)
theorem wk_262 : Cond.selects RX1 yX1_closeKnotBegunBy yX1_closeKnotBegunBy ∈ wsL_law := List.mem_of_getElem? (i := 262) (by decide +kernel)
theorem wk_263 : Cond.code yX1_closeKnotBegunBy cX1_closeKnotBegunBy 3 none ∈ wsL_law := List.mem_of_getElem? (i := 263) (by decide +kernel)
theorem wk_264 : Cond.methodLink RX1 75 yX1_leave ∈ wsL_law := List.mem_of_getElem? (i := 264) (by decide +kernel)
theorem wk_265 : Cond.instanceMethod yX1_leave ∈ wsL_law := List.mem_of_getElem? (i := 265) (by decide +kernel)
theorem wk_266 : Cond.selects RX1 yX1_leave yX1_leave ∈ wsL_law := List.mem_of_getElem? (i := 266) (by decide +kernel)
theorem wk_267 : Cond.code yX1_leave cX1_leave 2 none ∈ wsL_law := List.mem_of_getElem? (i := 267) (by decide +kernel)
theorem wk_268 : Cond.methodLink RX1 84 yX1_lower ∈ wsL_law := List.mem_of_getElem? (i := 268) (by decide +kernel)
theorem wk_269 : Cond.instanceMethod yX1_lower ∈ wsL_law := List.mem_of_getElem? (i := 269) (by decide +kernel)
theorem wk_270 : Cond.selects RX1 yX1_lower yX1_lower ∈ wsL_law := List.mem_of_getElem? (i := 270) (by decide +kernel)
theorem wk_271 : Cond.code yX1_lower cX1_lower 3 none ∈ wsL_law := List.mem_of_getElem? (i := 271) (by decide +kernel)
theorem wk_272 : Cond.methodLink RX4 176 yX3_take ∈ wsL_law := List.mem_of_getElem? (i := 272) (by decide +kernel)
theorem wk_273 : Cond.instanceMethod yX3_take ∈ wsL_law := List.mem_of_getElem? (i := 273) (by decide +kernel)
theorem wk_274 : Cond.selects RX3 yX3_take yX3_take ∈ wsL_law := List.mem_of_getElem? (i := 274) (by decide +kernel)
theorem wk_275 : Cond.code yX3_take cX3_take 6 none ∈ wsL_law := List.mem_of_getElem? (i := 275) (by decide +kernel)
theorem wk_276 : Cond.fieldLink RX3 28 "FairLoops$Knots" "found" "I" ∈ wsL_law := List.mem_of_getElem? (i := 276) (by decide +kernel)
theorem wk_277 : Cond.fieldLink RX3 34 "FairLoops$Graph" "states" "I" ∈ wsL_law := List.mem_of_getElem? (i := 277) (by decide +kernel)
theorem wk_278 : Cond.fieldLink RX3 39 "FairLoops$Knots" "chosen" "[Z" ∈ wsL_law := List.mem_of_getElem? (i := 278) (by decide +kernel)
theorem wk_279 : Cond.fieldLink RX3 42 "FairLoops$Knots" "knotOf" "[I" ∈ wsL_law := List.mem_of_getElem? (i := 279) (by decide +kernel)
theorem wk_280 : Cond.fieldLink RX3 45 "FairLoops$Graph" "able" "[I" ∈ wsL_law := List.mem_of_getElem? (i := 280) (by decide +kernel)
theorem wk_281 : Cond.fieldLink RX3 52 "FairLoops$Graph" "moves" "I" ∈ wsL_law := List.mem_of_getElem? (i := 281) (by decide +kernel)
theorem wk_282 : Cond.fieldLink RX3 55 "FairLoops$Graph" "from" "[I" ∈ wsL_law := List.mem_of_getElem? (i := 282) (by decide +kernel)
theorem wk_283 : Cond.fieldLink RX3 58 "FairLoops$Graph" "to" "[I" ∈ wsL_law := List.mem_of_getElem? (i := 283) (by decide +kernel)
theorem wk_284 : Cond.fieldLink RX3 61 "FairLoops$Graph" "labelOf" "[I" ∈ wsL_law := List.mem_of_getElem? (i := 284) (by decide +kernel)
theorem wk_285 : Cond.methodLink RX3 48 yX3_addState ∈ wsL_law := List.mem_of_getElem? (i := 285) (by decide +kernel)
theorem wk_286 : Cond.instanceMethod yX3_addState ∈ wsL_law := List.mem_of_getElem? (i := 286) (by decide +kernel)
theorem wk_287 : Cond.selects RX3 yX3_addState yX3_addState ∈ wsL_law := List.mem_of_getElem? (i := 287) (by decide +kernel)
theorem wk_288 : Cond.code yX3_addState cX3_addState 4 none ∈ wsL_law := List.mem_of_getElem? (i := 288) (by decide +kernel)
theorem wk_289 : Cond.methodLink RX3 64 yX3_addMove ∈ wsL_law := List.mem_of_getElem? (i := 289) (by decide +kernel)
theorem wk_290 : Cond.instanceMethod yX3_addMove ∈ wsL_law := List.mem_of_getElem? (i := 290) (by decide +kernel)
theorem wk_291 : Cond.selects RX3 yX3_addMove yX3_addMove ∈ wsL_law := List.mem_of_getElem? (i := 291) (by decide +kernel)
theorem wk_292 : Cond.code yX3_addMove cX3_addMove 3 none ∈ wsL_law := List.mem_of_getElem? (i := 292) (by decide +kernel)
theorem wk_293 : Cond.methodLink RX4 180 yX4_dropUnfairStates ∈ wsL_law := List.mem_of_getElem? (i := 293) (by decide +kernel)
theorem wk_294 : Cond.instanceMethod yX4_dropUnfairStates ∈ wsL_law := List.mem_of_getElem? (i := 294) (by decide +kernel)
theorem wk_295 : Cond.selects RX4 yX4_dropUnfairStates yX4_dropUnfairStates ∈ wsL_law := List.mem_of_getElem? (i := 295) (by decide +kernel)
theorem wk_296 : Cond.code yX4_dropUnfairStates cX4_dropUnfairStates 5 (some .boolean) ∈ wsL_law := List.mem_of_getElem? (i := 296) (by decide +kernel)
theorem wk_297 : Cond.methodLink RX4 184 yX4_isUnfair ∈ wsL_law := List.mem_of_getElem? (i := 297) (by decide +kernel)
theorem wk_298 : Cond.instanceMethod yX4_isUnfair ∈ wsL_law := List.mem_of_getElem? (i := 298) (by decide +kernel)
theorem wk_299 : Cond.selects RX4 yX4_isUnfair yX4_isUnfair ∈ wsL_law := List.mem_of_getElem? (i := 299) (by decide +kernel)
theorem wk_300 : Cond.code yX4_isUnfair cX4_isUnfair 6 (some .boolean) ∈ wsL_law := List.mem_of_getElem? (i := 300) (by decide +kernel)
theorem wk_301 : Cond.fieldLink RX4 188 "FairLoops$Knots" "knotOf" "[I" ∈ wsL_law := List.mem_of_getElem? (i := 301) (by decide +kernel)
theorem wk_302 : Cond.fieldLink RX4 191 "FairLoops$Sums" "inside" "[I" ∈ wsL_law := List.mem_of_getElem? (i := 302) (by decide +kernel)
theorem wk_303 : Cond.fieldLink RX4 194 "FairLoops$Sums" "goesRound" "[Z" ∈ wsL_law := List.mem_of_getElem? (i := 303) (by decide +kernel)
theorem wk_304 : Cond.fieldLink RX4 197 "FairLoops$Sums" "ableInAll" "[I" ∈ wsL_law := List.mem_of_getElem? (i := 304) (by decide +kernel)
theorem wk_305 : Cond.fieldLink RX4 200 "FairLoops$Graph" "able" "[I" ∈ wsL_law := List.mem_of_getElem? (i := 305) (by decide +kernel)
theorem wk_310 : Cond.methodLink RX5 141 yX5_isAsk ∈ wsL_law := List.mem_of_getElem? (i := 310) (by decide +kernel)
theorem wk_311 : Cond.instanceMethod yX5_isAsk ∈ wsL_law := List.mem_of_getElem? (i := 311) (by decide +kernel)
theorem wk_312 : Cond.selects RX5 yX5_isAsk yX5_isAsk ∈ wsL_law := List.mem_of_getElem? (i := 312) (by decide +kernel)
theorem wk_313 : Cond.code yX5_isAsk cX5_isAsk 2 (some .boolean) ∈ wsL_law := List.mem_of_getElem? (i := 313) (by decide +kernel)
theorem wk_314 : Cond.methodLink RX5 144 yX5_isLive ∈ wsL_law := List.mem_of_getElem? (i := 314) (by decide +kernel)
theorem wk_315 : Cond.instanceMethod yX5_isLive ∈ wsL_law := List.mem_of_getElem? (i := 315) (by decide +kernel)
theorem wk_316 : Cond.selects RX5 yX5_isLive yX5_isLive ∈ wsL_law := List.mem_of_getElem? (i := 316) (by decide +kernel)
theorem wk_317 : Cond.code yX5_isLive cX5_isLive 4 (some .boolean) ∈ wsL_law := List.mem_of_getElem? (i := 317) (by decide +kernel)
theorem wk_318 : Cond.fieldLink RX5 129 "FairLoopsModel" "parts" "I" ∈ wsL_law := List.mem_of_getElem? (i := 318) (by decide +kernel)
theorem wk_319 : Cond.methodLink RX5 135 yX5_look ∈ wsL_law := List.mem_of_getElem? (i := 319) (by decide +kernel)
theorem wk_320 : Cond.instanceMethod yX5_look ∈ wsL_law := List.mem_of_getElem? (i := 320) (by decide +kernel)
theorem wk_321 : Cond.selects RX5 yX5_look yX5_look ∈ wsL_law := List.mem_of_getElem? (i := 321) (by decide +kernel)
theorem wk_322 : Cond.code yX5_look cX5_look 6 none ∈ wsL_law := List.mem_of_getElem? (i := 322) (by decide +kernel)
theorem wk_323 : Cond.fieldLink RX5 123 "FairLoopsModel" "whole" "I" ∈ wsL_law := List.mem_of_getElem? (i := 323) (by decide +kernel)
theorem wk_324 : Cond.methodLink RX5 119 yX5_divide ∈ wsL_law := List.mem_of_getElem? (i := 324) (by decide +kernel)
theorem wk_325 : Cond.instanceMethod yX5_divide ∈ wsL_law := List.mem_of_getElem? (i := 325) (by decide +kernel)
theorem wk_326 : Cond.selects RX5 yX5_divide yX5_divide ∈ wsL_law := List.mem_of_getElem? (i := 326) (by decide +kernel)
theorem wk_327 : Cond.code yX5_divide cX5_divide 4 (some .int) ∈ wsL_law := List.mem_of_getElem? (i := 327) (by decide +kernel)
theorem wk_328 : Cond.methodLink RX5 103 yX5_close ∈ wsL_law := List.mem_of_getElem? (i := 328) (by decide +kernel)
theorem wk_329 : Cond.instanceMethod yX5_close ∈ wsL_law := List.mem_of_getElem? (i := 329) (by decide +kernel)
theorem wk_330 : Cond.selects RX5 yX5_close yX5_close ∈ wsL_law := List.mem_of_getElem? (i := 330) (by decide +kernel)
theorem wk_331 : Cond.code yX5_close cX5_close 3 none ∈ wsL_law := List.mem_of_getElem? (i := 331) (by decide +kernel)
theorem wk_332 : Cond.methodLink RX5 99 yX5_spread ∈ wsL_law := List.mem_of_getElem? (i := 332) (by decide +kernel)
theorem wk_333 : Cond.instanceMethod yX5_spread ∈ wsL_law := List.mem_of_getElem? (i := 333) (by decide +kernel)
theorem wk_334 : Cond.selects RX5 yX5_spread yX5_spread ∈ wsL_law := List.mem_of_getElem? (i := 334) (by decide +kernel)
theorem wk_335 : Cond.code yX5_spread cX5_spread 7 none ∈ wsL_law := List.mem_of_getElem? (i := 335) (by decide +kernel)
theorem wk_336 : Cond.methodLink RX5 106 yX5_together ∈ wsL_law := List.mem_of_getElem? (i := 336) (by decide +kernel)
theorem wk_337 : Cond.instanceMethod yX5_together ∈ wsL_law := List.mem_of_getElem? (i := 337) (by decide +kernel)
theorem wk_338 : Cond.selects RX5 yX5_together yX5_together ∈ wsL_law := List.mem_of_getElem? (i := 338) (by decide +kernel)
theorem wk_339 : Cond.code yX5_together cX5_together 3 (some .boolean) ∈ wsL_law := List.mem_of_getElem? (i := 339) (by decide +kernel)
theorem wk_340 : Cond.methodLink RX5 126 yX5_shrink ∈ wsL_law := List.mem_of_getElem? (i := 340) (by decide +kernel)
theorem wk_341 : Cond.instanceMethod yX5_shrink ∈ wsL_law := List.mem_of_getElem? (i := 341) (by decide +kernel)
theorem wk_342 : Cond.selects RX5 yX5_shrink yX5_shrink ∈ wsL_law := List.mem_of_getElem? (i := 342) (by decide +kernel)
theorem wk_343 : Cond.code yX5_shrink cX5_shrink 6 (some .boolean) ∈ wsL_law := List.mem_of_getElem? (i := 343) (by decide +kernel)
theorem wk_344 : Cond.methodLink RX5 116 yX5_takeAway ∈ wsL_law := List.mem_of_getElem? (i := 344) (by decide +kernel)
theorem wk_345 : Cond.instanceMethod yX5_takeAway ∈ wsL_law := List.mem_of_getElem? (i := 345) (by decide +kernel)
theorem wk_346 : Cond.selects RX5 yX5_takeAway yX5_takeAway ∈ wsL_law := List.mem_of_getElem? (i := 346) (by decide +kernel)
theorem wk_347 : Cond.code yX5_takeAway cX5_takeAway 7 (some .boolean) ∈ wsL_law := List.mem_of_getElem? (i := 347) (by decide +kernel)
theorem wk_348 : Cond.methodLink RX5 110 yX5_isTaken ∈ wsL_law := List.mem_of_getElem? (i := 348) (by decide +kernel)
theorem wk_349 : Cond.instanceMethod yX5_isTaken ∈ wsL_law := List.mem_of_getElem? (i := 349) (by decide +kernel)
theorem wk_350 : Cond.selects RX5 yX5_isTaken yX5_isTaken ∈ wsL_law := List.mem_of_getElem? (i := 350) (by decide +kernel)
theorem wk_351 : Cond.code yX5_isTaken cX5_isTaken 5 (some .boolean) ∈ wsL_law := List.mem_of_getElem? (i := 351) (by decide +kernel)
theorem wk_352 : Cond.methodLink RX5 113 yX5_isAble ∈ wsL_law := List.mem_of_getElem? (i := 352) (by decide +kernel)
theorem wk_353 : Cond.instanceMethod yX5_isAble ∈ wsL_law := List.mem_of_getElem? (i := 353) (by decide +kernel)
theorem wk_354 : Cond.selects RX5 yX5_isAble yX5_isAble ∈ wsL_law := List.mem_of_getElem? (i := 354) (by decide +kernel)
theorem wk_355 : Cond.code yX5_isAble cX5_isAble 5 (some .boolean) ∈ wsL_law := List.mem_of_getElem? (i := 355) (by decide +kernel)
theorem wk_356 : Cond.methodLink RX5 138 yX5_isDead ∈ wsL_law := List.mem_of_getElem? (i := 356) (by decide +kernel)
theorem wk_357 : Cond.instanceMethod yX5_isDead ∈ wsL_law := List.mem_of_getElem? (i := 357) (by decide +kernel)
theorem wk_358 : Cond.selects RX5 yX5_isDead yX5_isDead ∈ wsL_law := List.mem_of_getElem? (i := 358) (by decide +kernel)
theorem wk_359 : Cond.code yX5_isDead cX5_isDead 2 (some .boolean) ∈ wsL_law := List.mem_of_getElem? (i := 359) (by decide +kernel)
theorem wk_360 : Cond.methodLink RX5 132 yX5_begins ∈ wsL_law := List.mem_of_getElem? (i := 360) (by decide +kernel)
theorem wk_361 : Cond.instanceMethod yX5_begins ∈ wsL_law := List.mem_of_getElem? (i := 361) (by decide +kernel)
theorem wk_362 : Cond.selects RX5 yX5_begins yX5_begins ∈ wsL_law := List.mem_of_getElem? (i := 362) (by decide +kernel)
theorem wk_363 : Cond.code yX5_begins cX5_begins 2 (some .boolean) ∈ wsL_law := List.mem_of_getElem? (i := 363) (by decide +kernel)
theorem wk_371 : Cond.methodLink RX4 103 yX4_findFairParts ∈ wsL_law := List.mem_of_getElem? (i := 371) (by decide +kernel)
theorem wk_372 : Cond.instanceMethod yX4_findFairParts ∈ wsL_law := List.mem_of_getElem? (i := 372) (by decide +kernel)
theorem wk_373 : Cond.selects RX4 yX4_findFairParts yX4_findFairParts ∈ wsL_law := List.mem_of_getElem? (i := 373) (by decide +kernel)
theorem wk_374 : Cond.code yX4_findFairParts cX4_findFairParts 2 none ∈ wsL_law := List.mem_of_getElem? (i := 374) (by decide +kernel)
theorem wk_386 : Cond.methodLink RX4 107 yX4_knotByLowestState ∈ wsL_law := List.mem_of_getElem? (i := 386) (by decide +kernel)
theorem wk_387 : Cond.instanceMethod yX4_knotByLowestState ∈ wsL_law := List.mem_of_getElem? (i := 387) (by decide +kernel)
theorem wk_388 : Cond.selects RX4 yX4_knotByLowestState yX4_knotByLowestState ∈ wsL_law := List.mem_of_getElem? (i := 388) (by decide +kernel)
theorem wk_389 : Cond.code yX4_knotByLowestState cX4_knotByLowestState 4 (some .int) ∈ wsL_law := List.mem_of_getElem? (i := 389) (by decide +kernel)
theorem wk_390 : Cond.fieldLink RX4 203 "FairLoops$Sums" "lowest" "[I" ∈ wsL_law := List.mem_of_getElem? (i := 390) (by decide +kernel)
theorem wk_391 : Cond.methodLink RX4 111 yX4_stateOfKnot ∈ wsL_law := List.mem_of_getElem? (i := 391) (by decide +kernel)
theorem wk_392 : Cond.instanceMethod yX4_stateOfKnot ∈ wsL_law := List.mem_of_getElem? (i := 392) (by decide +kernel)
theorem wk_393 : Cond.selects RX4 yX4_stateOfKnot yX4_stateOfKnot ∈ wsL_law := List.mem_of_getElem? (i := 393) (by decide +kernel)
theorem wk_394 : Cond.code yX4_stateOfKnot cX4_stateOfKnot 5 (some .int) ∈ wsL_law := List.mem_of_getElem? (i := 394) (by decide +kernel)
theorem wk_417 : Cond.methodLink RX4 125 yX4_findParts ∈ wsL_law := List.mem_of_getElem? (i := 417) (by decide +kernel)
theorem wk_418 : Cond.instanceMethod yX4_findParts ∈ wsL_law := List.mem_of_getElem? (i := 418) (by decide +kernel)
theorem wk_419 : Cond.selects RX4 yX4_findParts yX4_findParts ∈ wsL_law := List.mem_of_getElem? (i := 419) (by decide +kernel)
theorem wk_420 : Cond.code yX4_findParts cX4_findParts 2 none ∈ wsL_law := List.mem_of_getElem? (i := 420) (by decide +kernel)
theorem wk_421 : Cond.methodLink RX4 128 yX3_largestSize ∈ wsL_law := List.mem_of_getElem? (i := 421) (by decide +kernel)
theorem wk_422 : Cond.instanceMethod yX3_largestSize ∈ wsL_law := List.mem_of_getElem? (i := 422) (by decide +kernel)
theorem wk_423 : Cond.selects RX3 yX3_largestSize yX3_largestSize ∈ wsL_law := List.mem_of_getElem? (i := 423) (by decide +kernel)
theorem wk_424 : Cond.code yX3_largestSize cX3_largestSize 4 (some .int) ∈ wsL_law := List.mem_of_getElem? (i := 424) (by decide +kernel)
theorem wk_425 : Cond.methodLink RX4 131 yX4_fillRanks ∈ wsL_law := List.mem_of_getElem? (i := 425) (by decide +kernel)
theorem wk_426 : Cond.instanceMethod yX4_fillRanks ∈ wsL_law := List.mem_of_getElem? (i := 426) (by decide +kernel)
theorem wk_427 : Cond.selects RX4 yX4_fillRanks yX4_fillRanks ∈ wsL_law := List.mem_of_getElem? (i := 427) (by decide +kernel)
theorem wk_428 : Cond.code yX4_fillRanks cX4_fillRanks 4 (some .int) ∈ wsL_law := List.mem_of_getElem? (i := 428) (by decide +kernel)
theorem wk_429 : Cond.fieldLink RX4 209 "FairLoops$Knots" "closed" "I" ∈ wsL_law := List.mem_of_getElem? (i := 429) (by decide +kernel)
theorem wk_430 : Cond.fieldLink RX4 212 "FairLoops$Knots" "order" "[I" ∈ wsL_law := List.mem_of_getElem? (i := 430) (by decide +kernel)
theorem wk_431 : Cond.methodLink RX4 215 yX4_rankAbove ∈ wsL_law := List.mem_of_getElem? (i := 431) (by decide +kernel)
theorem wk_432 : Cond.instanceMethod yX4_rankAbove ∈ wsL_law := List.mem_of_getElem? (i := 432) (by decide +kernel)
theorem wk_433 : Cond.selects RX4 yX4_rankAbove yX4_rankAbove ∈ wsL_law := List.mem_of_getElem? (i := 433) (by decide +kernel)
theorem wk_434 : Cond.code yX4_rankAbove cX4_rankAbove 5 (some .int) ∈ wsL_law := List.mem_of_getElem? (i := 434) (by decide +kernel)
theorem wk_435 : Cond.fieldLink RX4 218 "FairLoops$Graph" "start" "[I" ∈ wsL_law := List.mem_of_getElem? (i := 435) (by decide +kernel)
theorem wk_436 : Cond.fieldLink RX4 221 "FairLoops$Graph" "to" "[I" ∈ wsL_law := List.mem_of_getElem? (i := 436) (by decide +kernel)
theorem wk_437 : Cond.fieldLink RX4 224 "FairLoops$Graph" "out" "[I" ∈ wsL_law := List.mem_of_getElem? (i := 437) (by decide +kernel)
theorem wk_442 : Cond.methodLink RX5 147 yX5_measure ∈ wsL_law := List.mem_of_getElem? (i := 442) (by decide +kernel)
theorem wk_443 : Cond.instanceMethod yX5_measure ∈ wsL_law := List.mem_of_getElem? (i := 443) (by decide +kernel)
theorem wk_444 : Cond.selects RX5 yX5_measure yX5_measure ∈ wsL_law := List.mem_of_getElem? (i := 444) (by decide +kernel)
theorem wk_445 : Cond.code yX5_measure cX5_measure 6 (some .boolean) ∈ wsL_law := List.mem_of_getElem? (i := 445) (by decide +kernel)
theorem wk_453 : Cond.methodLink RX4 135 yX4_refuseWrongState ∈ wsL_law := List.mem_of_getElem? (i := 453) (by decide +kernel)
theorem wk_454 : Cond.instanceMethod yX4_refuseWrongState ∈ wsL_law := List.mem_of_getElem? (i := 454) (by decide +kernel)
theorem wk_455 : Cond.selects RX4 yX4_refuseWrongState yX4_refuseWrongState ∈ wsL_law := List.mem_of_getElem? (i := 455) (by decide +kernel)
theorem wk_456 : Cond.code yX4_refuseWrongState cX4_refuseWrongState 2 none ∈ wsL_law := List.mem_of_getElem? (i := 456) (by decide +kernel)
theorem wk_468 : Cond.methodLink RX4 144 yX2_moveOnWayTo ∈ wsL_law := List.mem_of_getElem? (i := 468) (by decide +kernel)
theorem wk_469 : Cond.instanceMethod yX2_moveOnWayTo ∈ wsL_law := List.mem_of_getElem? (i := 469) (by decide +kernel)
theorem wk_470 : Cond.selects RX2 yX2_moveOnWayTo yX2_moveOnWayTo ∈ wsL_law := List.mem_of_getElem? (i := 470) (by decide +kernel)
theorem wk_471 : Cond.code yX2_moveOnWayTo cX2_moveOnWayTo 6 (some .int) ∈ wsL_law := List.mem_of_getElem? (i := 471) (by decide +kernel)
theorem wk_472 : Cond.fieldLink RX2 43 "FairLoops$Graph" "from" "[I" ∈ wsL_law := List.mem_of_getElem? (i := 472) (by decide +kernel)
theorem wk_492 : Cond.fieldLink RX4 148 "FairLoops$Graph" "ends" "I" ∈ wsL_law := List.mem_of_getElem? (i := 492) (by decide +kernel)
theorem wk_493 : Cond.methodLink RX4 154 yJ6_bitCount_0f7a4 ∈ wsL_law := List.mem_of_getElem? (i := 493) (by decide +kernel)
theorem wk_494 : Cond.static yJ6_bitCount_0f7a4 ∈ wsL_law := List.mem_of_getElem? (i := 494) (by decide +kernel)
theorem wk_495 : Cond.initialized RJ6 ∈ wsL_law := List.mem_of_getElem? (i := 495) (by decide +kernel)
theorem wk_496 : Cond.code yJ6_bitCount_0f7a4 cJ6_bitCount_0f7a4 1 (some .int) ∈ wsL_law := List.mem_of_getElem? (i := 496) (by decide +kernel)
theorem wk_497 : Cond.constant RJ6 265 (1431655765) ∈ wsL_law := List.mem_of_getElem? (i := 497) (by decide +kernel)
theorem wk_498 : Cond.constant RJ6 266 (858993459) ∈ wsL_law := List.mem_of_getElem? (i := 498) (by decide +kernel)
theorem wk_499 : Cond.constant RJ6 267 (252645135) ∈ wsL_law := List.mem_of_getElem? (i := 499) (by decide +kernel)
theorem wk_500 : Cond.methodLink RX4 159 yX4_liveAsks ∈ wsL_law := List.mem_of_getElem? (i := 500) (by decide +kernel)
theorem wk_501 : Cond.instanceMethod yX4_liveAsks ∈ wsL_law := List.mem_of_getElem? (i := 501) (by decide +kernel)
theorem wk_502 : Cond.selects RX4 yX4_liveAsks yX4_liveAsks ∈ wsL_law := List.mem_of_getElem? (i := 502) (by decide +kernel)
theorem wk_503 : Cond.code yX4_liveAsks cX4_liveAsks 3 (some .int) ∈ wsL_law := List.mem_of_getElem? (i := 503) (by decide +kernel)
