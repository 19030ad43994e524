/-! THE WORDS that the instructions use, the classes, closures of the layout, the methods: by program (wip/whole/gen_code.py) -/
theorem gp0 : Cond.selects RX3 yX3_takesIn yX3_takesIn ∈ gW := List.mem_filter.mpr ⟨List.mem_append_left _ (List.mem_of_getElem? (i := 0) (by decide +kernel)), (by decide +kernel)⟩
theorem gp1 : Cond.selects RX3 yX3_readInto yX3_readInto ∈ gW := List.mem_filter.mpr ⟨List.mem_append_left _ (List.mem_of_getElem? (i := 1) (by decide +kernel)), (by decide +kernel)⟩
theorem gp2 : Cond.selects RX3 yX3_step yX3_step ∈ gW := List.mem_filter.mpr ⟨List.mem_append_left _ (List.mem_of_getElem? (i := 2) (by decide +kernel)), (by decide +kernel)⟩
theorem gp3 : Cond.selects RX3 yX3_readHouse yX3_readHouse ∈ gW := List.mem_filter.mpr ⟨List.mem_append_left _ (List.mem_of_getElem? (i := 3) (by decide +kernel)), (by decide +kernel)⟩
theorem gp4 : Cond.selects RX3 yX3_passes yX3_passes ∈ gW := List.mem_filter.mpr ⟨List.mem_append_left _ (List.mem_of_getElem? (i := 4) (by decide +kernel)), (by decide +kernel)⟩
theorem gp5 : Cond.selects RX3 yX3_fails yX3_fails ∈ gW := List.mem_filter.mpr ⟨List.mem_append_left _ (List.mem_of_getElem? (i := 5) (by decide +kernel)), (by decide +kernel)⟩
theorem gp6 : Cond.selects RX3 yX3_isNumber yX3_isNumber ∈ gW := List.mem_filter.mpr ⟨List.mem_append_left _ (List.mem_of_getElem? (i := 6) (by decide +kernel)), (by decide +kernel)⟩
theorem gp7 : Cond.selects RX3 yX3_readServices yX3_readServices ∈ gW := List.mem_filter.mpr ⟨List.mem_append_left _ (List.mem_of_getElem? (i := 7) (by decide +kernel)), (by decide +kernel)⟩
theorem gp8 : Cond.selects RX3 yX3_readNumbers yX3_readNumbers ∈ gW := List.mem_filter.mpr ⟨List.mem_append_left _ (List.mem_of_getElem? (i := 8) (by decide +kernel)), (by decide +kernel)⟩
theorem gp9 : Cond.selects RX0 yX0_leasts yX0_leasts ∈ gW := List.mem_filter.mpr ⟨List.mem_append_left _ (List.mem_of_getElem? (i := 9) (by decide +kernel)), (by decide +kernel)⟩
theorem gp10 : Cond.selects RX3 yX3_readMeasures yX3_readMeasures ∈ gW := List.mem_filter.mpr ⟨List.mem_append_left _ (List.mem_of_getElem? (i := 10) (by decide +kernel)), (by decide +kernel)⟩
theorem gp11 : Cond.selects RX0 yX0_begin yX0_begin ∈ gW := List.mem_filter.mpr ⟨List.mem_append_left _ (List.mem_of_getElem? (i := 11) (by decide +kernel)), (by decide +kernel)⟩
theorem gp12 : Cond.selects RX2 yX2_begin yX2_begin ∈ gW := List.mem_filter.mpr ⟨List.mem_append_left _ (List.mem_of_getElem? (i := 12) (by decide +kernel)), (by decide +kernel)⟩
theorem gp13 : Cond.selects RX0 yX0_copyFrom yX0_copyFrom ∈ gW := List.mem_filter.mpr ⟨List.mem_append_left _ (List.mem_of_getElem? (i := 13) (by decide +kernel)), (by decide +kernel)⟩
theorem gp14 : Cond.selects RX2 yX2_copyFrom yX2_copyFrom ∈ gW := List.mem_filter.mpr ⟨List.mem_append_left _ (List.mem_of_getElem? (i := 14) (by decide +kernel)), (by decide +kernel)⟩
theorem gp15 : Cond.selects RX2 yX2_takeShape yX2_takeShape ∈ gW := List.mem_filter.mpr ⟨List.mem_append_left _ (List.mem_of_getElem? (i := 15) (by decide +kernel)), (by decide +kernel)⟩
theorem gp16 : Cond.selects RX4 yX4_hasMeasure yX4_hasMeasure ∈ gW := List.mem_filter.mpr ⟨List.mem_append_left _ (List.mem_of_getElem? (i := 16) (by decide +kernel)), (by decide +kernel)⟩
theorem gp17 : Cond.selects RX4 yX4_hasService yX4_hasService ∈ gW := List.mem_filter.mpr ⟨List.mem_append_left _ (List.mem_of_getElem? (i := 17) (by decide +kernel)), (by decide +kernel)⟩
theorem gp18 : Cond.selects RX4 yX4_keepForUndo yX4_keepForUndo ∈ gW := List.mem_filter.mpr ⟨List.mem_append_left _ (List.mem_of_getElem? (i := 18) (by decide +kernel)), (by decide +kernel)⟩
theorem gp19 : Cond.selects RX0 yX0_playRound yX0_playRound ∈ gW := List.mem_filter.mpr ⟨List.mem_append_left _ (List.mem_of_getElem? (i := 19) (by decide +kernel)), (by decide +kernel)⟩
theorem gp20 : Cond.selects RX2 yX2_wake yX2_wake ∈ gW := List.mem_filter.mpr ⟨List.mem_append_left _ (List.mem_of_getElem? (i := 20) (by decide +kernel)), (by decide +kernel)⟩
theorem gp21 : Cond.selects RX0 yX0_wantBeside yX0_wantBeside ∈ gW := List.mem_filter.mpr ⟨List.mem_append_left _ (List.mem_of_getElem? (i := 21) (by decide +kernel)), (by decide +kernel)⟩
theorem gp22 : Cond.selects RX0 yX0_wantOf yX0_wantOf ∈ gW := List.mem_filter.mpr ⟨List.mem_append_left _ (List.mem_of_getElem? (i := 22) (by decide +kernel)), (by decide +kernel)⟩
theorem gp23 : Cond.selects RX1 yX1_foresee yX1_foresee ∈ gW := List.mem_filter.mpr ⟨List.mem_append_left _ (List.mem_of_getElem? (i := 23) (by decide +kernel)), (by decide +kernel)⟩
theorem gp24 : Cond.selects RX2 yX2_readyIn yX2_readyIn ∈ gW := List.mem_filter.mpr ⟨List.mem_append_left _ (List.mem_of_getElem? (i := 24) (by decide +kernel)), (by decide +kernel)⟩
theorem gp25 : Cond.selects RX1 yX1_wantBy yX1_wantBy ∈ gW := List.mem_filter.mpr ⟨List.mem_append_left _ (List.mem_of_getElem? (i := 25) (by decide +kernel)), (by decide +kernel)⟩
theorem gp26 : Cond.selects RX2 yX2_plan yX2_plan ∈ gW := List.mem_filter.mpr ⟨List.mem_append_left _ (List.mem_of_getElem? (i := 26) (by decide +kernel)), (by decide +kernel)⟩
theorem gp27 : Cond.selects RX2 yX2_steadied yX2_steadied ∈ gW := List.mem_filter.mpr ⟨List.mem_append_left _ (List.mem_of_getElem? (i := 27) (by decide +kernel)), (by decide +kernel)⟩
theorem gp28 : Cond.selects RX2 yX2_bounded yX2_bounded ∈ gW := List.mem_filter.mpr ⟨List.mem_append_left _ (List.mem_of_getElem? (i := 28) (by decide +kernel)), (by decide +kernel)⟩
theorem gp29 : Cond.selects RX2 yX2_giveUpTooMany yX2_giveUpTooMany ∈ gW := List.mem_filter.mpr ⟨List.mem_append_left _ (List.mem_of_getElem? (i := 29) (by decide +kernel)), (by decide +kernel)⟩
theorem gp30 : Cond.selects RX0 yX0_giveOut yX0_giveOut ∈ gW := List.mem_filter.mpr ⟨List.mem_append_left _ (List.mem_of_getElem? (i := 30) (by decide +kernel)), (by decide +kernel)⟩
theorem gp31 : Cond.selects RX0 yX0_servers yX0_servers ∈ gW := List.mem_filter.mpr ⟨List.mem_append_left _ (List.mem_of_getElem? (i := 31) (by decide +kernel)), (by decide +kernel)⟩
theorem gp32 : Cond.selects RX0 yX0_firstInNeed yX0_firstInNeed ∈ gW := List.mem_filter.mpr ⟨List.mem_append_left _ (List.mem_of_getElem? (i := 32) (by decide +kernel)), (by decide +kernel)⟩
theorem gp33 : Cond.selects RX2 yX2_goesBefore yX2_goesBefore ∈ gW := List.mem_filter.mpr ⟨List.mem_append_left _ (List.mem_of_getElem? (i := 33) (by decide +kernel)), (by decide +kernel)⟩
theorem gp34 : Cond.selects RX2 yX2_get yX2_get ∈ gW := List.mem_filter.mpr ⟨List.mem_append_left _ (List.mem_of_getElem? (i := 34) (by decide +kernel)), (by decide +kernel)⟩
theorem gp35 : Cond.selects RX2 yX2_close yX2_close ∈ gW := List.mem_filter.mpr ⟨List.mem_append_left _ (List.mem_of_getElem? (i := 35) (by decide +kernel)), (by decide +kernel)⟩
theorem gp36 : Cond.selects RX2 yX2_nextReadyRound yX2_nextReadyRound ∈ gW := List.mem_filter.mpr ⟨List.mem_append_left _ (List.mem_of_getElem? (i := 36) (by decide +kernel)), (by decide +kernel)⟩
theorem gp37 : Cond.selects RX0 yX0_pastRounds yX0_pastRounds ∈ gW := List.mem_filter.mpr ⟨List.mem_append_left _ (List.mem_of_getElem? (i := 37) (by decide +kernel)), (by decide +kernel)⟩
theorem gp38 : Cond.selects RX4 yX4_afterOneRound yX4_afterOneRound ∈ gW := List.mem_filter.mpr ⟨List.mem_append_left _ (List.mem_of_getElem? (i := 38) (by decide +kernel)), (by decide +kernel)⟩
theorem gp39 : Cond.selects RX2 yX2_isHeldBy yX2_isHeldBy ∈ gW := List.mem_filter.mpr ⟨List.mem_append_left _ (List.mem_of_getElem? (i := 39) (by decide +kernel)), (by decide +kernel)⟩
theorem gp40 : Cond.selects RX0 yX0_spentByAll yX0_spentByAll ∈ gW := List.mem_filter.mpr ⟨List.mem_append_left _ (List.mem_of_getElem? (i := 40) (by decide +kernel)), (by decide +kernel)⟩
theorem gp41 : Cond.selects RX0 yX0_lackOfAll yX0_lackOfAll ∈ gW := List.mem_filter.mpr ⟨List.mem_append_left _ (List.mem_of_getElem? (i := 41) (by decide +kernel)), (by decide +kernel)⟩
theorem gp42 : Cond.selects RX1 yX1_leastValue yX1_leastValue ∈ gW := List.mem_filter.mpr ⟨List.mem_append_left _ (List.mem_of_getElem? (i := 42) (by decide +kernel)), (by decide +kernel)⟩
theorem gp43 : Cond.selects RX1 yX1_leastUpTo yX1_leastUpTo ∈ gW := List.mem_filter.mpr ⟨List.mem_append_left _ (List.mem_of_getElem? (i := 43) (by decide +kernel)), (by decide +kernel)⟩
theorem gp44 : Cond.selects RX4 yX4_replayed yX4_replayed ∈ gW := List.mem_filter.mpr ⟨List.mem_append_left _ (List.mem_of_getElem? (i := 44) (by decide +kernel)), (by decide +kernel)⟩
theorem gp45 : Cond.selects RX0 yX0_standAlone yX0_standAlone ∈ gW := List.mem_filter.mpr ⟨List.mem_append_left _ (List.mem_of_getElem? (i := 45) (by decide +kernel)), (by decide +kernel)⟩
theorem gp46 : Cond.selects RX2 yX2_tellValues yX2_tellValues ∈ gW := List.mem_filter.mpr ⟨List.mem_append_left _ (List.mem_of_getElem? (i := 46) (by decide +kernel)), (by decide +kernel)⟩
theorem gp47 : Cond.selects RX2 yX2_costs yX2_costs ∈ gW := List.mem_filter.mpr ⟨List.mem_append_left _ (List.mem_of_getElem? (i := 47) (by decide +kernel)), (by decide +kernel)⟩
theorem gp48 : Cond.selects RX5 yX5_lays yX5_lays ∈ gW := List.mem_filter.mpr ⟨List.mem_append_left _ (List.mem_of_getElem? (i := 48) (by decide +kernel)), (by decide +kernel)⟩
theorem gp49 : Cond.selects RX5 yX5_reads yX5_reads ∈ gW := List.mem_filter.mpr ⟨List.mem_append_left _ (List.mem_of_getElem? (i := 49) (by decide +kernel)), (by decide +kernel)⟩
theorem gp50 : Cond.selects RX5 yX5_readsHead yX5_readsHead ∈ gW := List.mem_filter.mpr ⟨List.mem_append_left _ (List.mem_of_getElem? (i := 50) (by decide +kernel)), (by decide +kernel)⟩
theorem gp51 : Cond.selects RX5 yX5_sign yX5_sign ∈ gW := List.mem_filter.mpr ⟨List.mem_append_left _ (List.mem_of_getElem? (i := 51) (by decide +kernel)), (by decide +kernel)⟩
theorem gp52 : Cond.selects RX5 yX5_isSign yX5_isSign ∈ gW := List.mem_filter.mpr ⟨List.mem_append_left _ (List.mem_of_getElem? (i := 52) (by decide +kernel)), (by decide +kernel)⟩
theorem gp53 : Cond.selects RX5 yX5_wrong yX5_wrong ∈ gW := List.mem_filter.mpr ⟨List.mem_append_left _ (List.mem_of_getElem? (i := 53) (by decide +kernel)), (by decide +kernel)⟩
theorem gp54 : Cond.selects RX5 yX5_number yX5_number ∈ gW := List.mem_filter.mpr ⟨List.mem_append_left _ (List.mem_of_getElem? (i := 54) (by decide +kernel)), (by decide +kernel)⟩
theorem gp55 : Cond.selects RX5 yX5_goesOn yX5_goesOn ∈ gW := List.mem_filter.mpr ⟨List.mem_append_left _ (List.mem_of_getElem? (i := 55) (by decide +kernel)), (by decide +kernel)⟩
theorem gp56 : Cond.selects RX5 yX5_readsService yX5_readsService ∈ gW := List.mem_filter.mpr ⟨List.mem_append_left _ (List.mem_of_getElem? (i := 56) (by decide +kernel)), (by decide +kernel)⟩
theorem gp57 : Cond.selects RX5 yX5_of yX5_of ∈ gW := List.mem_filter.mpr ⟨List.mem_append_left _ (List.mem_of_getElem? (i := 57) (by decide +kernel)), (by decide +kernel)⟩
theorem gp58 : Cond.selects RX5 yX5_leasts yX5_leasts ∈ gW := List.mem_filter.mpr ⟨List.mem_append_left _ (List.mem_of_getElem? (i := 58) (by decide +kernel)), (by decide +kernel)⟩
theorem gp59 : Cond.selects RX5 yX5_kindOf yX5_kindOf ∈ gW := List.mem_filter.mpr ⟨List.mem_append_left _ (List.mem_of_getElem? (i := 59) (by decide +kernel)), (by decide +kernel)⟩
theorem gp60 : Cond.selects RX5 yX5_readsMeasure yX5_readsMeasure ∈ gW := List.mem_filter.mpr ⟨List.mem_append_left _ (List.mem_of_getElem? (i := 60) (by decide +kernel)), (by decide +kernel)⟩
theorem gp61 : Cond.selects RX5 yX5_copies yX5_copies ∈ gW := List.mem_filter.mpr ⟨List.mem_append_left _ (List.mem_of_getElem? (i := 61) (by decide +kernel)), (by decide +kernel)⟩
theorem gp62 : Cond.selects RX5 yX5_isMeasure yX5_isMeasure ∈ gW := List.mem_filter.mpr ⟨List.mem_append_left _ (List.mem_of_getElem? (i := 62) (by decide +kernel)), (by decide +kernel)⟩
theorem gp63 : Cond.selects RX5 yX5_isService yX5_isService ∈ gW := List.mem_filter.mpr ⟨List.mem_append_left _ (List.mem_of_getElem? (i := 63) (by decide +kernel)), (by decide +kernel)⟩
theorem gp64 : Cond.selects RX5 yX5_notes yX5_notes ∈ gW := List.mem_filter.mpr ⟨List.mem_append_left _ (List.mem_of_getElem? (i := 64) (by decide +kernel)), (by decide +kernel)⟩
theorem gp65 : Cond.selects RX5 yX5_isHouse yX5_isHouse ∈ gW := List.mem_filter.mpr ⟨List.mem_append_left _ (List.mem_of_getElem? (i := 65) (by decide +kernel)), (by decide +kernel)⟩
theorem gp66 : Cond.selects RX5 yX5_does yX5_does ∈ gW := List.mem_filter.mpr ⟨List.mem_append_left _ (List.mem_of_getElem? (i := 66) (by decide +kernel)), (by decide +kernel)⟩
theorem gp67 : Cond.selects RX5 yX5_starts yX5_starts ∈ gW := List.mem_filter.mpr ⟨List.mem_append_left _ (List.mem_of_getElem? (i := 67) (by decide +kernel)), (by decide +kernel)⟩
theorem gp68 : Cond.selects RX5 yX5_weighs yX5_weighs ∈ gW := List.mem_filter.mpr ⟨List.mem_append_left _ (List.mem_of_getElem? (i := 68) (by decide +kernel)), (by decide +kernel)⟩
theorem gp69 : Cond.selects RX5 yX5_countOf yX5_countOf ∈ gW := List.mem_filter.mpr ⟨List.mem_append_left _ (List.mem_of_getElem? (i := 69) (by decide +kernel)), (by decide +kernel)⟩
theorem gp70 : Cond.selects RX5 yX5_wanted yX5_wanted ∈ gW := List.mem_filter.mpr ⟨List.mem_append_left _ (List.mem_of_getElem? (i := 70) (by decide +kernel)), (by decide +kernel)⟩
theorem gp71 : Cond.selects RX5 yX5_wantOf yX5_wantOf ∈ gW := List.mem_filter.mpr ⟨List.mem_append_left _ (List.mem_of_getElem? (i := 71) (by decide +kernel)), (by decide +kernel)⟩
theorem gp72 : Cond.selects RX5 yX5_forecastOf yX5_forecastOf ∈ gW := List.mem_filter.mpr ⟨List.mem_append_left _ (List.mem_of_getElem? (i := 72) (by decide +kernel)), (by decide +kernel)⟩
theorem gp73 : Cond.selects RX5 yX5_pastOf yX5_pastOf ∈ gW := List.mem_filter.mpr ⟨List.mem_append_left _ (List.mem_of_getElem? (i := 73) (by decide +kernel)), (by decide +kernel)⟩
theorem gp74 : Cond.selects RX5 yX5_ofWants yX5_ofWants ∈ gW := List.mem_filter.mpr ⟨List.mem_append_left _ (List.mem_of_getElem? (i := 74) (by decide +kernel)), (by decide +kernel)⟩
theorem gp75 : Cond.selects RX5 yX5_sumOf yX5_sumOf ∈ gW := List.mem_filter.mpr ⟨List.mem_append_left _ (List.mem_of_getElem? (i := 75) (by decide +kernel)), (by decide +kernel)⟩
theorem gp76 : Cond.selects RX5 yX5_givesUp yX5_givesUp ∈ gW := List.mem_filter.mpr ⟨List.mem_append_left _ (List.mem_of_getElem? (i := 76) (by decide +kernel)), (by decide +kernel)⟩
theorem gp77 : Cond.selects RX5 yX5_gets yX5_gets ∈ gW := List.mem_filter.mpr ⟨List.mem_append_left _ (List.mem_of_getElem? (i := 77) (by decide +kernel)), (by decide +kernel)⟩
theorem gp78 : Cond.selects RX5 yX5_isAhead yX5_isAhead ∈ gW := List.mem_filter.mpr ⟨List.mem_append_left _ (List.mem_of_getElem? (i := 78) (by decide +kernel)), (by decide +kernel)⟩
theorem gp79 : Cond.selects RX5 yX5_getsOne yX5_getsOne ∈ gW := List.mem_filter.mpr ⟨List.mem_append_left _ (List.mem_of_getElem? (i := 79) (by decide +kernel)), (by decide +kernel)⟩
theorem gp80 : Cond.selects RX5 yX5_allCounts yX5_allCounts ∈ gW := List.mem_filter.mpr ⟨List.mem_append_left _ (List.mem_of_getElem? (i := 80) (by decide +kernel)), (by decide +kernel)⟩
theorem gp81 : Cond.selects RX5 yX5_sums yX5_sums ∈ gW := List.mem_filter.mpr ⟨List.mem_append_left _ (List.mem_of_getElem? (i := 81) (by decide +kernel)), (by decide +kernel)⟩
theorem gp82 : Cond.selects RX5 yX5_moves yX5_moves ∈ gW := List.mem_filter.mpr ⟨List.mem_append_left _ (List.mem_of_getElem? (i := 82) (by decide +kernel)), (by decide +kernel)⟩
theorem gp83 : Cond.selects RX5 yX5_nextStarting yX5_nextStarting ∈ gW := List.mem_filter.mpr ⟨List.mem_append_left _ (List.mem_of_getElem? (i := 83) (by decide +kernel)), (by decide +kernel)⟩
theorem gp84 : Cond.selects RX5 yX5_tries yX5_tries ∈ gW := List.mem_filter.mpr ⟨List.mem_append_left _ (List.mem_of_getElem? (i := 84) (by decide +kernel)), (by decide +kernel)⟩
theorem gp85 : Cond.selects RX5 yX5_triesRound yX5_triesRound ∈ gW := List.mem_filter.mpr ⟨List.mem_append_left _ (List.mem_of_getElem? (i := 85) (by decide +kernel)), (by decide +kernel)⟩
theorem gp86 : Cond.selects RX5 yX5_allOf yX5_allOf ∈ gW := List.mem_filter.mpr ⟨List.mem_append_left _ (List.mem_of_getElem? (i := 86) (by decide +kernel)), (by decide +kernel)⟩
theorem gp87 : Cond.selects RX5 yX5_replays yX5_replays ∈ gW := List.mem_filter.mpr ⟨List.mem_append_left _ (List.mem_of_getElem? (i := 87) (by decide +kernel)), (by decide +kernel)⟩
theorem gw1 : Cond.initialized RX4 ∈ gW := List.mem_filter.mpr ⟨List.mem_append_right _ (List.mem_of_getElem? (i := 1) (by decide +kernel)), (by decide +kernel)⟩
theorem gw2 : Cond.initialized RX3 ∈ gW := List.mem_filter.mpr ⟨List.mem_append_right _ (List.mem_of_getElem? (i := 2) (by decide +kernel)), (by decide +kernel)⟩
theorem gw3 : Cond.initialized RX0 ∈ gW := List.mem_filter.mpr ⟨List.mem_append_right _ (List.mem_of_getElem? (i := 3) (by decide +kernel)), (by decide +kernel)⟩
theorem gw4 : Cond.initialized RX2 ∈ gW := List.mem_filter.mpr ⟨List.mem_append_right _ (List.mem_of_getElem? (i := 4) (by decide +kernel)), (by decide +kernel)⟩
theorem gw5 : Cond.initialized RX1 ∈ gW := List.mem_filter.mpr ⟨List.mem_append_right _ (List.mem_of_getElem? (i := 5) (by decide +kernel)), (by decide +kernel)⟩
theorem gw6 : Cond.initialized RX5 ∈ gW := List.mem_filter.mpr ⟨List.mem_append_right _ (List.mem_of_getElem? (i := 6) (by decide +kernel)), (by decide +kernel)⟩
theorem gw7 : Cond.initialized "java/lang/Math" ∈ gW := List.mem_filter.mpr ⟨List.mem_append_right _ (List.mem_of_getElem? (i := 7) (by decide +kernel)), (by decide +kernel)⟩
theorem gw8 : Cond.initialized RJ7 ∈ gW := List.mem_filter.mpr ⟨List.mem_append_right _ (List.mem_of_getElem? (i := 8) (by decide +kernel)), (by decide +kernel)⟩
theorem gw9 : Cond.initialized "java/lang/System" ∈ gW := List.mem_filter.mpr ⟨List.mem_append_right _ (List.mem_of_getElem? (i := 9) (by decide +kernel)), (by decide +kernel)⟩
theorem gw24 : Cond.fieldLink RX3 9 RX3 "bytes" "[I" ∈ gW := List.mem_filter.mpr ⟨List.mem_append_right _ (List.mem_of_getElem? (i := 24) (by decide +kernel)), (by decide +kernel)⟩
theorem gw25 : Cond.fieldLink RX3 15 RX3 "size" "I" ∈ gW := List.mem_filter.mpr ⟨List.mem_append_right _ (List.mem_of_getElem? (i := 25) (by decide +kernel)), (by decide +kernel)⟩
theorem gw26 : Cond.fieldLinkNest RX4 46 RX3 "size" "I" "EnoughServers" ∈ nWs := List.mem_filter.mpr ⟨List.mem_of_getElem? (i := 26) (by decide +kernel), rfl⟩
theorem gw27 : Cond.fieldLink RX3 19 RX3 "next" "I" ∈ gW := List.mem_filter.mpr ⟨List.mem_append_right _ (List.mem_of_getElem? (i := 27) (by decide +kernel)), (by decide +kernel)⟩
theorem gw28 : Cond.fieldLink RX3 22 RX3 "place" "I" ∈ gW := List.mem_filter.mpr ⟨List.mem_append_right _ (List.mem_of_getElem? (i := 28) (by decide +kernel)), (by decide +kernel)⟩
theorem gw29 : Cond.fieldLinkNest RX4 54 RX3 "place" "I" "EnoughServers" ∈ nWs := List.mem_filter.mpr ⟨List.mem_of_getElem? (i := 29) (by decide +kernel), rfl⟩
theorem gw30 : Cond.fieldLink RX3 25 RX3 "token" "I" ∈ gW := List.mem_filter.mpr ⟨List.mem_append_right _ (List.mem_of_getElem? (i := 30) (by decide +kernel)), (by decide +kernel)⟩
theorem gw31 : Cond.fieldLink RX3 28 RX3 "number" "I" ∈ gW := List.mem_filter.mpr ⟨List.mem_append_right _ (List.mem_of_getElem? (i := 31) (by decide +kernel)), (by decide +kernel)⟩
theorem gw32 : Cond.fieldLink RX3 31 RX3 "faultKind" "I" ∈ gW := List.mem_filter.mpr ⟨List.mem_append_right _ (List.mem_of_getElem? (i := 32) (by decide +kernel)), (by decide +kernel)⟩
theorem gw33 : Cond.fieldLinkNest RX4 67 RX3 "faultKind" "I" "EnoughServers" ∈ nWs := List.mem_filter.mpr ⟨List.mem_of_getElem? (i := 33) (by decide +kernel), rfl⟩
theorem gw70 : Cond.fieldLink RX1 9 RX1 "kind" "I" ∈ gW := List.mem_filter.mpr ⟨List.mem_append_right _ (List.mem_of_getElem? (i := 70) (by decide +kernel)), (by decide +kernel)⟩
theorem gw71 : Cond.fieldLinkNest RX2 90 RX1 "kind" "I" "EnoughServers" ∈ nWs := List.mem_filter.mpr ⟨List.mem_of_getElem? (i := 71) (by decide +kernel), rfl⟩
theorem gw72 : Cond.fieldLinkNest RX3 111 RX1 "kind" "I" "EnoughServers" ∈ nWs := List.mem_filter.mpr ⟨List.mem_of_getElem? (i := 72) (by decide +kernel), rfl⟩
theorem gw73 : Cond.fieldLinkNest RX0 65 RX1 "kind" "I" "EnoughServers" ∈ nWs := List.mem_filter.mpr ⟨List.mem_of_getElem? (i := 73) (by decide +kernel), rfl⟩
theorem gw74 : Cond.fieldLinkNest RX4 149 RX1 "kind" "I" "EnoughServers" ∈ nWs := List.mem_filter.mpr ⟨List.mem_of_getElem? (i := 74) (by decide +kernel), rfl⟩
theorem gw75 : Cond.fieldLink RX1 15 RX1 "target" "I" ∈ gW := List.mem_filter.mpr ⟨List.mem_append_right _ (List.mem_of_getElem? (i := 75) (by decide +kernel)), (by decide +kernel)⟩
theorem gw76 : Cond.fieldLinkNest RX2 93 RX1 "target" "I" "EnoughServers" ∈ nWs := List.mem_filter.mpr ⟨List.mem_of_getElem? (i := 76) (by decide +kernel), rfl⟩
theorem gw77 : Cond.fieldLinkNest RX3 116 RX1 "target" "I" "EnoughServers" ∈ nWs := List.mem_filter.mpr ⟨List.mem_of_getElem? (i := 77) (by decide +kernel), rfl⟩
theorem gw78 : Cond.fieldLinkNest RX4 152 RX1 "target" "I" "EnoughServers" ∈ nWs := List.mem_filter.mpr ⟨List.mem_of_getElem? (i := 78) (by decide +kernel), rfl⟩
theorem gw80 : Cond.fieldLinkNest RX2 74 RX1 "value" "I" "EnoughServers" ∈ nWs := List.mem_filter.mpr ⟨List.mem_of_getElem? (i := 80) (by decide +kernel), rfl⟩
theorem gw81 : Cond.fieldLinkNest RX4 88 RX1 "value" "I" "EnoughServers" ∈ nWs := List.mem_filter.mpr ⟨List.mem_of_getElem? (i := 81) (by decide +kernel), rfl⟩
theorem gw82 : Cond.fieldLinkNest RX0 74 RX1 "value" "I" "EnoughServers" ∈ nWs := List.mem_filter.mpr ⟨List.mem_of_getElem? (i := 82) (by decide +kernel), rfl⟩
theorem gw83 : Cond.fieldLink RX1 21 RX1 "past" "[I" ∈ gW := List.mem_filter.mpr ⟨List.mem_append_right _ (List.mem_of_getElem? (i := 83) (by decide +kernel)), (by decide +kernel)⟩
theorem gw84 : Cond.fieldLinkNest RX2 87 RX1 "past" "[I" "EnoughServers" ∈ nWs := List.mem_filter.mpr ⟨List.mem_of_getElem? (i := 84) (by decide +kernel), rfl⟩
theorem gw85 : Cond.fieldLinkNest RX4 146 RX1 "past" "[I" "EnoughServers" ∈ nWs := List.mem_filter.mpr ⟨List.mem_of_getElem? (i := 85) (by decide +kernel), rfl⟩
theorem gw95 : Cond.fieldLink RX2 9 RX2 "numbers" "[I" ∈ gW := List.mem_filter.mpr ⟨List.mem_append_right _ (List.mem_of_getElem? (i := 95) (by decide +kernel)), (by decide +kernel)⟩
theorem gw96 : Cond.fieldLinkNest RX0 55 RX2 "numbers" "[I" "EnoughServers" ∈ nWs := List.mem_filter.mpr ⟨List.mem_of_getElem? (i := 96) (by decide +kernel), rfl⟩
theorem gw97 : Cond.fieldLinkNest RX3 88 RX2 "numbers" "[I" "EnoughServers" ∈ nWs := List.mem_filter.mpr ⟨List.mem_of_getElem? (i := 97) (by decide +kernel), rfl⟩
theorem gw98 : Cond.fieldLinkNest RX4 103 RX2 "numbers" "[I" "EnoughServers" ∈ nWs := List.mem_filter.mpr ⟨List.mem_of_getElem? (i := 98) (by decide +kernel), rfl⟩
theorem gw99 : Cond.fieldLink RX2 17 RX2 "measures" "[LEnoughServers$Measure;" ∈ gW := List.mem_filter.mpr ⟨List.mem_append_right _ (List.mem_of_getElem? (i := 99) (by decide +kernel)), (by decide +kernel)⟩
theorem gw100 : Cond.fieldLinkNest RX4 82 RX2 "measures" "[LEnoughServers$Measure;" "EnoughServers" ∈ nWs := List.mem_filter.mpr ⟨List.mem_of_getElem? (i := 100) (by decide +kernel), rfl⟩
theorem gw101 : Cond.fieldLinkNest RX3 107 RX2 "measures" "[LEnoughServers$Measure;" "EnoughServers" ∈ nWs := List.mem_filter.mpr ⟨List.mem_of_getElem? (i := 101) (by decide +kernel), rfl⟩
theorem gw102 : Cond.fieldLinkNest RX0 88 RX2 "measures" "[LEnoughServers$Measure;" "EnoughServers" ∈ nWs := List.mem_filter.mpr ⟨List.mem_of_getElem? (i := 102) (by decide +kernel), rfl⟩
theorem gw103 : Cond.fieldLink RX2 21 RX2 "measureCount" "I" ∈ gW := List.mem_filter.mpr ⟨List.mem_append_right _ (List.mem_of_getElem? (i := 103) (by decide +kernel)), (by decide +kernel)⟩
theorem gw104 : Cond.fieldLinkNest RX3 100 RX2 "measureCount" "I" "EnoughServers" ∈ nWs := List.mem_filter.mpr ⟨List.mem_of_getElem? (i := 104) (by decide +kernel), rfl⟩
theorem gw105 : Cond.fieldLinkNest RX4 118 RX2 "measureCount" "I" "EnoughServers" ∈ nWs := List.mem_filter.mpr ⟨List.mem_of_getElem? (i := 105) (by decide +kernel), rfl⟩
theorem gw106 : Cond.fieldLinkNest RX0 85 RX2 "measureCount" "I" "EnoughServers" ∈ nWs := List.mem_filter.mpr ⟨List.mem_of_getElem? (i := 106) (by decide +kernel), rfl⟩
theorem gw107 : Cond.fieldLink RX2 25 RX2 "count" "I" ∈ gW := List.mem_filter.mpr ⟨List.mem_append_right _ (List.mem_of_getElem? (i := 107) (by decide +kernel)), (by decide +kernel)⟩
theorem gw108 : Cond.fieldLinkNest RX0 56 RX2 "count" "I" "EnoughServers" ∈ nWs := List.mem_filter.mpr ⟨List.mem_of_getElem? (i := 108) (by decide +kernel), rfl⟩
theorem gw109 : Cond.fieldLinkNest RX4 121 RX2 "count" "I" "EnoughServers" ∈ nWs := List.mem_filter.mpr ⟨List.mem_of_getElem? (i := 109) (by decide +kernel), rfl⟩
theorem gw110 : Cond.fieldLink RX2 28 RX2 "ready" "I" ∈ gW := List.mem_filter.mpr ⟨List.mem_append_right _ (List.mem_of_getElem? (i := 110) (by decide +kernel)), (by decide +kernel)⟩
theorem gw111 : Cond.fieldLinkNest RX4 124 RX2 "ready" "I" "EnoughServers" ∈ nWs := List.mem_filter.mpr ⟨List.mem_of_getElem? (i := 111) (by decide +kernel), rfl⟩
theorem gw112 : Cond.fieldLink RX2 31 RX2 "starting" "[I" ∈ gW := List.mem_filter.mpr ⟨List.mem_append_right _ (List.mem_of_getElem? (i := 112) (by decide +kernel)), (by decide +kernel)⟩
theorem gw113 : Cond.fieldLinkNest RX4 159 RX2 "starting" "[I" "EnoughServers" ∈ nWs := List.mem_filter.mpr ⟨List.mem_of_getElem? (i := 113) (by decide +kernel), rfl⟩
theorem gw114 : Cond.fieldLink RX2 34 RX2 "wants" "[I" ∈ gW := List.mem_filter.mpr ⟨List.mem_append_right _ (List.mem_of_getElem? (i := 114) (by decide +kernel)), (by decide +kernel)⟩
theorem gw115 : Cond.fieldLink RX2 37 RX2 "moves" "[I" ∈ gW := List.mem_filter.mpr ⟨List.mem_append_right _ (List.mem_of_getElem? (i := 115) (by decide +kernel)), (by decide +kernel)⟩
theorem gw116 : Cond.fieldLink RX2 40 RX2 "lastMove" "I" ∈ gW := List.mem_filter.mpr ⟨List.mem_append_right _ (List.mem_of_getElem? (i := 116) (by decide +kernel)), (by decide +kernel)⟩
theorem gw117 : Cond.fieldLink RX2 43 RX2 "spent" "I" ∈ gW := List.mem_filter.mpr ⟨List.mem_append_right _ (List.mem_of_getElem? (i := 117) (by decide +kernel)), (by decide +kernel)⟩
theorem gw118 : Cond.fieldLinkNest RX0 59 RX2 "spent" "I" "EnoughServers" ∈ nWs := List.mem_filter.mpr ⟨List.mem_of_getElem? (i := 118) (by decide +kernel), rfl⟩
theorem gw119 : Cond.fieldLinkNest RX4 134 RX2 "spent" "I" "EnoughServers" ∈ nWs := List.mem_filter.mpr ⟨List.mem_of_getElem? (i := 119) (by decide +kernel), rfl⟩
theorem gw120 : Cond.fieldLink RX2 46 RX2 "lack" "I" ∈ gW := List.mem_filter.mpr ⟨List.mem_append_right _ (List.mem_of_getElem? (i := 120) (by decide +kernel)), (by decide +kernel)⟩
theorem gw121 : Cond.fieldLinkNest RX0 62 RX2 "lack" "I" "EnoughServers" ∈ nWs := List.mem_filter.mpr ⟨List.mem_of_getElem? (i := 121) (by decide +kernel), rfl⟩
theorem gw122 : Cond.fieldLinkNest RX4 137 RX2 "lack" "I" "EnoughServers" ∈ nWs := List.mem_filter.mpr ⟨List.mem_of_getElem? (i := 122) (by decide +kernel), rfl⟩
theorem gw123 : Cond.fieldLink RX2 49 RX2 "flutters" "I" ∈ gW := List.mem_filter.mpr ⟨List.mem_append_right _ (List.mem_of_getElem? (i := 123) (by decide +kernel)), (by decide +kernel)⟩
theorem gw124 : Cond.fieldLinkNest RX4 140 RX2 "flutters" "I" "EnoughServers" ∈ nWs := List.mem_filter.mpr ⟨List.mem_of_getElem? (i := 124) (by decide +kernel), rfl⟩
theorem gw125 : Cond.fieldLink RX2 52 RX2 "want" "I" ∈ gW := List.mem_filter.mpr ⟨List.mem_append_right _ (List.mem_of_getElem? (i := 125) (by decide +kernel)), (by decide +kernel)⟩
theorem gw126 : Cond.fieldLinkNest RX0 107 RX2 "want" "I" "EnoughServers" ∈ nWs := List.mem_filter.mpr ⟨List.mem_of_getElem? (i := 126) (by decide +kernel), rfl⟩
theorem gw127 : Cond.fieldLinkNest RX4 169 RX2 "want" "I" "EnoughServers" ∈ nWs := List.mem_filter.mpr ⟨List.mem_of_getElem? (i := 127) (by decide +kernel), rfl⟩
theorem gw128 : Cond.fieldLink RX2 55 RX2 "steady" "I" ∈ gW := List.mem_filter.mpr ⟨List.mem_append_right _ (List.mem_of_getElem? (i := 128) (by decide +kernel)), (by decide +kernel)⟩
theorem gw129 : Cond.fieldLinkNest RX4 172 RX2 "steady" "I" "EnoughServers" ∈ nWs := List.mem_filter.mpr ⟨List.mem_of_getElem? (i := 129) (by decide +kernel), rfl⟩
theorem gw130 : Cond.fieldLink RX2 58 RX2 "bound" "I" ∈ gW := List.mem_filter.mpr ⟨List.mem_append_right _ (List.mem_of_getElem? (i := 130) (by decide +kernel)), (by decide +kernel)⟩
theorem gw131 : Cond.fieldLinkNest RX4 175 RX2 "bound" "I" "EnoughServers" ∈ nWs := List.mem_filter.mpr ⟨List.mem_of_getElem? (i := 131) (by decide +kernel), rfl⟩
theorem gw132 : Cond.fieldLink RX2 61 RX2 "due" "I" ∈ gW := List.mem_filter.mpr ⟨List.mem_append_right _ (List.mem_of_getElem? (i := 132) (by decide +kernel)), (by decide +kernel)⟩
theorem gw133 : Cond.fieldLinkNest RX0 129 RX2 "due" "I" "EnoughServers" ∈ nWs := List.mem_filter.mpr ⟨List.mem_of_getElem? (i := 133) (by decide +kernel), rfl⟩
theorem gw134 : Cond.fieldLinkNest RX4 178 RX2 "due" "I" "EnoughServers" ∈ nWs := List.mem_filter.mpr ⟨List.mem_of_getElem? (i := 134) (by decide +kernel), rfl⟩
theorem gw135 : Cond.fieldLink RX2 64 RX2 "place" "I" ∈ gW := List.mem_filter.mpr ⟨List.mem_append_right _ (List.mem_of_getElem? (i := 135) (by decide +kernel)), (by decide +kernel)⟩
theorem gw136 : Cond.fieldLinkNest RX0 132 RX2 "place" "I" "EnoughServers" ∈ nWs := List.mem_filter.mpr ⟨List.mem_of_getElem? (i := 136) (by decide +kernel), rfl⟩
theorem gw137 : Cond.fieldLinkNest RX4 181 RX2 "place" "I" "EnoughServers" ∈ nWs := List.mem_filter.mpr ⟨List.mem_of_getElem? (i := 137) (by decide +kernel), rfl⟩
theorem gw173 : Cond.fieldLink RX0 9 RX0 "numbers" "[I" ∈ gW := List.mem_filter.mpr ⟨List.mem_append_right _ (List.mem_of_getElem? (i := 173) (by decide +kernel)), (by decide +kernel)⟩
theorem gw174 : Cond.fieldLinkNest RX3 63 RX0 "numbers" "[I" "EnoughServers" ∈ nWs := List.mem_filter.mpr ⟨List.mem_of_getElem? (i := 174) (by decide +kernel), rfl⟩
theorem gw175 : Cond.fieldLinkNest RX4 111 RX0 "numbers" "[I" "EnoughServers" ∈ nWs := List.mem_filter.mpr ⟨List.mem_of_getElem? (i := 175) (by decide +kernel), rfl⟩
theorem gw176 : Cond.fieldLink RX0 17 RX0 "services" "[LEnoughServers$Service;" ∈ gW := List.mem_filter.mpr ⟨List.mem_append_right _ (List.mem_of_getElem? (i := 176) (by decide +kernel)), (by decide +kernel)⟩
theorem gw177 : Cond.fieldLinkNest RX3 66 RX0 "services" "[LEnoughServers$Service;" "EnoughServers" ∈ nWs := List.mem_filter.mpr ⟨List.mem_of_getElem? (i := 177) (by decide +kernel), rfl⟩
theorem gw178 : Cond.fieldLinkNest RX4 78 RX0 "services" "[LEnoughServers$Service;" "EnoughServers" ∈ nWs := List.mem_filter.mpr ⟨List.mem_of_getElem? (i := 178) (by decide +kernel), rfl⟩
theorem gw179 : Cond.fieldLink RX0 21 RX0 "serviceCount" "I" ∈ gW := List.mem_filter.mpr ⟨List.mem_append_right _ (List.mem_of_getElem? (i := 179) (by decide +kernel)), (by decide +kernel)⟩
theorem gw180 : Cond.fieldLinkNest RX3 34 RX0 "serviceCount" "I" "EnoughServers" ∈ nWs := List.mem_filter.mpr ⟨List.mem_of_getElem? (i := 180) (by decide +kernel), rfl⟩
theorem gw181 : Cond.fieldLinkNest RX4 64 RX0 "serviceCount" "I" "EnoughServers" ∈ nWs := List.mem_filter.mpr ⟨List.mem_of_getElem? (i := 181) (by decide +kernel), rfl⟩
theorem gw182 : Cond.fieldLink RX0 25 RX0 "pool" "I" ∈ gW := List.mem_filter.mpr ⟨List.mem_append_right _ (List.mem_of_getElem? (i := 182) (by decide +kernel)), (by decide +kernel)⟩
theorem gw183 : Cond.fieldLinkNest RX4 162 RX0 "pool" "I" "EnoughServers" ∈ nWs := List.mem_filter.mpr ⟨List.mem_of_getElem? (i := 183) (by decide +kernel), rfl⟩
theorem gw184 : Cond.fieldLink RX0 28 RX0 "round" "I" ∈ gW := List.mem_filter.mpr ⟨List.mem_append_right _ (List.mem_of_getElem? (i := 184) (by decide +kernel)), (by decide +kernel)⟩
theorem gw185 : Cond.fieldLinkNest RX4 127 RX0 "round" "I" "EnoughServers" ∈ nWs := List.mem_filter.mpr ⟨List.mem_of_getElem? (i := 185) (by decide +kernel), rfl⟩
theorem gw198 : Cond.fieldLink RX4 10 RX4 "text" "LEnoughServers$Text;" ∈ gW := List.mem_filter.mpr ⟨List.mem_append_right _ (List.mem_of_getElem? (i := 198) (by decide +kernel)), (by decide +kernel)⟩
theorem gw199 : Cond.fieldLink RX4 19 RX4 "current" "LEnoughServers$House;" ∈ gW := List.mem_filter.mpr ⟨List.mem_append_right _ (List.mem_of_getElem? (i := 199) (by decide +kernel)), (by decide +kernel)⟩
theorem gw200 : Cond.fieldLink RX4 23 RX4 "tried" "LEnoughServers$House;" ∈ gW := List.mem_filter.mpr ⟨List.mem_append_right _ (List.mem_of_getElem? (i := 200) (by decide +kernel)), (by decide +kernel)⟩
theorem gw201 : Cond.fieldLink RX4 26 RX4 "kept" "[LEnoughServers$House;" ∈ gW := List.mem_filter.mpr ⟨List.mem_append_right _ (List.mem_of_getElem? (i := 201) (by decide +kernel)), (by decide +kernel)⟩
theorem gw202 : Cond.fieldLink RX4 30 RX4 "nextKept" "I" ∈ gW := List.mem_filter.mpr ⟨List.mem_append_right _ (List.mem_of_getElem? (i := 202) (by decide +kernel)), (by decide +kernel)⟩
theorem gw203 : Cond.fieldLink RX4 34 RX4 "undoable" "I" ∈ gW := List.mem_filter.mpr ⟨List.mem_append_right _ (List.mem_of_getElem? (i := 203) (by decide +kernel)), (by decide +kernel)⟩
theorem gw204 : Cond.fieldLink RX4 37 RX4 "standing" "Z" ∈ gW := List.mem_filter.mpr ⟨List.mem_append_right _ (List.mem_of_getElem? (i := 204) (by decide +kernel)), (by decide +kernel)⟩
theorem gw223 : Cond.code yX4_write cX4_write 2 (some .int) ∈ gW := List.mem_filter.mpr ⟨List.mem_append_right _ (List.mem_of_getElem? (i := 223) (by decide +kernel)), (by decide +kernel)⟩
theorem gw224 : Cond.constant RX4 41 (Int32.ofInt (-1000002)) ∈ gW := List.mem_filter.mpr ⟨List.mem_append_right _ (List.mem_of_getElem? (i := 224) (by decide +kernel)), (by decide +kernel)⟩
theorem gw225 : Cond.methodLinkNest RX4 42 yX3_takesIn "EnoughServers" ∈ nWs := List.mem_filter.mpr ⟨List.mem_of_getElem? (i := 225) (by decide +kernel), rfl⟩
theorem gw227 : Cond.instanceMethod yX3_takesIn ∈ gW := List.mem_filter.mpr ⟨List.mem_append_right _ (List.mem_of_getElem? (i := 227) (by decide +kernel)), (by decide +kernel)⟩
theorem gw228 : Cond.code yX3_takesIn cX3_takesIn 2 (some .boolean) ∈ gW := List.mem_filter.mpr ⟨List.mem_append_right _ (List.mem_of_getElem? (i := 228) (by decide +kernel)), (by decide +kernel)⟩
theorem gw229 : Cond.constant RX4 49 (Int32.ofInt (-1000004)) ∈ gW := List.mem_filter.mpr ⟨List.mem_append_right _ (List.mem_of_getElem? (i := 229) (by decide +kernel)), (by decide +kernel)⟩
theorem gw233 : Cond.code yX4_house cX4_house 2 (some .int) ∈ gW := List.mem_filter.mpr ⟨List.mem_append_right _ (List.mem_of_getElem? (i := 233) (by decide +kernel)), (by decide +kernel)⟩
theorem gw234 : Cond.methodLinkNest RX4 50 yX3_readInto "EnoughServers" ∈ nWs := List.mem_filter.mpr ⟨List.mem_of_getElem? (i := 234) (by decide +kernel), rfl⟩
theorem gw236 : Cond.instanceMethod yX3_readInto ∈ gW := List.mem_filter.mpr ⟨List.mem_append_right _ (List.mem_of_getElem? (i := 236) (by decide +kernel)), (by decide +kernel)⟩
theorem gw237 : Cond.code yX3_readInto cX3_readInto 2 (some .boolean) ∈ gW := List.mem_filter.mpr ⟨List.mem_append_right _ (List.mem_of_getElem? (i := 237) (by decide +kernel)), (by decide +kernel)⟩
theorem gw238 : Cond.methodLink RX3 39 yX3_step ∈ gW := List.mem_filter.mpr ⟨List.mem_append_right _ (List.mem_of_getElem? (i := 238) (by decide +kernel)), (by decide +kernel)⟩
theorem gw240 : Cond.instanceMethod yX3_step ∈ gW := List.mem_filter.mpr ⟨List.mem_append_right _ (List.mem_of_getElem? (i := 240) (by decide +kernel)), (by decide +kernel)⟩
theorem gw241 : Cond.code yX3_step cX3_step 1 none ∈ gW := List.mem_filter.mpr ⟨List.mem_append_right _ (List.mem_of_getElem? (i := 241) (by decide +kernel)), (by decide +kernel)⟩
theorem gw242 : Cond.methodLink RX3 119 yX3_isDigit ∈ gW := List.mem_filter.mpr ⟨List.mem_append_right _ (List.mem_of_getElem? (i := 242) (by decide +kernel)), (by decide +kernel)⟩
theorem gw243 : Cond.static yX3_isDigit ∈ gW := List.mem_filter.mpr ⟨List.mem_append_right _ (List.mem_of_getElem? (i := 243) (by decide +kernel)), (by decide +kernel)⟩
theorem gw244 : Cond.code yX3_isDigit cX3_isDigit 1 (some .boolean) ∈ gW := List.mem_filter.mpr ⟨List.mem_append_right _ (List.mem_of_getElem? (i := 244) (by decide +kernel)), (by decide +kernel)⟩
theorem gw245 : Cond.methodLink RX3 42 yX3_readHouse ∈ gW := List.mem_filter.mpr ⟨List.mem_append_right _ (List.mem_of_getElem? (i := 245) (by decide +kernel)), (by decide +kernel)⟩
theorem gw247 : Cond.instanceMethod yX3_readHouse ∈ gW := List.mem_filter.mpr ⟨List.mem_append_right _ (List.mem_of_getElem? (i := 247) (by decide +kernel)), (by decide +kernel)⟩
theorem gw248 : Cond.code yX3_readHouse cX3_readHouse 3 (some .boolean) ∈ gW := List.mem_filter.mpr ⟨List.mem_append_right _ (List.mem_of_getElem? (i := 248) (by decide +kernel)), (by decide +kernel)⟩
theorem gw249 : Cond.methodLink RX3 49 yX3_passes ∈ gW := List.mem_filter.mpr ⟨List.mem_append_right _ (List.mem_of_getElem? (i := 249) (by decide +kernel)), (by decide +kernel)⟩
theorem gw251 : Cond.instanceMethod yX3_passes ∈ gW := List.mem_filter.mpr ⟨List.mem_append_right _ (List.mem_of_getElem? (i := 251) (by decide +kernel)), (by decide +kernel)⟩
theorem gw252 : Cond.code yX3_passes cX3_passes 2 (some .boolean) ∈ gW := List.mem_filter.mpr ⟨List.mem_append_right _ (List.mem_of_getElem? (i := 252) (by decide +kernel)), (by decide +kernel)⟩
theorem gw253 : Cond.methodLink RX3 78 yX3_fails ∈ gW := List.mem_filter.mpr ⟨List.mem_append_right _ (List.mem_of_getElem? (i := 253) (by decide +kernel)), (by decide +kernel)⟩
theorem gw255 : Cond.instanceMethod yX3_fails ∈ gW := List.mem_filter.mpr ⟨List.mem_append_right _ (List.mem_of_getElem? (i := 255) (by decide +kernel)), (by decide +kernel)⟩
theorem gw256 : Cond.code yX3_fails cX3_fails 2 (some .boolean) ∈ gW := List.mem_filter.mpr ⟨List.mem_append_right _ (List.mem_of_getElem? (i := 256) (by decide +kernel)), (by decide +kernel)⟩
theorem gw257 : Cond.fieldLinkNest RX3 53 RX4 "HOUSE_FROM" "[I" "EnoughServers" ∈ nWs := List.mem_filter.mpr ⟨List.mem_of_getElem? (i := 257) (by decide +kernel), rfl⟩
theorem gw259 : Cond.fieldLinkNest RX3 56 RX4 "HOUSE_TO" "[I" "EnoughServers" ∈ nWs := List.mem_filter.mpr ⟨List.mem_of_getElem? (i := 259) (by decide +kernel), rfl⟩
theorem gw261 : Cond.methodLink RX3 59 yX3_isNumber ∈ gW := List.mem_filter.mpr ⟨List.mem_append_right _ (List.mem_of_getElem? (i := 261) (by decide +kernel)), (by decide +kernel)⟩
theorem gw263 : Cond.instanceMethod yX3_isNumber ∈ gW := List.mem_filter.mpr ⟨List.mem_append_right _ (List.mem_of_getElem? (i := 263) (by decide +kernel)), (by decide +kernel)⟩
theorem gw264 : Cond.code yX3_isNumber cX3_isNumber 3 (some .boolean) ∈ gW := List.mem_filter.mpr ⟨List.mem_append_right _ (List.mem_of_getElem? (i := 264) (by decide +kernel)), (by decide +kernel)⟩
theorem gw265 : Cond.methodLink RX3 46 yX3_readServices ∈ gW := List.mem_filter.mpr ⟨List.mem_append_right _ (List.mem_of_getElem? (i := 265) (by decide +kernel)), (by decide +kernel)⟩
theorem gw267 : Cond.instanceMethod yX3_readServices ∈ gW := List.mem_filter.mpr ⟨List.mem_append_right _ (List.mem_of_getElem? (i := 267) (by decide +kernel)), (by decide +kernel)⟩
theorem gw268 : Cond.code yX3_readServices cX3_readServices 3 (some .boolean) ∈ gW := List.mem_filter.mpr ⟨List.mem_append_right _ (List.mem_of_getElem? (i := 268) (by decide +kernel)), (by decide +kernel)⟩
theorem gw269 : Cond.methodLink RX3 70 yX3_readNumbers ∈ gW := List.mem_filter.mpr ⟨List.mem_append_right _ (List.mem_of_getElem? (i := 269) (by decide +kernel)), (by decide +kernel)⟩
theorem gw271 : Cond.instanceMethod yX3_readNumbers ∈ gW := List.mem_filter.mpr ⟨List.mem_append_right _ (List.mem_of_getElem? (i := 271) (by decide +kernel)), (by decide +kernel)⟩
theorem gw272 : Cond.code yX3_readNumbers cX3_readNumbers 6 (some .boolean) ∈ gW := List.mem_filter.mpr ⟨List.mem_append_right _ (List.mem_of_getElem? (i := 272) (by decide +kernel)), (by decide +kernel)⟩
theorem gw273 : Cond.methodLinkNest RX3 81 yX0_leasts "EnoughServers" ∈ nWs := List.mem_filter.mpr ⟨List.mem_of_getElem? (i := 273) (by decide +kernel), rfl⟩
theorem gw275 : Cond.instanceMethod yX0_leasts ∈ gW := List.mem_filter.mpr ⟨List.mem_append_right _ (List.mem_of_getElem? (i := 275) (by decide +kernel)), (by decide +kernel)⟩
theorem gw276 : Cond.code yX0_leasts cX0_leasts 3 (some .int) ∈ gW := List.mem_filter.mpr ⟨List.mem_append_right _ (List.mem_of_getElem? (i := 276) (by decide +kernel)), (by decide +kernel)⟩
theorem gw277 : Cond.fieldLinkNest RX3 85 RX4 "SERVICE_FROM" "[I" "EnoughServers" ∈ nWs := List.mem_filter.mpr ⟨List.mem_of_getElem? (i := 277) (by decide +kernel), rfl⟩
theorem gw279 : Cond.methodLink RX3 91 Lib.Math.max.name ∈ gW := List.mem_filter.mpr ⟨List.mem_append_right _ (List.mem_of_getElem? (i := 279) (by decide +kernel)), (by decide +kernel)⟩
theorem gw280 : Cond.static Lib.Math.max.name ∈ gW := List.mem_filter.mpr ⟨List.mem_append_right _ (List.mem_of_getElem? (i := 280) (by decide +kernel)), (by decide +kernel)⟩
theorem gw281 : Cond.code Lib.Math.max.name Lib.Math.max.code 2 (some .int) ∈ gW := List.mem_filter.mpr ⟨List.mem_append_right _ (List.mem_of_getElem? (i := 281) (by decide +kernel)), (by decide +kernel)⟩
theorem gw282 : Cond.fieldLinkNest RX3 97 RX4 "SERVICE_TO" "[I" "EnoughServers" ∈ nWs := List.mem_filter.mpr ⟨List.mem_of_getElem? (i := 282) (by decide +kernel), rfl⟩
theorem gw284 : Cond.methodLink RX3 74 yX3_readMeasures ∈ gW := List.mem_filter.mpr ⟨List.mem_append_right _ (List.mem_of_getElem? (i := 284) (by decide +kernel)), (by decide +kernel)⟩
theorem gw286 : Cond.instanceMethod yX3_readMeasures ∈ gW := List.mem_filter.mpr ⟨List.mem_append_right _ (List.mem_of_getElem? (i := 286) (by decide +kernel)), (by decide +kernel)⟩
theorem gw287 : Cond.code yX3_readMeasures cX3_readMeasures 4 (some .boolean) ∈ gW := List.mem_filter.mpr ⟨List.mem_append_right _ (List.mem_of_getElem? (i := 287) (by decide +kernel)), (by decide +kernel)⟩
theorem gw288 : Cond.methodLink RX3 103 yX3_kindOf ∈ gW := List.mem_filter.mpr ⟨List.mem_append_right _ (List.mem_of_getElem? (i := 288) (by decide +kernel)), (by decide +kernel)⟩
theorem gw289 : Cond.static yX3_kindOf ∈ gW := List.mem_filter.mpr ⟨List.mem_append_right _ (List.mem_of_getElem? (i := 289) (by decide +kernel)), (by decide +kernel)⟩
theorem gw290 : Cond.code yX3_kindOf cX3_kindOf 1 (some .int) ∈ gW := List.mem_filter.mpr ⟨List.mem_append_right _ (List.mem_of_getElem? (i := 290) (by decide +kernel)), (by decide +kernel)⟩
theorem gw291 : Cond.methodLinkNest RX4 57 yX0_begin "EnoughServers" ∈ nWs := List.mem_filter.mpr ⟨List.mem_of_getElem? (i := 291) (by decide +kernel), rfl⟩
theorem gw293 : Cond.instanceMethod yX0_begin ∈ gW := List.mem_filter.mpr ⟨List.mem_append_right _ (List.mem_of_getElem? (i := 293) (by decide +kernel)), (by decide +kernel)⟩
theorem gw294 : Cond.code yX0_begin cX0_begin 2 none ∈ gW := List.mem_filter.mpr ⟨List.mem_append_right _ (List.mem_of_getElem? (i := 294) (by decide +kernel)), (by decide +kernel)⟩
theorem gw295 : Cond.methodLinkNest RX0 32 yX2_begin "EnoughServers" ∈ nWs := List.mem_filter.mpr ⟨List.mem_of_getElem? (i := 295) (by decide +kernel), rfl⟩
theorem gw297 : Cond.instanceMethod yX2_begin ∈ gW := List.mem_filter.mpr ⟨List.mem_append_right _ (List.mem_of_getElem? (i := 297) (by decide +kernel)), (by decide +kernel)⟩
theorem gw298 : Cond.code yX2_begin cX2_begin 2 none ∈ gW := List.mem_filter.mpr ⟨List.mem_append_right _ (List.mem_of_getElem? (i := 298) (by decide +kernel)), (by decide +kernel)⟩
theorem gw299 : Cond.methodLink RX2 68 yJ7_fill_53178 ∈ gW := List.mem_filter.mpr ⟨List.mem_append_right _ (List.mem_of_getElem? (i := 299) (by decide +kernel)), (by decide +kernel)⟩
theorem gw300 : Cond.static yJ7_fill_53178 ∈ gW := List.mem_filter.mpr ⟨List.mem_append_right _ (List.mem_of_getElem? (i := 300) (by decide +kernel)), (by decide +kernel)⟩
theorem gw301 : Cond.code yJ7_fill_53178 cJ7_fill_53178 4 none ∈ gW := List.mem_filter.mpr ⟨List.mem_append_right _ (List.mem_of_getElem? (i := 301) (by decide +kernel)), (by decide +kernel)⟩
theorem gw302 : Cond.methodLinkNest RX4 60 yX0_copyFrom "EnoughServers" ∈ nWs := List.mem_filter.mpr ⟨List.mem_of_getElem? (i := 302) (by decide +kernel), rfl⟩
theorem gw304 : Cond.instanceMethod yX0_copyFrom ∈ gW := List.mem_filter.mpr ⟨List.mem_append_right _ (List.mem_of_getElem? (i := 304) (by decide +kernel)), (by decide +kernel)⟩
theorem gw305 : Cond.code yX0_copyFrom cX0_copyFrom 3 none ∈ gW := List.mem_filter.mpr ⟨List.mem_append_right _ (List.mem_of_getElem? (i := 305) (by decide +kernel)), (by decide +kernel)⟩
theorem gw306 : Cond.methodLink RX0 35 arraycopyName ∈ gW := List.mem_filter.mpr ⟨List.mem_append_right _ (List.mem_of_getElem? (i := 306) (by decide +kernel)), (by decide +kernel)⟩
theorem gw307 : Cond.static arraycopyName ∈ gW := List.mem_filter.mpr ⟨List.mem_append_right _ (List.mem_of_getElem? (i := 307) (by decide +kernel)), (by decide +kernel)⟩
theorem gw308 : Cond.native arraycopyName ∈ gW := List.mem_filter.mpr ⟨List.mem_append_right _ (List.mem_of_getElem? (i := 308) (by decide +kernel)), (by decide +kernel)⟩
theorem gw309 : Cond.methodLinkNest RX0 41 yX2_copyFrom "EnoughServers" ∈ nWs := List.mem_filter.mpr ⟨List.mem_of_getElem? (i := 309) (by decide +kernel), rfl⟩
theorem gw311 : Cond.instanceMethod yX2_copyFrom ∈ gW := List.mem_filter.mpr ⟨List.mem_append_right _ (List.mem_of_getElem? (i := 311) (by decide +kernel)), (by decide +kernel)⟩
theorem gw312 : Cond.code yX2_copyFrom cX2_copyFrom 3 none ∈ gW := List.mem_filter.mpr ⟨List.mem_append_right _ (List.mem_of_getElem? (i := 312) (by decide +kernel)), (by decide +kernel)⟩
theorem gw313 : Cond.methodLink RX2 77 yX2_takeShape ∈ gW := List.mem_filter.mpr ⟨List.mem_append_right _ (List.mem_of_getElem? (i := 313) (by decide +kernel)), (by decide +kernel)⟩
theorem gw315 : Cond.instanceMethod yX2_takeShape ∈ gW := List.mem_filter.mpr ⟨List.mem_append_right _ (List.mem_of_getElem? (i := 315) (by decide +kernel)), (by decide +kernel)⟩
theorem gw316 : Cond.code yX2_takeShape cX2_takeShape 3 none ∈ gW := List.mem_filter.mpr ⟨List.mem_append_right _ (List.mem_of_getElem? (i := 316) (by decide +kernel)), (by decide +kernel)⟩
theorem gw317 : Cond.methodLink RX2 81 arraycopyName ∈ gW := List.mem_filter.mpr ⟨List.mem_append_right _ (List.mem_of_getElem? (i := 317) (by decide +kernel)), (by decide +kernel)⟩
theorem gw321 : Cond.code yX4_fault cX4_fault 1 (some .int) ∈ gW := List.mem_filter.mpr ⟨List.mem_append_right _ (List.mem_of_getElem? (i := 321) (by decide +kernel)), (by decide +kernel)⟩
theorem gw325 : Cond.code yX4_load cX4_load 6 (some .int) ∈ gW := List.mem_filter.mpr ⟨List.mem_append_right _ (List.mem_of_getElem? (i := 325) (by decide +kernel)), (by decide +kernel)⟩
theorem gw326 : Cond.methodLink RX4 70 yX4_hasMeasure ∈ gW := List.mem_filter.mpr ⟨List.mem_append_right _ (List.mem_of_getElem? (i := 326) (by decide +kernel)), (by decide +kernel)⟩
theorem gw328 : Cond.instanceMethod yX4_hasMeasure ∈ gW := List.mem_filter.mpr ⟨List.mem_append_right _ (List.mem_of_getElem? (i := 328) (by decide +kernel)), (by decide +kernel)⟩
theorem gw329 : Cond.code yX4_hasMeasure cX4_hasMeasure 3 (some .boolean) ∈ gW := List.mem_filter.mpr ⟨List.mem_append_right _ (List.mem_of_getElem? (i := 329) (by decide +kernel)), (by decide +kernel)⟩
theorem gw330 : Cond.methodLink RX4 93 yX4_hasService ∈ gW := List.mem_filter.mpr ⟨List.mem_append_right _ (List.mem_of_getElem? (i := 330) (by decide +kernel)), (by decide +kernel)⟩
theorem gw332 : Cond.instanceMethod yX4_hasService ∈ gW := List.mem_filter.mpr ⟨List.mem_append_right _ (List.mem_of_getElem? (i := 332) (by decide +kernel)), (by decide +kernel)⟩
theorem gw333 : Cond.code yX4_hasService cX4_hasService 2 (some .boolean) ∈ gW := List.mem_filter.mpr ⟨List.mem_append_right _ (List.mem_of_getElem? (i := 333) (by decide +kernel)), (by decide +kernel)⟩
theorem gw334 : Cond.constant RX4 74 (Int32.ofInt (-1000001)) ∈ gW := List.mem_filter.mpr ⟨List.mem_append_right _ (List.mem_of_getElem? (i := 334) (by decide +kernel)), (by decide +kernel)⟩
theorem gw335 : Cond.methodLink RX4 75 yX4_keepForUndo ∈ gW := List.mem_filter.mpr ⟨List.mem_append_right _ (List.mem_of_getElem? (i := 335) (by decide +kernel)), (by decide +kernel)⟩
theorem gw337 : Cond.instanceMethod yX4_keepForUndo ∈ gW := List.mem_filter.mpr ⟨List.mem_append_right _ (List.mem_of_getElem? (i := 337) (by decide +kernel)), (by decide +kernel)⟩
theorem gw338 : Cond.code yX4_keepForUndo cX4_keepForUndo 1 none ∈ gW := List.mem_filter.mpr ⟨List.mem_append_right _ (List.mem_of_getElem? (i := 338) (by decide +kernel)), (by decide +kernel)⟩
theorem gw339 : Cond.methodLink RX4 213 Lib.Math.min.name ∈ gW := List.mem_filter.mpr ⟨List.mem_append_right _ (List.mem_of_getElem? (i := 339) (by decide +kernel)), (by decide +kernel)⟩
theorem gw340 : Cond.static Lib.Math.min.name ∈ gW := List.mem_filter.mpr ⟨List.mem_append_right _ (List.mem_of_getElem? (i := 340) (by decide +kernel)), (by decide +kernel)⟩
theorem gw341 : Cond.code Lib.Math.min.name Lib.Math.min.code 2 (some .int) ∈ gW := List.mem_filter.mpr ⟨List.mem_append_right _ (List.mem_of_getElem? (i := 341) (by decide +kernel)), (by decide +kernel)⟩
theorem gw345 : Cond.code yX4_set cX4_set 6 (some .int) ∈ gW := List.mem_filter.mpr ⟨List.mem_append_right _ (List.mem_of_getElem? (i := 345) (by decide +kernel)), (by decide +kernel)⟩
theorem gw346 : Cond.fieldLink RX4 96 RX4 "SERVICE_FROM" "[I" ∈ gW := List.mem_filter.mpr ⟨List.mem_append_right _ (List.mem_of_getElem? (i := 346) (by decide +kernel)), (by decide +kernel)⟩
theorem gw347 : Cond.fieldLink RX4 100 RX4 "SERVICE_TO" "[I" ∈ gW := List.mem_filter.mpr ⟨List.mem_append_right _ (List.mem_of_getElem? (i := 347) (by decide +kernel)), (by decide +kernel)⟩
theorem gw348 : Cond.constant RX4 106 (Int32.ofInt (-1000003)) ∈ gW := List.mem_filter.mpr ⟨List.mem_append_right _ (List.mem_of_getElem? (i := 348) (by decide +kernel)), (by decide +kernel)⟩
theorem gw349 : Cond.methodLinkNest RX4 107 yX0_leasts "EnoughServers" ∈ nWs := List.mem_filter.mpr ⟨List.mem_of_getElem? (i := 349) (by decide +kernel), rfl⟩
theorem gw353 : Cond.code yX4_round cX4_round 1 (some .int) ∈ gW := List.mem_filter.mpr ⟨List.mem_append_right _ (List.mem_of_getElem? (i := 353) (by decide +kernel)), (by decide +kernel)⟩
theorem gw354 : Cond.methodLinkNest RX4 112 yX0_playRound "EnoughServers" ∈ nWs := List.mem_filter.mpr ⟨List.mem_of_getElem? (i := 354) (by decide +kernel), rfl⟩
theorem gw356 : Cond.instanceMethod yX0_playRound ∈ gW := List.mem_filter.mpr ⟨List.mem_append_right _ (List.mem_of_getElem? (i := 356) (by decide +kernel)), (by decide +kernel)⟩
theorem gw357 : Cond.code yX0_playRound cX0_playRound 3 none ∈ gW := List.mem_filter.mpr ⟨List.mem_append_right _ (List.mem_of_getElem? (i := 357) (by decide +kernel)), (by decide +kernel)⟩
theorem gw358 : Cond.methodLinkNest RX0 99 yX2_wake "EnoughServers" ∈ nWs := List.mem_filter.mpr ⟨List.mem_of_getElem? (i := 358) (by decide +kernel), rfl⟩
theorem gw360 : Cond.instanceMethod yX2_wake ∈ gW := List.mem_filter.mpr ⟨List.mem_append_right _ (List.mem_of_getElem? (i := 360) (by decide +kernel)), (by decide +kernel)⟩
theorem gw361 : Cond.code yX2_wake cX2_wake 2 none ∈ gW := List.mem_filter.mpr ⟨List.mem_append_right _ (List.mem_of_getElem? (i := 361) (by decide +kernel)), (by decide +kernel)⟩
theorem gw362 : Cond.methodLink RX0 103 yX0_wantBeside ∈ gW := List.mem_filter.mpr ⟨List.mem_append_right _ (List.mem_of_getElem? (i := 362) (by decide +kernel)), (by decide +kernel)⟩
theorem gw364 : Cond.instanceMethod yX0_wantBeside ∈ gW := List.mem_filter.mpr ⟨List.mem_append_right _ (List.mem_of_getElem? (i := 364) (by decide +kernel)), (by decide +kernel)⟩
theorem gw365 : Cond.code yX0_wantBeside cX0_wantBeside 5 (some .int) ∈ gW := List.mem_filter.mpr ⟨List.mem_append_right _ (List.mem_of_getElem? (i := 365) (by decide +kernel)), (by decide +kernel)⟩
theorem gw366 : Cond.methodLink RX0 92 yX0_wantOf ∈ gW := List.mem_filter.mpr ⟨List.mem_append_right _ (List.mem_of_getElem? (i := 366) (by decide +kernel)), (by decide +kernel)⟩
theorem gw368 : Cond.instanceMethod yX0_wantOf ∈ gW := List.mem_filter.mpr ⟨List.mem_append_right _ (List.mem_of_getElem? (i := 368) (by decide +kernel)), (by decide +kernel)⟩
theorem gw369 : Cond.code yX0_wantOf cX0_wantOf 4 (some .int) ∈ gW := List.mem_filter.mpr ⟨List.mem_append_right _ (List.mem_of_getElem? (i := 369) (by decide +kernel)), (by decide +kernel)⟩
theorem gw370 : Cond.methodLinkNest RX0 70 yX1_foresee "EnoughServers" ∈ nWs := List.mem_filter.mpr ⟨List.mem_of_getElem? (i := 370) (by decide +kernel), rfl⟩
theorem gw372 : Cond.instanceMethod yX1_foresee ∈ gW := List.mem_filter.mpr ⟨List.mem_append_right _ (List.mem_of_getElem? (i := 372) (by decide +kernel)), (by decide +kernel)⟩
theorem gw373 : Cond.code yX1_foresee cX1_foresee 8 (some .int) ∈ gW := List.mem_filter.mpr ⟨List.mem_append_right _ (List.mem_of_getElem? (i := 373) (by decide +kernel)), (by decide +kernel)⟩
theorem gw374 : Cond.methodLinkNest RX1 31 yX4_cutUp "EnoughServers" ∈ nWs := List.mem_filter.mpr ⟨List.mem_of_getElem? (i := 374) (by decide +kernel), rfl⟩
theorem gw375 : Cond.static yX4_cutUp ∈ gW := List.mem_filter.mpr ⟨List.mem_append_right _ (List.mem_of_getElem? (i := 375) (by decide +kernel)), (by decide +kernel)⟩
theorem gw376 : Cond.code yX4_cutUp cX4_cutUp 2 (some .int) ∈ gW := List.mem_filter.mpr ⟨List.mem_append_right _ (List.mem_of_getElem? (i := 376) (by decide +kernel)), (by decide +kernel)⟩
theorem gw377 : Cond.methodLinkNest RX0 77 yX2_readyIn "EnoughServers" ∈ nWs := List.mem_filter.mpr ⟨List.mem_of_getElem? (i := 377) (by decide +kernel), rfl⟩
theorem gw379 : Cond.instanceMethod yX2_readyIn ∈ gW := List.mem_filter.mpr ⟨List.mem_append_right _ (List.mem_of_getElem? (i := 379) (by decide +kernel)), (by decide +kernel)⟩
theorem gw380 : Cond.code yX2_readyIn cX2_readyIn 2 (some .int) ∈ gW := List.mem_filter.mpr ⟨List.mem_append_right _ (List.mem_of_getElem? (i := 380) (by decide +kernel)), (by decide +kernel)⟩
theorem gw381 : Cond.methodLinkNest RX0 81 yX1_wantBy "EnoughServers" ∈ nWs := List.mem_filter.mpr ⟨List.mem_of_getElem? (i := 381) (by decide +kernel), rfl⟩
theorem gw383 : Cond.instanceMethod yX1_wantBy ∈ gW := List.mem_filter.mpr ⟨List.mem_append_right _ (List.mem_of_getElem? (i := 383) (by decide +kernel)), (by decide +kernel)⟩
theorem gw384 : Cond.code yX1_wantBy cX1_wantBy 5 (some .int) ∈ gW := List.mem_filter.mpr ⟨List.mem_append_right _ (List.mem_of_getElem? (i := 384) (by decide +kernel)), (by decide +kernel)⟩
theorem gw385 : Cond.methodLink RX1 25 Lib.Math.max.name ∈ gW := List.mem_filter.mpr ⟨List.mem_append_right _ (List.mem_of_getElem? (i := 385) (by decide +kernel)), (by decide +kernel)⟩
theorem gw386 : Cond.methodLink RX1 34 Lib.Math.abs.name ∈ gW := List.mem_filter.mpr ⟨List.mem_append_right _ (List.mem_of_getElem? (i := 386) (by decide +kernel)), (by decide +kernel)⟩
theorem gw387 : Cond.static Lib.Math.abs.name ∈ gW := List.mem_filter.mpr ⟨List.mem_append_right _ (List.mem_of_getElem? (i := 387) (by decide +kernel)), (by decide +kernel)⟩
theorem gw388 : Cond.code Lib.Math.abs.name Lib.Math.abs.code 1 (some .int) ∈ gW := List.mem_filter.mpr ⟨List.mem_append_right _ (List.mem_of_getElem? (i := 388) (by decide +kernel)), (by decide +kernel)⟩
theorem gw389 : Cond.methodLinkNest RX1 38 yX4_cut "EnoughServers" ∈ nWs := List.mem_filter.mpr ⟨List.mem_of_getElem? (i := 389) (by decide +kernel), rfl⟩
theorem gw390 : Cond.static yX4_cut ∈ gW := List.mem_filter.mpr ⟨List.mem_append_right _ (List.mem_of_getElem? (i := 390) (by decide +kernel)), (by decide +kernel)⟩
theorem gw391 : Cond.code yX4_cut cX4_cut 2 (some .int) ∈ gW := List.mem_filter.mpr ⟨List.mem_append_right _ (List.mem_of_getElem? (i := 391) (by decide +kernel)), (by decide +kernel)⟩
theorem gw392 : Cond.methodLink RX0 96 Lib.Math.max.name ∈ gW := List.mem_filter.mpr ⟨List.mem_append_right _ (List.mem_of_getElem? (i := 392) (by decide +kernel)), (by decide +kernel)⟩
theorem gw393 : Cond.methodLinkNest RX0 110 yX2_plan "EnoughServers" ∈ nWs := List.mem_filter.mpr ⟨List.mem_of_getElem? (i := 393) (by decide +kernel), rfl⟩
theorem gw395 : Cond.instanceMethod yX2_plan ∈ gW := List.mem_filter.mpr ⟨List.mem_append_right _ (List.mem_of_getElem? (i := 395) (by decide +kernel)), (by decide +kernel)⟩
theorem gw396 : Cond.code yX2_plan cX2_plan 2 none ∈ gW := List.mem_filter.mpr ⟨List.mem_append_right _ (List.mem_of_getElem? (i := 396) (by decide +kernel)), (by decide +kernel)⟩
theorem gw397 : Cond.methodLink RX2 96 yX2_steadied ∈ gW := List.mem_filter.mpr ⟨List.mem_append_right _ (List.mem_of_getElem? (i := 397) (by decide +kernel)), (by decide +kernel)⟩
theorem gw399 : Cond.instanceMethod yX2_steadied ∈ gW := List.mem_filter.mpr ⟨List.mem_append_right _ (List.mem_of_getElem? (i := 399) (by decide +kernel)), (by decide +kernel)⟩
theorem gw400 : Cond.code yX2_steadied cX2_steadied 6 (some .int) ∈ gW := List.mem_filter.mpr ⟨List.mem_append_right _ (List.mem_of_getElem? (i := 400) (by decide +kernel)), (by decide +kernel)⟩
theorem gw401 : Cond.methodLink RX2 109 Lib.Math.min.name ∈ gW := List.mem_filter.mpr ⟨List.mem_append_right _ (List.mem_of_getElem? (i := 401) (by decide +kernel)), (by decide +kernel)⟩
theorem gw402 : Cond.methodLink RX2 103 Lib.Math.max.name ∈ gW := List.mem_filter.mpr ⟨List.mem_append_right _ (List.mem_of_getElem? (i := 402) (by decide +kernel)), (by decide +kernel)⟩
theorem gw403 : Cond.methodLink RX2 100 yX2_bounded ∈ gW := List.mem_filter.mpr ⟨List.mem_append_right _ (List.mem_of_getElem? (i := 403) (by decide +kernel)), (by decide +kernel)⟩
theorem gw405 : Cond.instanceMethod yX2_bounded ∈ gW := List.mem_filter.mpr ⟨List.mem_append_right _ (List.mem_of_getElem? (i := 405) (by decide +kernel)), (by decide +kernel)⟩
theorem gw406 : Cond.code yX2_bounded cX2_bounded 6 (some .int) ∈ gW := List.mem_filter.mpr ⟨List.mem_append_right _ (List.mem_of_getElem? (i := 406) (by decide +kernel)), (by decide +kernel)⟩
theorem gw407 : Cond.methodLinkNest RX2 112 yX4_cutUp "EnoughServers" ∈ nWs := List.mem_filter.mpr ⟨List.mem_of_getElem? (i := 407) (by decide +kernel), rfl⟩
theorem gw408 : Cond.methodLinkNest RX0 113 yX2_giveUpTooMany "EnoughServers" ∈ nWs := List.mem_filter.mpr ⟨List.mem_of_getElem? (i := 408) (by decide +kernel), rfl⟩
theorem gw410 : Cond.instanceMethod yX2_giveUpTooMany ∈ gW := List.mem_filter.mpr ⟨List.mem_append_right _ (List.mem_of_getElem? (i := 410) (by decide +kernel)), (by decide +kernel)⟩
theorem gw411 : Cond.code yX2_giveUpTooMany cX2_giveUpTooMany 6 none ∈ gW := List.mem_filter.mpr ⟨List.mem_append_right _ (List.mem_of_getElem? (i := 411) (by decide +kernel)), (by decide +kernel)⟩
theorem gw412 : Cond.methodLink RX0 116 yX0_giveOut ∈ gW := List.mem_filter.mpr ⟨List.mem_append_right _ (List.mem_of_getElem? (i := 412) (by decide +kernel)), (by decide +kernel)⟩
theorem gw414 : Cond.instanceMethod yX0_giveOut ∈ gW := List.mem_filter.mpr ⟨List.mem_append_right _ (List.mem_of_getElem? (i := 414) (by decide +kernel)), (by decide +kernel)⟩
theorem gw415 : Cond.code yX0_giveOut cX0_giveOut 7 none ∈ gW := List.mem_filter.mpr ⟨List.mem_append_right _ (List.mem_of_getElem? (i := 415) (by decide +kernel)), (by decide +kernel)⟩
theorem gw416 : Cond.methodLink RX0 122 yX0_servers ∈ gW := List.mem_filter.mpr ⟨List.mem_append_right _ (List.mem_of_getElem? (i := 416) (by decide +kernel)), (by decide +kernel)⟩
theorem gw418 : Cond.instanceMethod yX0_servers ∈ gW := List.mem_filter.mpr ⟨List.mem_append_right _ (List.mem_of_getElem? (i := 418) (by decide +kernel)), (by decide +kernel)⟩
theorem gw419 : Cond.code yX0_servers cX0_servers 3 (some .int) ∈ gW := List.mem_filter.mpr ⟨List.mem_append_right _ (List.mem_of_getElem? (i := 419) (by decide +kernel)), (by decide +kernel)⟩
theorem gw420 : Cond.methodLink RX0 126 yX0_firstInNeed ∈ gW := List.mem_filter.mpr ⟨List.mem_append_right _ (List.mem_of_getElem? (i := 420) (by decide +kernel)), (by decide +kernel)⟩
theorem gw422 : Cond.instanceMethod yX0_firstInNeed ∈ gW := List.mem_filter.mpr ⟨List.mem_append_right _ (List.mem_of_getElem? (i := 422) (by decide +kernel)), (by decide +kernel)⟩
theorem gw423 : Cond.code yX0_firstInNeed cX0_firstInNeed 5 (some .int) ∈ gW := List.mem_filter.mpr ⟨List.mem_append_right _ (List.mem_of_getElem? (i := 423) (by decide +kernel)), (by decide +kernel)⟩
theorem gw424 : Cond.methodLinkNest RX0 139 yX2_goesBefore "EnoughServers" ∈ nWs := List.mem_filter.mpr ⟨List.mem_of_getElem? (i := 424) (by decide +kernel), rfl⟩
theorem gw426 : Cond.instanceMethod yX2_goesBefore ∈ gW := List.mem_filter.mpr ⟨List.mem_append_right _ (List.mem_of_getElem? (i := 426) (by decide +kernel)), (by decide +kernel)⟩
theorem gw427 : Cond.code yX2_goesBefore cX2_goesBefore 2 (some .boolean) ∈ gW := List.mem_filter.mpr ⟨List.mem_append_right _ (List.mem_of_getElem? (i := 427) (by decide +kernel)), (by decide +kernel)⟩
theorem gw428 : Cond.methodLink RX0 49 Lib.Math.min.name ∈ gW := List.mem_filter.mpr ⟨List.mem_append_right _ (List.mem_of_getElem? (i := 428) (by decide +kernel)), (by decide +kernel)⟩
theorem gw429 : Cond.methodLinkNest RX0 135 yX2_get "EnoughServers" ∈ nWs := List.mem_filter.mpr ⟨List.mem_of_getElem? (i := 429) (by decide +kernel), rfl⟩
theorem gw431 : Cond.instanceMethod yX2_get ∈ gW := List.mem_filter.mpr ⟨List.mem_append_right _ (List.mem_of_getElem? (i := 431) (by decide +kernel)), (by decide +kernel)⟩
theorem gw432 : Cond.code yX2_get cX2_get 5 none ∈ gW := List.mem_filter.mpr ⟨List.mem_append_right _ (List.mem_of_getElem? (i := 432) (by decide +kernel)), (by decide +kernel)⟩
theorem gw433 : Cond.methodLinkNest RX0 119 yX2_close "EnoughServers" ∈ nWs := List.mem_filter.mpr ⟨List.mem_of_getElem? (i := 433) (by decide +kernel), rfl⟩
theorem gw435 : Cond.instanceMethod yX2_close ∈ gW := List.mem_filter.mpr ⟨List.mem_append_right _ (List.mem_of_getElem? (i := 435) (by decide +kernel)), (by decide +kernel)⟩
theorem gw436 : Cond.code yX2_close cX2_close 4 none ∈ gW := List.mem_filter.mpr ⟨List.mem_append_right _ (List.mem_of_getElem? (i := 436) (by decide +kernel)), (by decide +kernel)⟩
theorem gw437 : Cond.methodLinkNest RX4 115 yX0_servers "EnoughServers" ∈ nWs := List.mem_filter.mpr ⟨List.mem_of_getElem? (i := 437) (by decide +kernel), rfl⟩
theorem gw441 : Cond.code yX4_undo cX4_undo 1 (some .int) ∈ gW := List.mem_filter.mpr ⟨List.mem_append_right _ (List.mem_of_getElem? (i := 441) (by decide +kernel)), (by decide +kernel)⟩
theorem gw445 : Cond.code yX4_service cX4_service 4 (some .int) ∈ gW := List.mem_filter.mpr ⟨List.mem_append_right _ (List.mem_of_getElem? (i := 445) (by decide +kernel)), (by decide +kernel)⟩
theorem gw446 : Cond.methodLinkNest RX4 130 yX2_nextReadyRound "EnoughServers" ∈ nWs := List.mem_filter.mpr ⟨List.mem_of_getElem? (i := 446) (by decide +kernel), rfl⟩
theorem gw448 : Cond.instanceMethod yX2_nextReadyRound ∈ gW := List.mem_filter.mpr ⟨List.mem_append_right _ (List.mem_of_getElem? (i := 448) (by decide +kernel)), (by decide +kernel)⟩
theorem gw449 : Cond.code yX2_nextReadyRound cX2_nextReadyRound 3 (some .int) ∈ gW := List.mem_filter.mpr ⟨List.mem_append_right _ (List.mem_of_getElem? (i := 449) (by decide +kernel)), (by decide +kernel)⟩
theorem gw453 : Cond.code yX4_measure cX4_measure 6 (some .int) ∈ gW := List.mem_filter.mpr ⟨List.mem_append_right _ (List.mem_of_getElem? (i := 453) (by decide +kernel)), (by decide +kernel)⟩
theorem gw454 : Cond.methodLinkNest RX4 143 yX0_pastRounds "EnoughServers" ∈ nWs := List.mem_filter.mpr ⟨List.mem_of_getElem? (i := 454) (by decide +kernel), rfl⟩
theorem gw456 : Cond.instanceMethod yX0_pastRounds ∈ gW := List.mem_filter.mpr ⟨List.mem_append_right _ (List.mem_of_getElem? (i := 456) (by decide +kernel)), (by decide +kernel)⟩
theorem gw457 : Cond.code yX0_pastRounds cX0_pastRounds 1 (some .int) ∈ gW := List.mem_filter.mpr ⟨List.mem_append_right _ (List.mem_of_getElem? (i := 457) (by decide +kernel)), (by decide +kernel)⟩
theorem gw458 : Cond.methodLinkNest RX4 155 yX0_wantOf "EnoughServers" ∈ nWs := List.mem_filter.mpr ⟨List.mem_of_getElem? (i := 458) (by decide +kernel), rfl⟩
theorem gw462 : Cond.code yX4_starting cX4_starting 3 (some .int) ∈ gW := List.mem_filter.mpr ⟨List.mem_append_right _ (List.mem_of_getElem? (i := 462) (by decide +kernel)), (by decide +kernel)⟩
theorem gw466 : Cond.code yX4_count cX4_count 2 (some .int) ∈ gW := List.mem_filter.mpr ⟨List.mem_append_right _ (List.mem_of_getElem? (i := 466) (by decide +kernel)), (by decide +kernel)⟩
theorem gw470 : Cond.code yX4_would cX4_would 4 (some .int) ∈ gW := List.mem_filter.mpr ⟨List.mem_append_right _ (List.mem_of_getElem? (i := 470) (by decide +kernel)), (by decide +kernel)⟩
theorem gw471 : Cond.methodLink RX4 165 yX4_afterOneRound ∈ gW := List.mem_filter.mpr ⟨List.mem_append_right _ (List.mem_of_getElem? (i := 471) (by decide +kernel)), (by decide +kernel)⟩
theorem gw473 : Cond.instanceMethod yX4_afterOneRound ∈ gW := List.mem_filter.mpr ⟨List.mem_append_right _ (List.mem_of_getElem? (i := 473) (by decide +kernel)), (by decide +kernel)⟩
theorem gw474 : Cond.code yX4_afterOneRound cX4_afterOneRound 2 (some (.object "EnoughServers$Service")) ∈ gW := List.mem_filter.mpr ⟨List.mem_append_right _ (List.mem_of_getElem? (i := 474) (by decide +kernel)), (by decide +kernel)⟩
theorem gw478 : Cond.code yX4_why cX4_why 6 (some .int) ∈ gW := List.mem_filter.mpr ⟨List.mem_append_right _ (List.mem_of_getElem? (i := 478) (by decide +kernel)), (by decide +kernel)⟩
theorem gw479 : Cond.methodLinkNest RX4 182 yX2_isHeldBy "EnoughServers" ∈ nWs := List.mem_filter.mpr ⟨List.mem_of_getElem? (i := 479) (by decide +kernel), rfl⟩
theorem gw481 : Cond.instanceMethod yX2_isHeldBy ∈ gW := List.mem_filter.mpr ⟨List.mem_append_right _ (List.mem_of_getElem? (i := 481) (by decide +kernel)), (by decide +kernel)⟩
theorem gw482 : Cond.code yX2_isHeldBy cX2_isHeldBy 2 (some .boolean) ∈ gW := List.mem_filter.mpr ⟨List.mem_append_right _ (List.mem_of_getElem? (i := 482) (by decide +kernel)), (by decide +kernel)⟩
theorem gw486 : Cond.code yX4_forecast cX4_forecast 4 (some .int) ∈ gW := List.mem_filter.mpr ⟨List.mem_append_right _ (List.mem_of_getElem? (i := 486) (by decide +kernel)), (by decide +kernel)⟩
theorem gw487 : Cond.methodLinkNest RX4 185 yX1_foresee "EnoughServers" ∈ nWs := List.mem_filter.mpr ⟨List.mem_of_getElem? (i := 487) (by decide +kernel), rfl⟩
theorem gw491 : Cond.code yX4_ahead cX4_ahead 4 (some .int) ∈ gW := List.mem_filter.mpr ⟨List.mem_append_right _ (List.mem_of_getElem? (i := 491) (by decide +kernel)), (by decide +kernel)⟩
theorem gw492 : Cond.methodLinkNest RX4 189 yX0_spentByAll "EnoughServers" ∈ nWs := List.mem_filter.mpr ⟨List.mem_of_getElem? (i := 492) (by decide +kernel), rfl⟩
theorem gw494 : Cond.instanceMethod yX0_spentByAll ∈ gW := List.mem_filter.mpr ⟨List.mem_append_right _ (List.mem_of_getElem? (i := 494) (by decide +kernel)), (by decide +kernel)⟩
theorem gw495 : Cond.code yX0_spentByAll cX0_spentByAll 3 (some .int) ∈ gW := List.mem_filter.mpr ⟨List.mem_append_right _ (List.mem_of_getElem? (i := 495) (by decide +kernel)), (by decide +kernel)⟩
theorem gw496 : Cond.methodLinkNest RX4 192 yX0_lackOfAll "EnoughServers" ∈ nWs := List.mem_filter.mpr ⟨List.mem_of_getElem? (i := 496) (by decide +kernel), rfl⟩
theorem gw498 : Cond.instanceMethod yX0_lackOfAll ∈ gW := List.mem_filter.mpr ⟨List.mem_append_right _ (List.mem_of_getElem? (i := 498) (by decide +kernel)), (by decide +kernel)⟩
theorem gw499 : Cond.code yX0_lackOfAll cX0_lackOfAll 3 (some .int) ∈ gW := List.mem_filter.mpr ⟨List.mem_append_right _ (List.mem_of_getElem? (i := 499) (by decide +kernel)), (by decide +kernel)⟩
theorem gw503 : Cond.code yX4_until cX4_until 5 (some .int) ∈ gW := List.mem_filter.mpr ⟨List.mem_append_right _ (List.mem_of_getElem? (i := 503) (by decide +kernel)), (by decide +kernel)⟩
theorem gw504 : Cond.methodLinkNest RX4 195 yX2_readyIn "EnoughServers" ∈ nWs := List.mem_filter.mpr ⟨List.mem_of_getElem? (i := 504) (by decide +kernel), rfl⟩
theorem gw508 : Cond.code yX4_needs cX4_needs 7 (some .int) ∈ gW := List.mem_filter.mpr ⟨List.mem_append_right _ (List.mem_of_getElem? (i := 508) (by decide +kernel)), (by decide +kernel)⟩
theorem gw509 : Cond.methodLinkNest RX4 198 yX0_wantBeside "EnoughServers" ∈ nWs := List.mem_filter.mpr ⟨List.mem_of_getElem? (i := 509) (by decide +kernel), rfl⟩
theorem gw510 : Cond.methodLinkNest RX4 202 yX1_leastValue "EnoughServers" ∈ nWs := List.mem_filter.mpr ⟨List.mem_of_getElem? (i := 510) (by decide +kernel), rfl⟩
theorem gw512 : Cond.instanceMethod yX1_leastValue ∈ gW := List.mem_filter.mpr ⟨List.mem_append_right _ (List.mem_of_getElem? (i := 512) (by decide +kernel)), (by decide +kernel)⟩
theorem gw513 : Cond.code yX1_leastValue cX1_leastValue 8 (some .int) ∈ gW := List.mem_filter.mpr ⟨List.mem_append_right _ (List.mem_of_getElem? (i := 513) (by decide +kernel)), (by decide +kernel)⟩
theorem gw514 : Cond.methodLink RX1 41 yX1_wantBy ∈ gW := List.mem_filter.mpr ⟨List.mem_append_right _ (List.mem_of_getElem? (i := 514) (by decide +kernel)), (by decide +kernel)⟩
theorem gw515 : Cond.methodLink RX1 45 yX1_leastUpTo ∈ gW := List.mem_filter.mpr ⟨List.mem_append_right _ (List.mem_of_getElem? (i := 515) (by decide +kernel)), (by decide +kernel)⟩
theorem gw517 : Cond.instanceMethod yX1_leastUpTo ∈ gW := List.mem_filter.mpr ⟨List.mem_append_right _ (List.mem_of_getElem? (i := 517) (by decide +kernel)), (by decide +kernel)⟩
theorem gw518 : Cond.code yX1_leastUpTo cX1_leastUpTo 10 (some .int) ∈ gW := List.mem_filter.mpr ⟨List.mem_append_right _ (List.mem_of_getElem? (i := 518) (by decide +kernel)), (by decide +kernel)⟩
theorem gw522 : Cond.code yX4_replay cX4_replay 6 (some .int) ∈ gW := List.mem_filter.mpr ⟨List.mem_append_right _ (List.mem_of_getElem? (i := 522) (by decide +kernel)), (by decide +kernel)⟩
theorem gw523 : Cond.methodLink RX4 206 yX4_replayed ∈ gW := List.mem_filter.mpr ⟨List.mem_append_right _ (List.mem_of_getElem? (i := 523) (by decide +kernel)), (by decide +kernel)⟩
theorem gw525 : Cond.instanceMethod yX4_replayed ∈ gW := List.mem_filter.mpr ⟨List.mem_append_right _ (List.mem_of_getElem? (i := 525) (by decide +kernel)), (by decide +kernel)⟩
theorem gw526 : Cond.code yX4_replayed cX4_replayed 8 (some (.object "EnoughServers$Service")) ∈ gW := List.mem_filter.mpr ⟨List.mem_append_right _ (List.mem_of_getElem? (i := 526) (by decide +kernel)), (by decide +kernel)⟩
theorem gw527 : Cond.methodLinkNest RX4 219 yX0_standAlone "EnoughServers" ∈ nWs := List.mem_filter.mpr ⟨List.mem_of_getElem? (i := 527) (by decide +kernel), rfl⟩
theorem gw529 : Cond.instanceMethod yX0_standAlone ∈ gW := List.mem_filter.mpr ⟨List.mem_append_right _ (List.mem_of_getElem? (i := 529) (by decide +kernel)), (by decide +kernel)⟩
theorem gw530 : Cond.code yX0_standAlone cX0_standAlone 3 none ∈ gW := List.mem_filter.mpr ⟨List.mem_append_right _ (List.mem_of_getElem? (i := 530) (by decide +kernel)), (by decide +kernel)⟩
theorem gw531 : Cond.methodLinkNest RX0 45 yX2_takeShape "EnoughServers" ∈ nWs := List.mem_filter.mpr ⟨List.mem_of_getElem? (i := 531) (by decide +kernel), rfl⟩
theorem gw532 : Cond.methodLink RX0 48 yX0_begin ∈ gW := List.mem_filter.mpr ⟨List.mem_append_right _ (List.mem_of_getElem? (i := 532) (by decide +kernel)), (by decide +kernel)⟩
theorem gw533 : Cond.methodLinkNest RX4 223 yX2_tellValues "EnoughServers" ∈ nWs := List.mem_filter.mpr ⟨List.mem_of_getElem? (i := 533) (by decide +kernel), rfl⟩
theorem gw535 : Cond.instanceMethod yX2_tellValues ∈ gW := List.mem_filter.mpr ⟨List.mem_append_right _ (List.mem_of_getElem? (i := 535) (by decide +kernel)), (by decide +kernel)⟩
theorem gw536 : Cond.code yX2_tellValues cX2_tellValues 4 none ∈ gW := List.mem_filter.mpr ⟨List.mem_append_right _ (List.mem_of_getElem? (i := 536) (by decide +kernel)), (by decide +kernel)⟩
theorem gw540 : Cond.code yX4_best cX4_best 7 (some .int) ∈ gW := List.mem_filter.mpr ⟨List.mem_append_right _ (List.mem_of_getElem? (i := 540) (by decide +kernel)), (by decide +kernel)⟩
theorem gw541 : Cond.methodLinkNest RX4 210 yX2_costs "EnoughServers" ∈ nWs := List.mem_filter.mpr ⟨List.mem_of_getElem? (i := 541) (by decide +kernel), rfl⟩
theorem gw543 : Cond.instanceMethod yX2_costs ∈ gW := List.mem_filter.mpr ⟨List.mem_append_right _ (List.mem_of_getElem? (i := 543) (by decide +kernel)), (by decide +kernel)⟩
theorem gw544 : Cond.code yX2_costs cX2_costs 1 (some .int) ∈ gW := List.mem_filter.mpr ⟨List.mem_append_right _ (List.mem_of_getElem? (i := 544) (by decide +kernel)), (by decide +kernel)⟩
theorem gw551 : Cond.fieldLink RX5 7 RX5 "row" "[I" ∈ gW := List.mem_filter.mpr ⟨List.mem_append_right _ (List.mem_of_getElem? (i := 551) (by decide +kernel)), (by decide +kernel)⟩
theorem gw552 : Cond.fieldLink RX5 196 RX5 "undos" "I" ∈ gW := List.mem_filter.mpr ⟨List.mem_append_right _ (List.mem_of_getElem? (i := 552) (by decide +kernel)), (by decide +kernel)⟩
theorem gw553 : Cond.fieldLink RX5 13 RX5 "want" "[I" ∈ gW := List.mem_filter.mpr ⟨List.mem_append_right _ (List.mem_of_getElem? (i := 553) (by decide +kernel)), (by decide +kernel)⟩
theorem gw554 : Cond.fieldLink RX5 16 RX5 "steady" "[I" ∈ gW := List.mem_filter.mpr ⟨List.mem_append_right _ (List.mem_of_getElem? (i := 554) (by decide +kernel)), (by decide +kernel)⟩
theorem gw555 : Cond.fieldLink RX5 19 RX5 "bound" "[I" ∈ gW := List.mem_filter.mpr ⟨List.mem_append_right _ (List.mem_of_getElem? (i := 555) (by decide +kernel)), (by decide +kernel)⟩
theorem gw556 : Cond.fieldLink RX5 22 RX5 "due" "[I" ∈ gW := List.mem_filter.mpr ⟨List.mem_append_right _ (List.mem_of_getElem? (i := 556) (by decide +kernel)), (by decide +kernel)⟩
theorem gw557 : Cond.fieldLink RX5 25 RX5 "count" "[I" ∈ gW := List.mem_filter.mpr ⟨List.mem_append_right _ (List.mem_of_getElem? (i := 557) (by decide +kernel)), (by decide +kernel)⟩
theorem gw558 : Cond.fieldLink RX5 28 RX5 "place" "[I" ∈ gW := List.mem_filter.mpr ⟨List.mem_append_right _ (List.mem_of_getElem? (i := 558) (by decide +kernel)), (by decide +kernel)⟩
theorem gw559 : Cond.fieldLink RX5 31 RX5 "got" "[I" ∈ gW := List.mem_filter.mpr ⟨List.mem_append_right _ (List.mem_of_getElem? (i := 559) (by decide +kernel)), (by decide +kernel)⟩
theorem gw560 : Cond.fieldLink RX5 34 RX5 "gave" "[I" ∈ gW := List.mem_filter.mpr ⟨List.mem_append_right _ (List.mem_of_getElem? (i := 560) (by decide +kernel)), (by decide +kernel)⟩
theorem gw561 : Cond.fieldLink RX5 37 RX5 "text" "[I" ∈ gW := List.mem_filter.mpr ⟨List.mem_append_right _ (List.mem_of_getElem? (i := 561) (by decide +kernel)), (by decide +kernel)⟩
theorem gw562 : Cond.fieldLink RX5 124 RX5 "size" "I" ∈ gW := List.mem_filter.mpr ⟨List.mem_append_right _ (List.mem_of_getElem? (i := 562) (by decide +kernel)), (by decide +kernel)⟩
theorem gw563 : Cond.fieldLink RX5 190 RX5 "latest" "I" ∈ gW := List.mem_filter.mpr ⟨List.mem_append_right _ (List.mem_of_getElem? (i := 563) (by decide +kernel)), (by decide +kernel)⟩
theorem gw564 : Cond.fieldLink RX5 129 RX5 "at" "I" ∈ gW := List.mem_filter.mpr ⟨List.mem_append_right _ (List.mem_of_getElem? (i := 564) (by decide +kernel)), (by decide +kernel)⟩
theorem gw565 : Cond.fieldLink RX5 131 RX5 "begin" "I" ∈ gW := List.mem_filter.mpr ⟨List.mem_append_right _ (List.mem_of_getElem? (i := 565) (by decide +kernel)), (by decide +kernel)⟩
theorem gw566 : Cond.fieldLink RX5 134 RX5 "digits" "I" ∈ gW := List.mem_filter.mpr ⟨List.mem_append_right _ (List.mem_of_getElem? (i := 566) (by decide +kernel)), (by decide +kernel)⟩
theorem gw567 : Cond.fieldLink RX5 137 RX5 "value" "I" ∈ gW := List.mem_filter.mpr ⟨List.mem_append_right _ (List.mem_of_getElem? (i := 567) (by decide +kernel)), (by decide +kernel)⟩
theorem gw568 : Cond.fieldLink RX5 140 RX5 "token" "I" ∈ gW := List.mem_filter.mpr ⟨List.mem_append_right _ (List.mem_of_getElem? (i := 568) (by decide +kernel)), (by decide +kernel)⟩
theorem gw569 : Cond.fieldLink RX5 147 RX5 "bad" "I" ∈ gW := List.mem_filter.mpr ⟨List.mem_append_right _ (List.mem_of_getElem? (i := 569) (by decide +kernel)), (by decide +kernel)⟩
theorem gw612 : Cond.code yX5_write cX5_write 2 (some .int) ∈ gW := List.mem_filter.mpr ⟨List.mem_append_right _ (List.mem_of_getElem? (i := 612) (by decide +kernel)), (by decide +kernel)⟩
theorem gw613 : Cond.constantLong RX5 121 (Int64.ofInt 255) ∈ gW := List.mem_filter.mpr ⟨List.mem_append_right _ (List.mem_of_getElem? (i := 613) (by decide +kernel)), (by decide +kernel)⟩
theorem gw614 : Cond.methodLink RX5 44 yX5_in ∈ gW := List.mem_filter.mpr ⟨List.mem_append_right _ (List.mem_of_getElem? (i := 614) (by decide +kernel)), (by decide +kernel)⟩
theorem gw615 : Cond.static yX5_in ∈ gW := List.mem_filter.mpr ⟨List.mem_append_right _ (List.mem_of_getElem? (i := 615) (by decide +kernel)), (by decide +kernel)⟩
theorem gw616 : Cond.code yX5_in cX5_in 6 (some .boolean) ∈ gW := List.mem_filter.mpr ⟨List.mem_append_right _ (List.mem_of_getElem? (i := 616) (by decide +kernel)), (by decide +kernel)⟩
theorem gw617 : Cond.constant RX5 123 (Int32.ofInt (-1000002)) ∈ gW := List.mem_filter.mpr ⟨List.mem_append_right _ (List.mem_of_getElem? (i := 617) (by decide +kernel)), (by decide +kernel)⟩
theorem gw618 : Cond.constant RX5 128 (Int32.ofInt (-1000004)) ∈ gW := List.mem_filter.mpr ⟨List.mem_append_right _ (List.mem_of_getElem? (i := 618) (by decide +kernel)), (by decide +kernel)⟩
theorem gw622 : Cond.code yX5_house cX5_house 2 (some .int) ∈ gW := List.mem_filter.mpr ⟨List.mem_append_right _ (List.mem_of_getElem? (i := 622) (by decide +kernel)), (by decide +kernel)⟩
theorem gw623 : Cond.methodLink RX5 97 yX5_lays ∈ gW := List.mem_filter.mpr ⟨List.mem_append_right _ (List.mem_of_getElem? (i := 623) (by decide +kernel)), (by decide +kernel)⟩
theorem gw625 : Cond.instanceMethod yX5_lays ∈ gW := List.mem_filter.mpr ⟨List.mem_append_right _ (List.mem_of_getElem? (i := 625) (by decide +kernel)), (by decide +kernel)⟩
theorem gw626 : Cond.code yX5_lays cX5_lays 4 none ∈ gW := List.mem_filter.mpr ⟨List.mem_append_right _ (List.mem_of_getElem? (i := 626) (by decide +kernel)), (by decide +kernel)⟩
theorem gw627 : Cond.methodLink RX5 156 yX5_reads ∈ gW := List.mem_filter.mpr ⟨List.mem_append_right _ (List.mem_of_getElem? (i := 627) (by decide +kernel)), (by decide +kernel)⟩
theorem gw629 : Cond.instanceMethod yX5_reads ∈ gW := List.mem_filter.mpr ⟨List.mem_append_right _ (List.mem_of_getElem? (i := 629) (by decide +kernel)), (by decide +kernel)⟩
theorem gw630 : Cond.code yX5_reads cX5_reads 1 none ∈ gW := List.mem_filter.mpr ⟨List.mem_append_right _ (List.mem_of_getElem? (i := 630) (by decide +kernel)), (by decide +kernel)⟩
theorem gw631 : Cond.constantLong RX5 143 (Int64.ofInt 48) ∈ gW := List.mem_filter.mpr ⟨List.mem_append_right _ (List.mem_of_getElem? (i := 631) (by decide +kernel)), (by decide +kernel)⟩
theorem gw632 : Cond.constantLong RX5 145 (Int64.ofInt 57) ∈ gW := List.mem_filter.mpr ⟨List.mem_append_right _ (List.mem_of_getElem? (i := 632) (by decide +kernel)), (by decide +kernel)⟩
theorem gw633 : Cond.methodLink RX5 184 yX5_readsHead ∈ gW := List.mem_filter.mpr ⟨List.mem_append_right _ (List.mem_of_getElem? (i := 633) (by decide +kernel)), (by decide +kernel)⟩
theorem gw635 : Cond.instanceMethod yX5_readsHead ∈ gW := List.mem_filter.mpr ⟨List.mem_append_right _ (List.mem_of_getElem? (i := 635) (by decide +kernel)), (by decide +kernel)⟩
theorem gw636 : Cond.code yX5_readsHead cX5_readsHead 4 none ∈ gW := List.mem_filter.mpr ⟨List.mem_append_right _ (List.mem_of_getElem? (i := 636) (by decide +kernel)), (by decide +kernel)⟩
theorem gw637 : Cond.methodLink RX5 159 yX5_sign ∈ gW := List.mem_filter.mpr ⟨List.mem_append_right _ (List.mem_of_getElem? (i := 637) (by decide +kernel)), (by decide +kernel)⟩
theorem gw639 : Cond.instanceMethod yX5_sign ∈ gW := List.mem_filter.mpr ⟨List.mem_append_right _ (List.mem_of_getElem? (i := 639) (by decide +kernel)), (by decide +kernel)⟩
theorem gw640 : Cond.code yX5_sign cX5_sign 2 none ∈ gW := List.mem_filter.mpr ⟨List.mem_append_right _ (List.mem_of_getElem? (i := 640) (by decide +kernel)), (by decide +kernel)⟩
theorem gw641 : Cond.methodLink RX5 150 yX5_isSign ∈ gW := List.mem_filter.mpr ⟨List.mem_append_right _ (List.mem_of_getElem? (i := 641) (by decide +kernel)), (by decide +kernel)⟩
theorem gw643 : Cond.instanceMethod yX5_isSign ∈ gW := List.mem_filter.mpr ⟨List.mem_append_right _ (List.mem_of_getElem? (i := 643) (by decide +kernel)), (by decide +kernel)⟩
theorem gw644 : Cond.code yX5_isSign cX5_isSign 2 (some .boolean) ∈ gW := List.mem_filter.mpr ⟨List.mem_append_right _ (List.mem_of_getElem? (i := 644) (by decide +kernel)), (by decide +kernel)⟩
theorem gw645 : Cond.methodLink RX5 153 yX5_wrong ∈ gW := List.mem_filter.mpr ⟨List.mem_append_right _ (List.mem_of_getElem? (i := 645) (by decide +kernel)), (by decide +kernel)⟩
theorem gw647 : Cond.instanceMethod yX5_wrong ∈ gW := List.mem_filter.mpr ⟨List.mem_append_right _ (List.mem_of_getElem? (i := 647) (by decide +kernel)), (by decide +kernel)⟩
theorem gw648 : Cond.code yX5_wrong cX5_wrong 2 none ∈ gW := List.mem_filter.mpr ⟨List.mem_append_right _ (List.mem_of_getElem? (i := 648) (by decide +kernel)), (by decide +kernel)⟩
theorem gw649 : Cond.methodLink RX5 168 yX5_number ∈ gW := List.mem_filter.mpr ⟨List.mem_append_right _ (List.mem_of_getElem? (i := 649) (by decide +kernel)), (by decide +kernel)⟩
theorem gw651 : Cond.instanceMethod yX5_number ∈ gW := List.mem_filter.mpr ⟨List.mem_append_right _ (List.mem_of_getElem? (i := 651) (by decide +kernel)), (by decide +kernel)⟩
theorem gw652 : Cond.code yX5_number cX5_number 4 none ∈ gW := List.mem_filter.mpr ⟨List.mem_append_right _ (List.mem_of_getElem? (i := 652) (by decide +kernel)), (by decide +kernel)⟩
theorem gw653 : Cond.methodLink RX5 174 yX5_goesOn ∈ gW := List.mem_filter.mpr ⟨List.mem_append_right _ (List.mem_of_getElem? (i := 653) (by decide +kernel)), (by decide +kernel)⟩
theorem gw655 : Cond.instanceMethod yX5_goesOn ∈ gW := List.mem_filter.mpr ⟨List.mem_append_right _ (List.mem_of_getElem? (i := 655) (by decide +kernel)), (by decide +kernel)⟩
theorem gw656 : Cond.code yX5_goesOn cX5_goesOn 2 none ∈ gW := List.mem_filter.mpr ⟨List.mem_append_right _ (List.mem_of_getElem? (i := 656) (by decide +kernel)), (by decide +kernel)⟩
theorem gw657 : Cond.methodLink RX5 187 yX5_readsService ∈ gW := List.mem_filter.mpr ⟨List.mem_append_right _ (List.mem_of_getElem? (i := 657) (by decide +kernel)), (by decide +kernel)⟩
theorem gw659 : Cond.instanceMethod yX5_readsService ∈ gW := List.mem_filter.mpr ⟨List.mem_append_right _ (List.mem_of_getElem? (i := 659) (by decide +kernel)), (by decide +kernel)⟩
theorem gw660 : Cond.code yX5_readsService cX5_readsService 3 none ∈ gW := List.mem_filter.mpr ⟨List.mem_append_right _ (List.mem_of_getElem? (i := 660) (by decide +kernel)), (by decide +kernel)⟩
theorem gw661 : Cond.methodLink RX5 52 yX5_of ∈ gW := List.mem_filter.mpr ⟨List.mem_append_right _ (List.mem_of_getElem? (i := 661) (by decide +kernel)), (by decide +kernel)⟩
theorem gw663 : Cond.instanceMethod yX5_of ∈ gW := List.mem_filter.mpr ⟨List.mem_append_right _ (List.mem_of_getElem? (i := 663) (by decide +kernel)), (by decide +kernel)⟩
theorem gw664 : Cond.code yX5_of cX5_of 3 (some .int) ∈ gW := List.mem_filter.mpr ⟨List.mem_append_right _ (List.mem_of_getElem? (i := 664) (by decide +kernel)), (by decide +kernel)⟩
theorem gw665 : Cond.methodLink RX5 40 yX5_at ∈ gW := List.mem_filter.mpr ⟨List.mem_append_right _ (List.mem_of_getElem? (i := 665) (by decide +kernel)), (by decide +kernel)⟩
theorem gw666 : Cond.static yX5_at ∈ gW := List.mem_filter.mpr ⟨List.mem_append_right _ (List.mem_of_getElem? (i := 666) (by decide +kernel)), (by decide +kernel)⟩
theorem gw667 : Cond.code yX5_at cX5_at 3 (some .int) ∈ gW := List.mem_filter.mpr ⟨List.mem_append_right _ (List.mem_of_getElem? (i := 667) (by decide +kernel)), (by decide +kernel)⟩
theorem gw668 : Cond.methodLink RX5 162 yX5_lowOf ∈ gW := List.mem_filter.mpr ⟨List.mem_append_right _ (List.mem_of_getElem? (i := 668) (by decide +kernel)), (by decide +kernel)⟩
theorem gw669 : Cond.static yX5_lowOf ∈ gW := List.mem_filter.mpr ⟨List.mem_append_right _ (List.mem_of_getElem? (i := 669) (by decide +kernel)), (by decide +kernel)⟩
theorem gw670 : Cond.code yX5_lowOf cX5_lowOf 1 (some .int) ∈ gW := List.mem_filter.mpr ⟨List.mem_append_right _ (List.mem_of_getElem? (i := 670) (by decide +kernel)), (by decide +kernel)⟩
theorem gw671 : Cond.methodLink RX5 165 yX5_highOf ∈ gW := List.mem_filter.mpr ⟨List.mem_append_right _ (List.mem_of_getElem? (i := 671) (by decide +kernel)), (by decide +kernel)⟩
theorem gw672 : Cond.static yX5_highOf ∈ gW := List.mem_filter.mpr ⟨List.mem_append_right _ (List.mem_of_getElem? (i := 672) (by decide +kernel)), (by decide +kernel)⟩
theorem gw673 : Cond.code yX5_highOf cX5_highOf 1 (some .int) ∈ gW := List.mem_filter.mpr ⟨List.mem_append_right _ (List.mem_of_getElem? (i := 673) (by decide +kernel)), (by decide +kernel)⟩
theorem gw674 : Cond.methodLink RX5 171 yX5_leasts ∈ gW := List.mem_filter.mpr ⟨List.mem_append_right _ (List.mem_of_getElem? (i := 674) (by decide +kernel)), (by decide +kernel)⟩
theorem gw676 : Cond.instanceMethod yX5_leasts ∈ gW := List.mem_filter.mpr ⟨List.mem_append_right _ (List.mem_of_getElem? (i := 676) (by decide +kernel)), (by decide +kernel)⟩
theorem gw677 : Cond.code yX5_leasts cX5_leasts 4 (some .int) ∈ gW := List.mem_filter.mpr ⟨List.mem_append_right _ (List.mem_of_getElem? (i := 677) (by decide +kernel)), (by decide +kernel)⟩
theorem gw678 : Cond.methodLink RX5 177 yX5_kindOf ∈ gW := List.mem_filter.mpr ⟨List.mem_append_right _ (List.mem_of_getElem? (i := 678) (by decide +kernel)), (by decide +kernel)⟩
theorem gw680 : Cond.instanceMethod yX5_kindOf ∈ gW := List.mem_filter.mpr ⟨List.mem_append_right _ (List.mem_of_getElem? (i := 680) (by decide +kernel)), (by decide +kernel)⟩
theorem gw681 : Cond.code yX5_kindOf cX5_kindOf 1 (some .int) ∈ gW := List.mem_filter.mpr ⟨List.mem_append_right _ (List.mem_of_getElem? (i := 681) (by decide +kernel)), (by decide +kernel)⟩
theorem gw682 : Cond.methodLink RX5 181 yX5_readsMeasure ∈ gW := List.mem_filter.mpr ⟨List.mem_append_right _ (List.mem_of_getElem? (i := 682) (by decide +kernel)), (by decide +kernel)⟩
theorem gw684 : Cond.instanceMethod yX5_readsMeasure ∈ gW := List.mem_filter.mpr ⟨List.mem_append_right _ (List.mem_of_getElem? (i := 684) (by decide +kernel)), (by decide +kernel)⟩
theorem gw685 : Cond.code yX5_readsMeasure cX5_readsMeasure 3 none ∈ gW := List.mem_filter.mpr ⟨List.mem_append_right _ (List.mem_of_getElem? (i := 685) (by decide +kernel)), (by decide +kernel)⟩
theorem gw686 : Cond.methodLink RX5 63 yX5_atMeasure ∈ gW := List.mem_filter.mpr ⟨List.mem_append_right _ (List.mem_of_getElem? (i := 686) (by decide +kernel)), (by decide +kernel)⟩
theorem gw687 : Cond.static yX5_atMeasure ∈ gW := List.mem_filter.mpr ⟨List.mem_append_right _ (List.mem_of_getElem? (i := 687) (by decide +kernel)), (by decide +kernel)⟩
theorem gw688 : Cond.code yX5_atMeasure cX5_atMeasure 4 (some .int) ∈ gW := List.mem_filter.mpr ⟨List.mem_append_right _ (List.mem_of_getElem? (i := 688) (by decide +kernel)), (by decide +kernel)⟩
theorem gw689 : Cond.methodLink RX5 193 yX5_copies ∈ gW := List.mem_filter.mpr ⟨List.mem_append_right _ (List.mem_of_getElem? (i := 689) (by decide +kernel)), (by decide +kernel)⟩
theorem gw691 : Cond.instanceMethod yX5_copies ∈ gW := List.mem_filter.mpr ⟨List.mem_append_right _ (List.mem_of_getElem? (i := 691) (by decide +kernel)), (by decide +kernel)⟩
theorem gw692 : Cond.code yX5_copies cX5_copies 4 none ∈ gW := List.mem_filter.mpr ⟨List.mem_append_right _ (List.mem_of_getElem? (i := 692) (by decide +kernel)), (by decide +kernel)⟩
theorem gw696 : Cond.code yX5_fault cX5_fault 1 (some .int) ∈ gW := List.mem_filter.mpr ⟨List.mem_append_right _ (List.mem_of_getElem? (i := 696) (by decide +kernel)), (by decide +kernel)⟩
theorem gw700 : Cond.code yX5_load cX5_load 5 (some .int) ∈ gW := List.mem_filter.mpr ⟨List.mem_append_right _ (List.mem_of_getElem? (i := 700) (by decide +kernel)), (by decide +kernel)⟩
theorem gw701 : Cond.methodLink RX5 199 yX5_isMeasure ∈ gW := List.mem_filter.mpr ⟨List.mem_append_right _ (List.mem_of_getElem? (i := 701) (by decide +kernel)), (by decide +kernel)⟩
theorem gw703 : Cond.instanceMethod yX5_isMeasure ∈ gW := List.mem_filter.mpr ⟨List.mem_append_right _ (List.mem_of_getElem? (i := 703) (by decide +kernel)), (by decide +kernel)⟩
theorem gw704 : Cond.code yX5_isMeasure cX5_isMeasure 3 (some .boolean) ∈ gW := List.mem_filter.mpr ⟨List.mem_append_right _ (List.mem_of_getElem? (i := 704) (by decide +kernel)), (by decide +kernel)⟩
theorem gw705 : Cond.methodLink RX5 48 yX5_isService ∈ gW := List.mem_filter.mpr ⟨List.mem_append_right _ (List.mem_of_getElem? (i := 705) (by decide +kernel)), (by decide +kernel)⟩
theorem gw707 : Cond.instanceMethod yX5_isService ∈ gW := List.mem_filter.mpr ⟨List.mem_append_right _ (List.mem_of_getElem? (i := 707) (by decide +kernel)), (by decide +kernel)⟩
theorem gw708 : Cond.code yX5_isService cX5_isService 2 (some .boolean) ∈ gW := List.mem_filter.mpr ⟨List.mem_append_right _ (List.mem_of_getElem? (i := 708) (by decide +kernel)), (by decide +kernel)⟩
theorem gw709 : Cond.constant RX5 203 (Int32.ofInt (-1000001)) ∈ gW := List.mem_filter.mpr ⟨List.mem_append_right _ (List.mem_of_getElem? (i := 709) (by decide +kernel)), (by decide +kernel)⟩
theorem gw710 : Cond.constantLong RX5 204 (Int64.ofInt (-1)) ∈ gW := List.mem_filter.mpr ⟨List.mem_append_right _ (List.mem_of_getElem? (i := 710) (by decide +kernel)), (by decide +kernel)⟩
theorem gw711 : Cond.constantLong RX5 206 (Int64.ofInt 9999) ∈ gW := List.mem_filter.mpr ⟨List.mem_append_right _ (List.mem_of_getElem? (i := 711) (by decide +kernel)), (by decide +kernel)⟩
theorem gw712 : Cond.methodLink RX5 208 yX5_notes ∈ gW := List.mem_filter.mpr ⟨List.mem_append_right _ (List.mem_of_getElem? (i := 712) (by decide +kernel)), (by decide +kernel)⟩
theorem gw714 : Cond.instanceMethod yX5_notes ∈ gW := List.mem_filter.mpr ⟨List.mem_append_right _ (List.mem_of_getElem? (i := 714) (by decide +kernel)), (by decide +kernel)⟩
theorem gw715 : Cond.code yX5_notes cX5_notes 2 none ∈ gW := List.mem_filter.mpr ⟨List.mem_append_right _ (List.mem_of_getElem? (i := 715) (by decide +kernel)), (by decide +kernel)⟩
theorem gw719 : Cond.code yX5_set cX5_set 6 (some .int) ∈ gW := List.mem_filter.mpr ⟨List.mem_append_right _ (List.mem_of_getElem? (i := 719) (by decide +kernel)), (by decide +kernel)⟩
theorem gw720 : Cond.constantLong RX5 211 (Int64.ofInt 8) ∈ gW := List.mem_filter.mpr ⟨List.mem_append_right _ (List.mem_of_getElem? (i := 720) (by decide +kernel)), (by decide +kernel)⟩
theorem gw721 : Cond.constant RX5 213 (Int32.ofInt (-1000003)) ∈ gW := List.mem_filter.mpr ⟨List.mem_append_right _ (List.mem_of_getElem? (i := 721) (by decide +kernel)), (by decide +kernel)⟩
theorem gw725 : Cond.code yX5_round cX5_round 1 (some .int) ∈ gW := List.mem_filter.mpr ⟨List.mem_append_right _ (List.mem_of_getElem? (i := 725) (by decide +kernel)), (by decide +kernel)⟩
theorem gw726 : Cond.methodLink RX5 214 yX5_isHouse ∈ gW := List.mem_filter.mpr ⟨List.mem_append_right _ (List.mem_of_getElem? (i := 726) (by decide +kernel)), (by decide +kernel)⟩
theorem gw728 : Cond.instanceMethod yX5_isHouse ∈ gW := List.mem_filter.mpr ⟨List.mem_append_right _ (List.mem_of_getElem? (i := 728) (by decide +kernel)), (by decide +kernel)⟩
theorem gw729 : Cond.code yX5_isHouse cX5_isHouse 1 (some .boolean) ∈ gW := List.mem_filter.mpr ⟨List.mem_append_right _ (List.mem_of_getElem? (i := 729) (by decide +kernel)), (by decide +kernel)⟩
theorem gw730 : Cond.methodLink RX5 218 yX5_does ∈ gW := List.mem_filter.mpr ⟨List.mem_append_right _ (List.mem_of_getElem? (i := 730) (by decide +kernel)), (by decide +kernel)⟩
theorem gw732 : Cond.instanceMethod yX5_does ∈ gW := List.mem_filter.mpr ⟨List.mem_append_right _ (List.mem_of_getElem? (i := 732) (by decide +kernel)), (by decide +kernel)⟩
theorem gw733 : Cond.code yX5_does cX5_does 4 none ∈ gW := List.mem_filter.mpr ⟨List.mem_append_right _ (List.mem_of_getElem? (i := 733) (by decide +kernel)), (by decide +kernel)⟩
theorem gw734 : Cond.methodLink RX5 105 yX5_starts ∈ gW := List.mem_filter.mpr ⟨List.mem_append_right _ (List.mem_of_getElem? (i := 734) (by decide +kernel)), (by decide +kernel)⟩
theorem gw736 : Cond.instanceMethod yX5_starts ∈ gW := List.mem_filter.mpr ⟨List.mem_append_right _ (List.mem_of_getElem? (i := 736) (by decide +kernel)), (by decide +kernel)⟩
theorem gw737 : Cond.code yX5_starts cX5_starts 3 none ∈ gW := List.mem_filter.mpr ⟨List.mem_append_right _ (List.mem_of_getElem? (i := 737) (by decide +kernel)), (by decide +kernel)⟩
theorem gw738 : Cond.methodLink RX5 109 yX5_weighs ∈ gW := List.mem_filter.mpr ⟨List.mem_append_right _ (List.mem_of_getElem? (i := 738) (by decide +kernel)), (by decide +kernel)⟩
theorem gw740 : Cond.instanceMethod yX5_weighs ∈ gW := List.mem_filter.mpr ⟨List.mem_append_right _ (List.mem_of_getElem? (i := 740) (by decide +kernel)), (by decide +kernel)⟩
theorem gw741 : Cond.code yX5_weighs cX5_weighs 12 none ∈ gW := List.mem_filter.mpr ⟨List.mem_append_right _ (List.mem_of_getElem? (i := 741) (by decide +kernel)), (by decide +kernel)⟩
theorem gw742 : Cond.methodLink RX5 56 yX5_countOf ∈ gW := List.mem_filter.mpr ⟨List.mem_append_right _ (List.mem_of_getElem? (i := 742) (by decide +kernel)), (by decide +kernel)⟩
theorem gw744 : Cond.instanceMethod yX5_countOf ∈ gW := List.mem_filter.mpr ⟨List.mem_append_right _ (List.mem_of_getElem? (i := 744) (by decide +kernel)), (by decide +kernel)⟩
theorem gw745 : Cond.code yX5_countOf cX5_countOf 5 (some .int) ∈ gW := List.mem_filter.mpr ⟨List.mem_append_right _ (List.mem_of_getElem? (i := 745) (by decide +kernel)), (by decide +kernel)⟩
theorem gw746 : Cond.methodLink RX5 76 yX5_wanted ∈ gW := List.mem_filter.mpr ⟨List.mem_append_right _ (List.mem_of_getElem? (i := 746) (by decide +kernel)), (by decide +kernel)⟩
theorem gw748 : Cond.instanceMethod yX5_wanted ∈ gW := List.mem_filter.mpr ⟨List.mem_append_right _ (List.mem_of_getElem? (i := 748) (by decide +kernel)), (by decide +kernel)⟩
theorem gw749 : Cond.code yX5_wanted cX5_wanted 6 (some .int) ∈ gW := List.mem_filter.mpr ⟨List.mem_append_right _ (List.mem_of_getElem? (i := 749) (by decide +kernel)), (by decide +kernel)⟩
theorem gw750 : Cond.methodLink RX5 73 yX5_wantOf ∈ gW := List.mem_filter.mpr ⟨List.mem_append_right _ (List.mem_of_getElem? (i := 750) (by decide +kernel)), (by decide +kernel)⟩
theorem gw752 : Cond.instanceMethod yX5_wantOf ∈ gW := List.mem_filter.mpr ⟨List.mem_append_right _ (List.mem_of_getElem? (i := 752) (by decide +kernel)), (by decide +kernel)⟩
theorem gw753 : Cond.code yX5_wantOf cX5_wantOf 10 (some .int) ∈ gW := List.mem_filter.mpr ⟨List.mem_append_right _ (List.mem_of_getElem? (i := 753) (by decide +kernel)), (by decide +kernel)⟩
theorem gw754 : Cond.methodLink RX5 67 yX5_up ∈ gW := List.mem_filter.mpr ⟨List.mem_append_right _ (List.mem_of_getElem? (i := 754) (by decide +kernel)), (by decide +kernel)⟩
theorem gw755 : Cond.static yX5_up ∈ gW := List.mem_filter.mpr ⟨List.mem_append_right _ (List.mem_of_getElem? (i := 755) (by decide +kernel)), (by decide +kernel)⟩
theorem gw756 : Cond.code yX5_up cX5_up 2 (some .int) ∈ gW := List.mem_filter.mpr ⟨List.mem_append_right _ (List.mem_of_getElem? (i := 756) (by decide +kernel)), (by decide +kernel)⟩
theorem gw757 : Cond.methodLink RX5 70 yX5_forecastOf ∈ gW := List.mem_filter.mpr ⟨List.mem_append_right _ (List.mem_of_getElem? (i := 757) (by decide +kernel)), (by decide +kernel)⟩
theorem gw759 : Cond.instanceMethod yX5_forecastOf ∈ gW := List.mem_filter.mpr ⟨List.mem_append_right _ (List.mem_of_getElem? (i := 759) (by decide +kernel)), (by decide +kernel)⟩
theorem gw760 : Cond.code yX5_forecastOf cX5_forecastOf 9 (some .int) ∈ gW := List.mem_filter.mpr ⟨List.mem_append_right _ (List.mem_of_getElem? (i := 760) (by decide +kernel)), (by decide +kernel)⟩
theorem gw761 : Cond.methodLink RX5 59 yX5_pastOf ∈ gW := List.mem_filter.mpr ⟨List.mem_append_right _ (List.mem_of_getElem? (i := 761) (by decide +kernel)), (by decide +kernel)⟩
theorem gw763 : Cond.instanceMethod yX5_pastOf ∈ gW := List.mem_filter.mpr ⟨List.mem_append_right _ (List.mem_of_getElem? (i := 763) (by decide +kernel)), (by decide +kernel)⟩
theorem gw764 : Cond.code yX5_pastOf cX5_pastOf 2 (some .int) ∈ gW := List.mem_filter.mpr ⟨List.mem_append_right _ (List.mem_of_getElem? (i := 764) (by decide +kernel)), (by decide +kernel)⟩
theorem gw765 : Cond.methodLink RX5 79 yX5_ofWants ∈ gW := List.mem_filter.mpr ⟨List.mem_append_right _ (List.mem_of_getElem? (i := 765) (by decide +kernel)), (by decide +kernel)⟩
theorem gw767 : Cond.instanceMethod yX5_ofWants ∈ gW := List.mem_filter.mpr ⟨List.mem_append_right _ (List.mem_of_getElem? (i := 767) (by decide +kernel)), (by decide +kernel)⟩
theorem gw768 : Cond.code yX5_ofWants cX5_ofWants 8 (some .int) ∈ gW := List.mem_filter.mpr ⟨List.mem_append_right _ (List.mem_of_getElem? (i := 768) (by decide +kernel)), (by decide +kernel)⟩
theorem gw769 : Cond.methodLink RX5 83 yX5_sumOf ∈ gW := List.mem_filter.mpr ⟨List.mem_append_right _ (List.mem_of_getElem? (i := 769) (by decide +kernel)), (by decide +kernel)⟩
theorem gw771 : Cond.instanceMethod yX5_sumOf ∈ gW := List.mem_filter.mpr ⟨List.mem_append_right _ (List.mem_of_getElem? (i := 771) (by decide +kernel)), (by decide +kernel)⟩
theorem gw772 : Cond.code yX5_sumOf cX5_sumOf 7 (some .int) ∈ gW := List.mem_filter.mpr ⟨List.mem_append_right _ (List.mem_of_getElem? (i := 772) (by decide +kernel)), (by decide +kernel)⟩
theorem gw773 : Cond.methodLink RX5 112 yX5_givesUp ∈ gW := List.mem_filter.mpr ⟨List.mem_append_right _ (List.mem_of_getElem? (i := 773) (by decide +kernel)), (by decide +kernel)⟩
theorem gw775 : Cond.instanceMethod yX5_givesUp ∈ gW := List.mem_filter.mpr ⟨List.mem_append_right _ (List.mem_of_getElem? (i := 775) (by decide +kernel)), (by decide +kernel)⟩
theorem gw776 : Cond.code yX5_givesUp cX5_givesUp 6 none ∈ gW := List.mem_filter.mpr ⟨List.mem_append_right _ (List.mem_of_getElem? (i := 776) (by decide +kernel)), (by decide +kernel)⟩
theorem gw777 : Cond.methodLink RX5 115 yX5_gets ∈ gW := List.mem_filter.mpr ⟨List.mem_append_right _ (List.mem_of_getElem? (i := 777) (by decide +kernel)), (by decide +kernel)⟩
theorem gw779 : Cond.instanceMethod yX5_gets ∈ gW := List.mem_filter.mpr ⟨List.mem_append_right _ (List.mem_of_getElem? (i := 779) (by decide +kernel)), (by decide +kernel)⟩
theorem gw780 : Cond.code yX5_gets cX5_gets 5 none ∈ gW := List.mem_filter.mpr ⟨List.mem_append_right _ (List.mem_of_getElem? (i := 780) (by decide +kernel)), (by decide +kernel)⟩
theorem gw781 : Cond.methodLink RX5 86 yX5_isAhead ∈ gW := List.mem_filter.mpr ⟨List.mem_append_right _ (List.mem_of_getElem? (i := 781) (by decide +kernel)), (by decide +kernel)⟩
theorem gw783 : Cond.instanceMethod yX5_isAhead ∈ gW := List.mem_filter.mpr ⟨List.mem_append_right _ (List.mem_of_getElem? (i := 783) (by decide +kernel)), (by decide +kernel)⟩
theorem gw784 : Cond.code yX5_isAhead cX5_isAhead 6 (some .boolean) ∈ gW := List.mem_filter.mpr ⟨List.mem_append_right _ (List.mem_of_getElem? (i := 784) (by decide +kernel)), (by decide +kernel)⟩
theorem gw785 : Cond.methodLink RX5 90 yX5_getsOne ∈ gW := List.mem_filter.mpr ⟨List.mem_append_right _ (List.mem_of_getElem? (i := 785) (by decide +kernel)), (by decide +kernel)⟩
theorem gw787 : Cond.instanceMethod yX5_getsOne ∈ gW := List.mem_filter.mpr ⟨List.mem_append_right _ (List.mem_of_getElem? (i := 787) (by decide +kernel)), (by decide +kernel)⟩
theorem gw788 : Cond.code yX5_getsOne cX5_getsOne 7 none ∈ gW := List.mem_filter.mpr ⟨List.mem_append_right _ (List.mem_of_getElem? (i := 788) (by decide +kernel)), (by decide +kernel)⟩
theorem gw789 : Cond.methodLink RX5 94 yX5_allCounts ∈ gW := List.mem_filter.mpr ⟨List.mem_append_right _ (List.mem_of_getElem? (i := 789) (by decide +kernel)), (by decide +kernel)⟩
theorem gw791 : Cond.instanceMethod yX5_allCounts ∈ gW := List.mem_filter.mpr ⟨List.mem_append_right _ (List.mem_of_getElem? (i := 791) (by decide +kernel)), (by decide +kernel)⟩
theorem gw792 : Cond.code yX5_allCounts cX5_allCounts 4 (some .int) ∈ gW := List.mem_filter.mpr ⟨List.mem_append_right _ (List.mem_of_getElem? (i := 792) (by decide +kernel)), (by decide +kernel)⟩
theorem gw793 : Cond.methodLink RX5 118 yX5_sums ∈ gW := List.mem_filter.mpr ⟨List.mem_append_right _ (List.mem_of_getElem? (i := 793) (by decide +kernel)), (by decide +kernel)⟩
theorem gw795 : Cond.instanceMethod yX5_sums ∈ gW := List.mem_filter.mpr ⟨List.mem_append_right _ (List.mem_of_getElem? (i := 795) (by decide +kernel)), (by decide +kernel)⟩
theorem gw796 : Cond.code yX5_sums cX5_sums 7 none ∈ gW := List.mem_filter.mpr ⟨List.mem_append_right _ (List.mem_of_getElem? (i := 796) (by decide +kernel)), (by decide +kernel)⟩
theorem gw797 : Cond.methodLink RX5 101 yX5_moves ∈ gW := List.mem_filter.mpr ⟨List.mem_append_right _ (List.mem_of_getElem? (i := 797) (by decide +kernel)), (by decide +kernel)⟩
theorem gw799 : Cond.instanceMethod yX5_moves ∈ gW := List.mem_filter.mpr ⟨List.mem_append_right _ (List.mem_of_getElem? (i := 799) (by decide +kernel)), (by decide +kernel)⟩
theorem gw800 : Cond.code yX5_moves cX5_moves 5 none ∈ gW := List.mem_filter.mpr ⟨List.mem_append_right _ (List.mem_of_getElem? (i := 800) (by decide +kernel)), (by decide +kernel)⟩
theorem gw804 : Cond.code yX5_undo cX5_undo 1 (some .int) ∈ gW := List.mem_filter.mpr ⟨List.mem_append_right _ (List.mem_of_getElem? (i := 804) (by decide +kernel)), (by decide +kernel)⟩
theorem gw808 : Cond.code yX5_service cX5_service 3 (some .int) ∈ gW := List.mem_filter.mpr ⟨List.mem_append_right _ (List.mem_of_getElem? (i := 808) (by decide +kernel)), (by decide +kernel)⟩
theorem gw809 : Cond.methodLink RX5 221 yX5_nextStarting ∈ gW := List.mem_filter.mpr ⟨List.mem_append_right _ (List.mem_of_getElem? (i := 809) (by decide +kernel)), (by decide +kernel)⟩
theorem gw811 : Cond.instanceMethod yX5_nextStarting ∈ gW := List.mem_filter.mpr ⟨List.mem_append_right _ (List.mem_of_getElem? (i := 811) (by decide +kernel)), (by decide +kernel)⟩
theorem gw812 : Cond.code yX5_nextStarting cX5_nextStarting 4 (some .int) ∈ gW := List.mem_filter.mpr ⟨List.mem_append_right _ (List.mem_of_getElem? (i := 812) (by decide +kernel)), (by decide +kernel)⟩
theorem gw816 : Cond.code yX5_measure cX5_measure 4 (some .int) ∈ gW := List.mem_filter.mpr ⟨List.mem_append_right _ (List.mem_of_getElem? (i := 816) (by decide +kernel)), (by decide +kernel)⟩
theorem gw817 : Cond.constantLong RX5 224 (Int64.ofInt 2) ∈ gW := List.mem_filter.mpr ⟨List.mem_append_right _ (List.mem_of_getElem? (i := 817) (by decide +kernel)), (by decide +kernel)⟩
theorem gw818 : Cond.methodLink RX5 226 yX5_tries ∈ gW := List.mem_filter.mpr ⟨List.mem_append_right _ (List.mem_of_getElem? (i := 818) (by decide +kernel)), (by decide +kernel)⟩
theorem gw820 : Cond.instanceMethod yX5_tries ∈ gW := List.mem_filter.mpr ⟨List.mem_append_right _ (List.mem_of_getElem? (i := 820) (by decide +kernel)), (by decide +kernel)⟩
theorem gw821 : Cond.code yX5_tries cX5_tries 1 none ∈ gW := List.mem_filter.mpr ⟨List.mem_append_right _ (List.mem_of_getElem? (i := 821) (by decide +kernel)), (by decide +kernel)⟩
theorem gw822 : Cond.constantLong RX5 229 (Int64.ofInt 10) ∈ gW := List.mem_filter.mpr ⟨List.mem_append_right _ (List.mem_of_getElem? (i := 822) (by decide +kernel)), (by decide +kernel)⟩
theorem gw826 : Cond.code yX5_starting cX5_starting 3 (some .int) ∈ gW := List.mem_filter.mpr ⟨List.mem_append_right _ (List.mem_of_getElem? (i := 826) (by decide +kernel)), (by decide +kernel)⟩
theorem gw827 : Cond.constantLong RX5 231 (Int64.ofInt 6) ∈ gW := List.mem_filter.mpr ⟨List.mem_append_right _ (List.mem_of_getElem? (i := 827) (by decide +kernel)), (by decide +kernel)⟩
theorem gw831 : Cond.code yX5_count cX5_count 2 (some .int) ∈ gW := List.mem_filter.mpr ⟨List.mem_append_right _ (List.mem_of_getElem? (i := 831) (by decide +kernel)), (by decide +kernel)⟩
theorem gw832 : Cond.constantLong RX5 233 (Int64.ofInt 4) ∈ gW := List.mem_filter.mpr ⟨List.mem_append_right _ (List.mem_of_getElem? (i := 832) (by decide +kernel)), (by decide +kernel)⟩
theorem gw836 : Cond.code yX5_would cX5_would 3 (some .int) ∈ gW := List.mem_filter.mpr ⟨List.mem_append_right _ (List.mem_of_getElem? (i := 836) (by decide +kernel)), (by decide +kernel)⟩
theorem gw837 : Cond.constantLong RX5 235 (Int64.ofInt 5) ∈ gW := List.mem_filter.mpr ⟨List.mem_append_right _ (List.mem_of_getElem? (i := 837) (by decide +kernel)), (by decide +kernel)⟩
theorem gw838 : Cond.methodLink RX5 237 yX5_triesRound ∈ gW := List.mem_filter.mpr ⟨List.mem_append_right _ (List.mem_of_getElem? (i := 838) (by decide +kernel)), (by decide +kernel)⟩
theorem gw840 : Cond.instanceMethod yX5_triesRound ∈ gW := List.mem_filter.mpr ⟨List.mem_append_right _ (List.mem_of_getElem? (i := 840) (by decide +kernel)), (by decide +kernel)⟩
theorem gw841 : Cond.code yX5_triesRound cX5_triesRound 1 none ∈ gW := List.mem_filter.mpr ⟨List.mem_append_right _ (List.mem_of_getElem? (i := 841) (by decide +kernel)), (by decide +kernel)⟩
theorem gw845 : Cond.code yX5_why cX5_why 7 (some .int) ∈ gW := List.mem_filter.mpr ⟨List.mem_append_right _ (List.mem_of_getElem? (i := 845) (by decide +kernel)), (by decide +kernel)⟩
theorem gw849 : Cond.code yX5_forecast cX5_forecast 4 (some .int) ∈ gW := List.mem_filter.mpr ⟨List.mem_append_right _ (List.mem_of_getElem? (i := 849) (by decide +kernel)), (by decide +kernel)⟩
theorem gw850 : Cond.constantLong RX5 240 (Int64.ofInt 12) ∈ gW := List.mem_filter.mpr ⟨List.mem_append_right _ (List.mem_of_getElem? (i := 850) (by decide +kernel)), (by decide +kernel)⟩
theorem gw854 : Cond.code yX5_ahead cX5_ahead 4 (some .int) ∈ gW := List.mem_filter.mpr ⟨List.mem_append_right _ (List.mem_of_getElem? (i := 854) (by decide +kernel)), (by decide +kernel)⟩
theorem gw855 : Cond.constantLong RX5 242 (Int64.ofInt 50) ∈ gW := List.mem_filter.mpr ⟨List.mem_append_right _ (List.mem_of_getElem? (i := 855) (by decide +kernel)), (by decide +kernel)⟩
theorem gw856 : Cond.constantLong RX5 244 (Int64.ofInt 3) ∈ gW := List.mem_filter.mpr ⟨List.mem_append_right _ (List.mem_of_getElem? (i := 856) (by decide +kernel)), (by decide +kernel)⟩
theorem gw857 : Cond.methodLink RX5 246 yX5_allOf ∈ gW := List.mem_filter.mpr ⟨List.mem_append_right _ (List.mem_of_getElem? (i := 857) (by decide +kernel)), (by decide +kernel)⟩
theorem gw859 : Cond.instanceMethod yX5_allOf ∈ gW := List.mem_filter.mpr ⟨List.mem_append_right _ (List.mem_of_getElem? (i := 859) (by decide +kernel)), (by decide +kernel)⟩
theorem gw860 : Cond.code yX5_allOf cX5_allOf 5 (some .int) ∈ gW := List.mem_filter.mpr ⟨List.mem_append_right _ (List.mem_of_getElem? (i := 860) (by decide +kernel)), (by decide +kernel)⟩
theorem gw864 : Cond.code yX5_until cX5_until 4 (some .int) ∈ gW := List.mem_filter.mpr ⟨List.mem_append_right _ (List.mem_of_getElem? (i := 864) (by decide +kernel)), (by decide +kernel)⟩
theorem gw865 : Cond.constantLong RX5 249 (Int64.ofInt 20) ∈ gW := List.mem_filter.mpr ⟨List.mem_append_right _ (List.mem_of_getElem? (i := 865) (by decide +kernel)), (by decide +kernel)⟩
theorem gw869 : Cond.code yX5_needs cX5_needs 7 (some .int) ∈ gW := List.mem_filter.mpr ⟨List.mem_append_right _ (List.mem_of_getElem? (i := 869) (by decide +kernel)), (by decide +kernel)⟩
theorem gw870 : Cond.constantLong RX5 251 (Int64.ofInt 99) ∈ gW := List.mem_filter.mpr ⟨List.mem_append_right _ (List.mem_of_getElem? (i := 870) (by decide +kernel)), (by decide +kernel)⟩
theorem gw874 : Cond.code yX5_replay cX5_replay 5 (some .int) ∈ gW := List.mem_filter.mpr ⟨List.mem_append_right _ (List.mem_of_getElem? (i := 874) (by decide +kernel)), (by decide +kernel)⟩
theorem gw875 : Cond.methodLink RX5 253 yX5_replays ∈ gW := List.mem_filter.mpr ⟨List.mem_append_right _ (List.mem_of_getElem? (i := 875) (by decide +kernel)), (by decide +kernel)⟩
theorem gw877 : Cond.instanceMethod yX5_replays ∈ gW := List.mem_filter.mpr ⟨List.mem_append_right _ (List.mem_of_getElem? (i := 877) (by decide +kernel)), (by decide +kernel)⟩
theorem gw878 : Cond.code yX5_replays cX5_replays 6 none ∈ gW := List.mem_filter.mpr ⟨List.mem_append_right _ (List.mem_of_getElem? (i := 878) (by decide +kernel)), (by decide +kernel)⟩
theorem gw882 : Cond.code yX5_best cX5_best 6 (some .int) ∈ gW := List.mem_filter.mpr ⟨List.mem_append_right _ (List.mem_of_getElem? (i := 882) (by decide +kernel)), (by decide +kernel)⟩
theorem cls0 : CLS 0 RX0 TX0 5 tyX0 := ⟨rfl, (fun q hq => List.mem_filter.mpr ⟨List.mem_append_right _ ((by decide +kernel : ∀ q ∈ u_ws RX0 TX0 5, q ∈ tables_1) q hq), (by decide +kernel : ∀ q ∈ u_ws RX0 TX0 5, goodWord q = true) q hq⟩), tyX0_ok, nmX0, by decide⟩
theorem cls1 : CLS 1 RX1 TX1 4 tyX1 := ⟨rfl, (fun q hq => List.mem_filter.mpr ⟨List.mem_append_right _ ((by decide +kernel : ∀ q ∈ u_ws RX1 TX1 4, q ∈ tables_1) q hq), (by decide +kernel : ∀ q ∈ u_ws RX1 TX1 4, goodWord q = true) q hq⟩), tyX1_ok, nmX1, by decide⟩
theorem cls2 : CLS 2 RX2 TX2 17 tyX2 := ⟨rfl, (fun q hq => List.mem_filter.mpr ⟨List.mem_append_right _ ((by decide +kernel : ∀ q ∈ u_ws RX2 TX2 17, q ∈ tables_1) q hq), (by decide +kernel : ∀ q ∈ u_ws RX2 TX2 17, goodWord q = true) q hq⟩), tyX2_ok, nmX2, by decide⟩
theorem cls3 : CLS 3 RX3 TX3 7 tyX3 := ⟨rfl, (fun q hq => List.mem_filter.mpr ⟨List.mem_append_right _ ((by decide +kernel : ∀ q ∈ u_ws RX3 TX3 7, q ∈ tables_1) q hq), (by decide +kernel : ∀ q ∈ u_ws RX3 TX3 7, goodWord q = true) q hq⟩), tyX3_ok, nmX3, by decide⟩
theorem cls4 : CLS 4 RX4 TX4 7 tyX4 := ⟨rfl, (fun q hq => List.mem_filter.mpr ⟨List.mem_append_right _ ((by decide +kernel : ∀ q ∈ u_ws RX4 TX4 7, q ∈ tables_1) q hq), (by decide +kernel : ∀ q ∈ u_ws RX4 TX4 7, goodWord q = true) q hq⟩), tyX4_ok, nmX4, by decide⟩
theorem cls5 : CLS 5 RX5 TX5 19 tyX5 := ⟨rfl, (fun q hq => List.mem_filter.mpr ⟨List.mem_append_right _ ((by decide +kernel : ∀ q ∈ u_ws RX5 TX5 19, q ∈ tables_1) q hq), (by decide +kernel : ∀ q ∈ u_ws RX5 TX5 19, goodWord q = true) q hq⟩), tyX5_ok, nmX5, by decide⟩
theorem ca0_10 : ∀ k, k < siz 0 → lay 0 k = 10 → ∀ j, j < rlen 10 → k + 1 + rstr 10 * j < siz 0 ∧ lay 0 (k + 1 + rstr 10 * j) + 100 = 100 := by decide +kernel
theorem ca0_11 : ∀ k, k < siz 0 → lay 0 k = 11 → ∀ j, j < rlen 11 → k + 1 + rstr 11 * j < siz 0 ∧ lay 0 (k + 1 + rstr 11 * j) + 100 = 102 := by decide +kernel
theorem ca0_12 : ∀ k, k < siz 0 → lay 0 k = 12 → ∀ j, j < rlen 12 → k + 1 + rstr 12 * j < siz 0 ∧ lay 0 (k + 1 + rstr 12 * j) + 100 = 101 := by decide +kernel
theorem cl0_0_0 : ∀ k, k < siz 0 → lay 0 k = 0 → k + (1 : Int).toNat < siz 0 ∧ lay 0 (k + (1 : Int).toNat) + 100 = 1105 := by decide +kernel
theorem cl0_0_1 : ∀ k, k < siz 0 → lay 0 k = 0 → k + (2 : Int).toNat < siz 0 ∧ lay 0 (k + (2 : Int).toNat) + 100 = 111 := by decide +kernel
theorem cl0_1_3 : ∀ k, k < siz 0 → lay 0 k = 1 → k + (1 : Int).toNat < siz 0 ∧ lay 0 (k + (1 : Int).toNat) + 100 = 1132 := by decide +kernel
theorem cl0_2_0 : ∀ k, k < siz 0 → lay 0 k = 2 → k + (1 : Int).toNat < siz 0 ∧ lay 0 (k + (1 : Int).toNat) + 100 = 1109 := by decide +kernel
theorem cl0_2_1 : ∀ k, k < siz 0 → lay 0 k = 2 → k + (2 : Int).toNat < siz 0 ∧ lay 0 (k + (2 : Int).toNat) + 100 = 112 := by decide +kernel
theorem cl0_2_5 : ∀ k, k < siz 0 → lay 0 k = 2 → k + (9 : Int).toNat < siz 0 ∧ lay 0 (k + (9 : Int).toNat) + 100 = 1108 := by decide +kernel
theorem cl0_2_6 : ∀ k, k < siz 0 → lay 0 k = 2 → k + (10 : Int).toNat < siz 0 ∧ lay 0 (k + (10 : Int).toNat) + 100 = 1108 := by decide +kernel
theorem cl0_2_7 : ∀ k, k < siz 0 → lay 0 k = 2 → k + (11 : Int).toNat < siz 0 ∧ lay 0 (k + (11 : Int).toNat) + 100 = 1104 := by decide +kernel
theorem cl0_3_0 : ∀ k, k < siz 0 → lay 0 k = 3 → k + (1 : Int).toNat < siz 0 ∧ lay 0 (k + (1 : Int).toNat) + 100 = 1260 := by decide +kernel
theorem cl0_4_0 : ∀ k, k < siz 0 → lay 0 k = 4 → k + (1 : Int).toNat < siz 0 ∧ lay 0 (k + (1 : Int).toNat) + 100 = 103 := by decide +kernel
theorem cl0_4_1 : ∀ k, k < siz 0 → lay 0 k = 4 → k + (3 : Int).toNat < siz 0 ∧ lay 0 (k + (3 : Int).toNat) + 100 = 100 := by decide +kernel
theorem cl0_4_2 : ∀ k, k < siz 0 → lay 0 k = 4 → k + (54 : Int).toNat < siz 0 ∧ lay 0 (k + (54 : Int).toNat) + 100 = 100 := by decide +kernel
theorem cl0_4_3 : ∀ k, k < siz 0 → lay 0 k = 4 → k + (105 : Int).toNat < siz 0 ∧ lay 0 (k + (105 : Int).toNat) + 100 = 110 := by decide +kernel
theorem cl1_5_0 : ∀ k, k < siz 1 → lay 1 k = 5 → k + (1 : Int).toNat < siz 1 ∧ lay 1 (k + (1 : Int).toNat) + 100 = 6300 := by decide +kernel
theorem cl1_5_10 : ∀ k, k < siz 1 → lay 1 k = 5 → k + (10 : Int).toNat < siz 1 ∧ lay 1 (k + (10 : Int).toNat) + 100 = 1260 := by decide +kernel
theorem cl1_5_2 : ∀ k, k < siz 1 → lay 1 k = 5 → k + (2 : Int).toNat < siz 1 ∧ lay 1 (k + (2 : Int).toNat) + 100 = 1104 := by decide +kernel
theorem cl1_5_3 : ∀ k, k < siz 1 → lay 1 k = 5 → k + (3 : Int).toNat < siz 1 ∧ lay 1 (k + (3 : Int).toNat) + 100 = 1104 := by decide +kernel
theorem cl1_5_4 : ∀ k, k < siz 1 → lay 1 k = 5 → k + (4 : Int).toNat < siz 1 ∧ lay 1 (k + (4 : Int).toNat) + 100 = 1104 := by decide +kernel
theorem cl1_5_5 : ∀ k, k < siz 1 → lay 1 k = 5 → k + (5 : Int).toNat < siz 1 ∧ lay 1 (k + (5 : Int).toNat) + 100 = 1104 := by decide +kernel
theorem cl1_5_6 : ∀ k, k < siz 1 → lay 1 k = 5 → k + (6 : Int).toNat < siz 1 ∧ lay 1 (k + (6 : Int).toNat) + 100 = 1104 := by decide +kernel
theorem cl1_5_7 : ∀ k, k < siz 1 → lay 1 k = 5 → k + (7 : Int).toNat < siz 1 ∧ lay 1 (k + (7 : Int).toNat) + 100 = 1104 := by decide +kernel
theorem cl1_5_8 : ∀ k, k < siz 1 → lay 1 k = 5 → k + (8 : Int).toNat < siz 1 ∧ lay 1 (k + (8 : Int).toNat) + 100 = 1104 := by decide +kernel
theorem cl1_5_9 : ∀ k, k < siz 1 → lay 1 k = 5 → k + (9 : Int).toNat < siz 1 ∧ lay 1 (k + (9 : Int).toNat) + 100 = 1104 := by decide +kernel
def mJ7_fill_53178 : MD := (0, 0, yJ7_fill_53178, cJ7_fill_53178, 4, none)
def mX0_begin : MD := (0, 2, yX0_begin, cX0_begin, 2, none)
def mX0_copyFrom : MD := (0, 3, yX0_copyFrom, cX0_copyFrom, 3, none)
def mX0_firstInNeed : MD := (0, 1, yX0_firstInNeed, cX0_firstInNeed, 5, (some .int))
def mX0_giveOut : MD := (0, 2, yX0_giveOut, cX0_giveOut, 7, none)
def mX0_lackOfAll : MD := (0, 0, yX0_lackOfAll, cX0_lackOfAll, 3, (some .int))
def mX0_leasts : MD := (0, 0, yX0_leasts, cX0_leasts, 3, (some .int))
def mX0_pastRounds : MD := (0, 1, yX0_pastRounds, cX0_pastRounds, 1, (some .int))
def mX0_playRound : MD := (0, 4, yX0_playRound, cX0_playRound, 3, none)
def mX0_servers : MD := (0, 0, yX0_servers, cX0_servers, 3, (some .int))
def mX0_spentByAll : MD := (0, 0, yX0_spentByAll, cX0_spentByAll, 3, (some .int))
def mX0_standAlone : MD := (0, 3, yX0_standAlone, cX0_standAlone, 3, none)
def mX0_wantBeside : MD := (0, 3, yX0_wantBeside, cX0_wantBeside, 5, (some .int))
def mX0_wantOf : MD := (0, 2, yX0_wantOf, cX0_wantOf, 4, (some .int))
def mX1_foresee : MD := (0, 1, yX1_foresee, cX1_foresee, 8, (some .int))
def mX1_leastUpTo : MD := (0, 2, yX1_leastUpTo, cX1_leastUpTo, 10, (some .int))
def mX1_leastValue : MD := (0, 3, yX1_leastValue, cX1_leastValue, 8, (some .int))
def mX1_wantBy : MD := (0, 1, yX1_wantBy, cX1_wantBy, 5, (some .int))
def mX2_begin : MD := (0, 1, yX2_begin, cX2_begin, 2, none)
def mX2_bounded : MD := (0, 1, yX2_bounded, cX2_bounded, 6, (some .int))
def mX2_close : MD := (0, 1, yX2_close, cX2_close, 4, none)
def mX2_copyFrom : MD := (0, 2, yX2_copyFrom, cX2_copyFrom, 3, none)
def mX2_costs : MD := (0, 0, yX2_costs, cX2_costs, 1, (some .int))
def mX2_get : MD := (0, 0, yX2_get, cX2_get, 5, none)
def mX2_giveUpTooMany : MD := (0, 1, yX2_giveUpTooMany, cX2_giveUpTooMany, 6, none)
def mX2_goesBefore : MD := (0, 0, yX2_goesBefore, cX2_goesBefore, 2, (some .boolean))
def mX2_isHeldBy : MD := (0, 0, yX2_isHeldBy, cX2_isHeldBy, 2, (some .boolean))
def mX2_nextReadyRound : MD := (0, 0, yX2_nextReadyRound, cX2_nextReadyRound, 3, (some .int))
def mX2_plan : MD := (0, 2, yX2_plan, cX2_plan, 2, none)
def mX2_readyIn : MD := (0, 0, yX2_readyIn, cX2_readyIn, 2, (some .int))
def mX2_steadied : MD := (0, 1, yX2_steadied, cX2_steadied, 6, (some .int))
def mX2_takeShape : MD := (0, 1, yX2_takeShape, cX2_takeShape, 3, none)
def mX2_tellValues : MD := (0, 0, yX2_tellValues, cX2_tellValues, 4, none)
def mX2_wake : MD := (0, 0, yX2_wake, cX2_wake, 2, none)
def mX3_fails : MD := (0, 0, yX3_fails, cX3_fails, 2, (some .boolean))
def mX3_isDigit : MD := (0, 0, yX3_isDigit, cX3_isDigit, 1, (some .boolean))
def mX3_isNumber : MD := (0, 1, yX3_isNumber, cX3_isNumber, 3, (some .boolean))
def mX3_kindOf : MD := (0, 0, yX3_kindOf, cX3_kindOf, 1, (some .int))
def mX3_passes : MD := (0, 2, yX3_passes, cX3_passes, 2, (some .boolean))
def mX3_readHouse : MD := (0, 3, yX3_readHouse, cX3_readHouse, 3, (some .boolean))
def mX3_readInto : MD := (0, 5, yX3_readInto, cX3_readInto, 2, (some .boolean))
def mX3_readMeasures : MD := (0, 3, yX3_readMeasures, cX3_readMeasures, 4, (some .boolean))
def mX3_readNumbers : MD := (0, 3, yX3_readNumbers, cX3_readNumbers, 6, (some .boolean))
def mX3_readServices : MD := (0, 4, yX3_readServices, cX3_readServices, 3, (some .boolean))
def mX3_step : MD := (0, 1, yX3_step, cX3_step, 1, none)
def mX3_takesIn : MD := (0, 0, yX3_takesIn, cX3_takesIn, 2, (some .boolean))
def mX4_afterOneRound : MD := (0, 5, yX4_afterOneRound, cX4_afterOneRound, 2, (some (.object "EnoughServers$Service")))
def mX4_ahead : MD := (0, 5, yX4_ahead, cX4_ahead, 4, (some .int))
def mX4_best : MD := (0, 6, yX4_best, cX4_best, 7, (some .int))
def mX4_count : MD := (0, 1, yX4_count, cX4_count, 2, (some .int))
def mX4_cut : MD := (0, 0, yX4_cut, cX4_cut, 2, (some .int))
def mX4_cutUp : MD := (0, 0, yX4_cutUp, cX4_cutUp, 2, (some .int))
def mX4_fault : MD := (0, 0, yX4_fault, cX4_fault, 1, (some .int))
def mX4_forecast : MD := (0, 2, yX4_forecast, cX4_forecast, 4, (some .int))
def mX4_hasMeasure : MD := (0, 1, yX4_hasMeasure, cX4_hasMeasure, 3, (some .boolean))
def mX4_hasService : MD := (0, 0, yX4_hasService, cX4_hasService, 2, (some .boolean))
def mX4_house : MD := (0, 6, yX4_house, cX4_house, 2, (some .int))
def mX4_keepForUndo : MD := (0, 4, yX4_keepForUndo, cX4_keepForUndo, 1, none)
def mX4_load : MD := (0, 5, yX4_load, cX4_load, 6, (some .int))
def mX4_measure : MD := (0, 3, yX4_measure, cX4_measure, 6, (some .int))
def mX4_needs : MD := (0, 4, yX4_needs, cX4_needs, 7, (some .int))
def mX4_replay : MD := (0, 6, yX4_replay, cX4_replay, 6, (some .int))
def mX4_replayed : MD := (0, 5, yX4_replayed, cX4_replayed, 8, (some (.object "EnoughServers$Service")))
def mX4_round : MD := (0, 5, yX4_round, cX4_round, 1, (some .int))
def mX4_service : MD := (0, 1, yX4_service, cX4_service, 4, (some .int))
def mX4_set : MD := (0, 5, yX4_set, cX4_set, 6, (some .int))
def mX4_starting : MD := (0, 1, yX4_starting, cX4_starting, 3, (some .int))
def mX4_undo : MD := (0, 4, yX4_undo, cX4_undo, 1, (some .int))
def mX4_until : MD := (0, 5, yX4_until, cX4_until, 5, (some .int))
def mX4_why : MD := (0, 6, yX4_why, cX4_why, 6, (some .int))
def mX4_would : MD := (0, 6, yX4_would, cX4_would, 4, (some .int))
def mX4_write : MD := (0, 1, yX4_write, cX4_write, 2, (some .int))
def mX5_ahead : MD := (1, 7, yX5_ahead, cX5_ahead, 4, (some .int))
def mX5_allCounts : MD := (1, 2, yX5_allCounts, cX5_allCounts, 4, (some .int))
def mX5_allOf : MD := (1, 1, yX5_allOf, cX5_allOf, 5, (some .int))
def mX5_at : MD := (1, 0, yX5_at, cX5_at, 3, (some .int))
def mX5_atMeasure : MD := (1, 1, yX5_atMeasure, cX5_atMeasure, 4, (some .int))
def mX5_best : MD := (1, 8, yX5_best, cX5_best, 6, (some .int))
def mX5_copies : MD := (1, 0, yX5_copies, cX5_copies, 4, none)
def mX5_count : MD := (1, 3, yX5_count, cX5_count, 2, (some .int))
def mX5_countOf : MD := (1, 1, yX5_countOf, cX5_countOf, 5, (some .int))
def mX5_does : MD := (1, 6, yX5_does, cX5_does, 4, none)
def mX5_fault : MD := (1, 0, yX5_fault, cX5_fault, 1, (some .int))
def mX5_forecast : MD := (1, 3, yX5_forecast, cX5_forecast, 4, (some .int))
def mX5_forecastOf : MD := (1, 2, yX5_forecastOf, cX5_forecastOf, 9, (some .int))
def mX5_gets : MD := (1, 4, yX5_gets, cX5_gets, 5, none)
def mX5_getsOne : MD := (1, 3, yX5_getsOne, cX5_getsOne, 7, none)
def mX5_givesUp : MD := (1, 2, yX5_givesUp, cX5_givesUp, 6, none)
def mX5_goesOn : MD := (1, 3, yX5_goesOn, cX5_goesOn, 2, none)
def mX5_highOf : MD := (1, 0, yX5_highOf, cX5_highOf, 1, (some .int))
def mX5_house : MD := (1, 6, yX5_house, cX5_house, 2, (some .int))
def mX5_isAhead : MD := (1, 1, yX5_isAhead, cX5_isAhead, 6, (some .boolean))
def mX5_isHouse : MD := (1, 0, yX5_isHouse, cX5_isHouse, 1, (some .boolean))
def mX5_isMeasure : MD := (1, 2, yX5_isMeasure, cX5_isMeasure, 3, (some .boolean))
def mX5_isService : MD := (1, 1, yX5_isService, cX5_isService, 2, (some .boolean))
def mX5_isSign : MD := (1, 0, yX5_isSign, cX5_isSign, 2, (some .boolean))
def mX5_kindOf : MD := (1, 1, yX5_kindOf, cX5_kindOf, 1, (some .int))
def mX5_lays : MD := (1, 0, yX5_lays, cX5_lays, 4, none)
def mX5_leasts : MD := (1, 1, yX5_leasts, cX5_leasts, 4, (some .int))
def mX5_load : MD := (1, 3, yX5_load, cX5_load, 5, (some .int))
def mX5_lowOf : MD := (1, 0, yX5_lowOf, cX5_lowOf, 1, (some .int))
def mX5_measure : MD := (1, 4, yX5_measure, cX5_measure, 4, (some .int))
def mX5_moves : MD := (1, 1, yX5_moves, cX5_moves, 5, none)
def mX5_needs : MD := (1, 4, yX5_needs, cX5_needs, 7, (some .int))
def mX5_nextStarting : MD := (1, 1, yX5_nextStarting, cX5_nextStarting, 4, (some .int))
def mX5_notes : MD := (1, 1, yX5_notes, cX5_notes, 2, none)
def mX5_number : MD := (1, 1, yX5_number, cX5_number, 4, none)
def mX5_of : MD := (1, 0, yX5_of, cX5_of, 3, (some .int))
def mX5_ofWants : MD := (1, 1, yX5_ofWants, cX5_ofWants, 8, (some .int))
def mX5_pastOf : MD := (1, 1, yX5_pastOf, cX5_pastOf, 2, (some .int))
def mX5_reads : MD := (1, 1, yX5_reads, cX5_reads, 1, none)
def mX5_readsHead : MD := (1, 4, yX5_readsHead, cX5_readsHead, 4, none)
def mX5_readsMeasure : MD := (1, 4, yX5_readsMeasure, cX5_readsMeasure, 3, none)
def mX5_readsService : MD := (1, 5, yX5_readsService, cX5_readsService, 3, none)
def mX5_replay : MD := (1, 8, yX5_replay, cX5_replay, 5, (some .int))
def mX5_replays : MD := (1, 7, yX5_replays, cX5_replays, 6, none)
def mX5_round : MD := (1, 7, yX5_round, cX5_round, 1, (some .int))
def mX5_service : MD := (1, 2, yX5_service, cX5_service, 3, (some .int))
def mX5_set : MD := (1, 2, yX5_set, cX5_set, 6, (some .int))
def mX5_sign : MD := (1, 2, yX5_sign, cX5_sign, 2, none)
def mX5_starting : MD := (1, 2, yX5_starting, cX5_starting, 3, (some .int))
def mX5_starts : MD := (1, 1, yX5_starts, cX5_starts, 3, none)
def mX5_sumOf : MD := (1, 1, yX5_sumOf, cX5_sumOf, 7, (some .int))
def mX5_sums : MD := (1, 2, yX5_sums, cX5_sums, 7, none)
def mX5_tries : MD := (1, 2, yX5_tries, cX5_tries, 1, none)
def mX5_triesRound : MD := (1, 7, yX5_triesRound, cX5_triesRound, 1, none)
def mX5_undo : MD := (1, 1, yX5_undo, cX5_undo, 1, (some .int))
def mX5_until : MD := (1, 7, yX5_until, cX5_until, 4, (some .int))
def mX5_up : MD := (1, 0, yX5_up, cX5_up, 2, (some .int))
def mX5_wantOf : MD := (1, 3, yX5_wantOf, cX5_wantOf, 10, (some .int))
def mX5_wanted : MD := (1, 4, yX5_wanted, cX5_wanted, 6, (some .int))
def mX5_weighs : MD := (1, 5, yX5_weighs, cX5_weighs, 12, none)
def mX5_why : MD := (1, 8, yX5_why, cX5_why, 7, (some .int))
def mX5_would : MD := (1, 8, yX5_would, cX5_would, 3, (some .int))
def mX5_write : MD := (1, 1, yX5_write, cX5_write, 2, (some .int))
def mX5_wrong : MD := (1, 0, yX5_wrong, cX5_wrong, 2, none)
def mX5_in : MD := (1, 0, yX5_in, cX5_in, 6, (some .boolean))
theorem mkJ7_fill_53178 : MK mJ7_fill_53178 2 := ⟨gw301, gw8, by decide +kernel, by decide⟩
theorem mkX0_begin : MK mX0_begin 0 := ⟨gw294, gw3, by decide +kernel, by decide⟩
theorem mkX0_copyFrom : MK mX0_copyFrom 1 := ⟨gw305, gw3, by decide +kernel, by decide⟩
theorem mkX0_firstInNeed : MK mX0_firstInNeed 0 := ⟨gw423, gw3, by decide +kernel, by decide⟩
theorem mkX0_giveOut : MK mX0_giveOut 0 := ⟨gw415, gw3, by decide +kernel, by decide⟩
theorem mkX0_lackOfAll : MK mX0_lackOfAll 0 := ⟨gw499, gw3, by decide +kernel, by decide⟩
theorem mkX0_leasts : MK mX0_leasts 0 := ⟨gw276, gw3, by decide +kernel, by decide⟩
theorem mkX0_pastRounds : MK mX0_pastRounds 0 := ⟨gw457, gw3, by decide +kernel, by decide⟩
theorem mkX0_playRound : MK mX0_playRound 0 := ⟨gw357, gw3, by decide +kernel, by decide⟩
theorem mkX0_servers : MK mX0_servers 0 := ⟨gw419, gw3, by decide +kernel, by decide⟩
theorem mkX0_spentByAll : MK mX0_spentByAll 0 := ⟨gw495, gw3, by decide +kernel, by decide⟩
theorem mkX0_standAlone : MK mX0_standAlone 2 := ⟨gw530, gw3, by decide +kernel, by decide⟩
theorem mkX0_wantBeside : MK mX0_wantBeside 2 := ⟨gw365, gw3, by decide +kernel, by decide⟩
theorem mkX0_wantOf : MK mX0_wantOf 2 := ⟨gw369, gw3, by decide +kernel, by decide⟩
theorem mkX1_foresee : MK mX1_foresee 3 := ⟨gw373, gw5, by decide +kernel, by decide⟩
theorem mkX1_leastUpTo : MK mX1_leastUpTo 5 := ⟨gw518, gw5, by decide +kernel, by decide⟩
theorem mkX1_leastValue : MK mX1_leastValue 4 := ⟨gw513, gw5, by decide +kernel, by decide⟩
theorem mkX1_wantBy : MK mX1_wantBy 4 := ⟨gw384, gw5, by decide +kernel, by decide⟩
theorem mkX2_begin : MK mX2_begin 0 := ⟨gw298, gw4, by decide +kernel, by decide⟩
theorem mkX2_bounded : MK mX2_bounded 1 := ⟨gw406, gw4, by decide +kernel, by decide⟩
theorem mkX2_close : MK mX2_close 1 := ⟨gw436, gw4, by decide +kernel, by decide⟩
theorem mkX2_copyFrom : MK mX2_copyFrom 1 := ⟨gw312, gw4, by decide +kernel, by decide⟩
theorem mkX2_costs : MK mX2_costs 0 := ⟨gw544, gw4, by decide +kernel, by decide⟩
theorem mkX2_get : MK mX2_get 4 := ⟨gw432, gw4, by decide +kernel, by decide⟩
theorem mkX2_giveUpTooMany : MK mX2_giveUpTooMany 1 := ⟨gw411, gw4, by decide +kernel, by decide⟩
theorem mkX2_goesBefore : MK mX2_goesBefore 1 := ⟨gw427, gw4, by decide +kernel, by decide⟩
theorem mkX2_isHeldBy : MK mX2_isHeldBy 1 := ⟨gw482, gw4, by decide +kernel, by decide⟩
theorem mkX2_nextReadyRound : MK mX2_nextReadyRound 1 := ⟨gw449, gw4, by decide +kernel, by decide⟩
theorem mkX2_plan : MK mX2_plan 1 := ⟨gw396, gw4, by decide +kernel, by decide⟩
theorem mkX2_readyIn : MK mX2_readyIn 1 := ⟨gw380, gw4, by decide +kernel, by decide⟩
theorem mkX2_steadied : MK mX2_steadied 1 := ⟨gw400, gw4, by decide +kernel, by decide⟩
theorem mkX2_takeShape : MK mX2_takeShape 1 := ⟨gw316, gw4, by decide +kernel, by decide⟩
theorem mkX2_tellValues : MK mX2_tellValues 2 := ⟨gw536, gw4, by decide +kernel, by decide⟩
theorem mkX2_wake : MK mX2_wake 1 := ⟨gw361, gw4, by decide +kernel, by decide⟩
theorem mkX3_fails : MK mX3_fails 1 := ⟨gw256, gw2, by decide +kernel, by decide⟩
theorem mkX3_isDigit : MK mX3_isDigit 1 := ⟨gw244, gw2, by decide +kernel, by decide⟩
theorem mkX3_isNumber : MK mX3_isNumber 2 := ⟨gw264, gw2, by decide +kernel, by decide⟩
theorem mkX3_kindOf : MK mX3_kindOf 1 := ⟨gw290, gw2, by decide +kernel, by decide⟩
theorem mkX3_passes : MK mX3_passes 1 := ⟨gw252, gw2, by decide +kernel, by decide⟩
theorem mkX3_readHouse : MK mX3_readHouse 1 := ⟨gw248, gw2, by decide +kernel, by decide⟩
theorem mkX3_readInto : MK mX3_readInto 1 := ⟨gw237, gw2, by decide +kernel, by decide⟩
theorem mkX3_readMeasures : MK mX3_readMeasures 1 := ⟨gw287, gw2, by decide +kernel, by decide⟩
theorem mkX3_readNumbers : MK mX3_readNumbers 2 := ⟨gw272, gw2, by decide +kernel, by decide⟩
theorem mkX3_readServices : MK mX3_readServices 1 := ⟨gw268, gw2, by decide +kernel, by decide⟩
theorem mkX3_step : MK mX3_step 0 := ⟨gw241, gw2, by decide +kernel, by decide⟩
theorem mkX3_takesIn : MK mX3_takesIn 1 := ⟨gw228, gw2, by decide +kernel, by decide⟩
theorem mkX4_afterOneRound : MK mX4_afterOneRound 1 := ⟨gw474, gw1, by decide +kernel, by decide⟩
theorem mkX4_ahead : MK mX4_ahead 2 := ⟨gw491, gw1, by decide +kernel, by decide⟩
theorem mkX4_best : MK mX4_best 1 := ⟨gw540, gw1, by decide +kernel, by decide⟩
theorem mkX4_count : MK mX4_count 1 := ⟨gw466, gw1, by decide +kernel, by decide⟩
theorem mkX4_cut : MK mX4_cut 2 := ⟨gw391, gw1, by decide +kernel, by decide⟩
theorem mkX4_cutUp : MK mX4_cutUp 2 := ⟨gw376, gw1, by decide +kernel, by decide⟩
theorem mkX4_fault : MK mX4_fault 0 := ⟨gw321, gw1, by decide +kernel, by decide⟩
theorem mkX4_forecast : MK mX4_forecast 3 := ⟨gw486, gw1, by decide +kernel, by decide⟩
theorem mkX4_hasMeasure : MK mX4_hasMeasure 2 := ⟨gw329, gw1, by decide +kernel, by decide⟩
theorem mkX4_hasService : MK mX4_hasService 1 := ⟨gw333, gw1, by decide +kernel, by decide⟩
theorem mkX4_house : MK mX4_house 0 := ⟨gw233, gw1, by decide +kernel, by decide⟩
theorem mkX4_keepForUndo : MK mX4_keepForUndo 0 := ⟨gw338, gw1, by decide +kernel, by decide⟩
theorem mkX4_load : MK mX4_load 3 := ⟨gw325, gw1, by decide +kernel, by decide⟩
theorem mkX4_measure : MK mX4_measure 3 := ⟨gw453, gw1, by decide +kernel, by decide⟩
theorem mkX4_needs : MK mX4_needs 3 := ⟨gw508, gw1, by decide +kernel, by decide⟩
theorem mkX4_replay : MK mX4_replay 4 := ⟨gw522, gw1, by decide +kernel, by decide⟩
theorem mkX4_replayed : MK mX4_replayed 3 := ⟨gw526, gw1, by decide +kernel, by decide⟩
theorem mkX4_round : MK mX4_round 0 := ⟨gw353, gw1, by decide +kernel, by decide⟩
theorem mkX4_service : MK mX4_service 2 := ⟨gw445, gw1, by decide +kernel, by decide⟩
theorem mkX4_set : MK mX4_set 3 := ⟨gw345, gw1, by decide +kernel, by decide⟩
theorem mkX4_starting : MK mX4_starting 2 := ⟨gw462, gw1, by decide +kernel, by decide⟩
theorem mkX4_undo : MK mX4_undo 0 := ⟨gw441, gw1, by decide +kernel, by decide⟩
theorem mkX4_until : MK mX4_until 2 := ⟨gw503, gw1, by decide +kernel, by decide⟩
theorem mkX4_why : MK mX4_why 2 := ⟨gw478, gw1, by decide +kernel, by decide⟩
theorem mkX4_would : MK mX4_would 2 := ⟨gw470, gw1, by decide +kernel, by decide⟩
theorem mkX4_write : MK mX4_write 1 := ⟨gw223, gw1, by decide +kernel, by decide⟩
theorem mkX5_ahead : MK mX5_ahead 2 := ⟨gw854, gw6, by decide +kernel, by decide⟩
theorem mkX5_allCounts : MK mX5_allCounts 1 := ⟨gw792, gw6, by decide +kernel, by decide⟩
theorem mkX5_allOf : MK mX5_allOf 2 := ⟨gw860, gw6, by decide +kernel, by decide⟩
theorem mkX5_at : MK mX5_at 3 := ⟨gw667, gw6, by decide +kernel, by decide⟩
theorem mkX5_atMeasure : MK mX5_atMeasure 4 := ⟨gw688, gw6, by decide +kernel, by decide⟩
theorem mkX5_best : MK mX5_best 1 := ⟨gw882, gw6, by decide +kernel, by decide⟩
theorem mkX5_copies : MK mX5_copies 2 := ⟨gw692, gw6, by decide +kernel, by decide⟩
theorem mkX5_count : MK mX5_count 1 := ⟨gw831, gw6, by decide +kernel, by decide⟩
theorem mkX5_countOf : MK mX5_countOf 2 := ⟨gw745, gw6, by decide +kernel, by decide⟩
theorem mkX5_does : MK mX5_does 1 := ⟨gw733, gw6, by decide +kernel, by decide⟩
theorem mkX5_fault : MK mX5_fault 0 := ⟨gw696, gw6, by decide +kernel, by decide⟩
theorem mkX5_forecast : MK mX5_forecast 3 := ⟨gw849, gw6, by decide +kernel, by decide⟩
theorem mkX5_forecastOf : MK mX5_forecastOf 4 := ⟨gw760, gw6, by decide +kernel, by decide⟩
theorem mkX5_gets : MK mX5_gets 1 := ⟨gw780, gw6, by decide +kernel, by decide⟩
theorem mkX5_getsOne : MK mX5_getsOne 2 := ⟨gw788, gw6, by decide +kernel, by decide⟩
theorem mkX5_givesUp : MK mX5_givesUp 2 := ⟨gw776, gw6, by decide +kernel, by decide⟩
theorem mkX5_goesOn : MK mX5_goesOn 1 := ⟨gw656, gw6, by decide +kernel, by decide⟩
theorem mkX5_highOf : MK mX5_highOf 1 := ⟨gw673, gw6, by decide +kernel, by decide⟩
theorem mkX5_house : MK mX5_house 0 := ⟨gw622, gw6, by decide +kernel, by decide⟩
theorem mkX5_isAhead : MK mX5_isAhead 3 := ⟨gw784, gw6, by decide +kernel, by decide⟩
theorem mkX5_isHouse : MK mX5_isHouse 0 := ⟨gw729, gw6, by decide +kernel, by decide⟩
theorem mkX5_isMeasure : MK mX5_isMeasure 2 := ⟨gw704, gw6, by decide +kernel, by decide⟩
theorem mkX5_isService : MK mX5_isService 1 := ⟨gw708, gw6, by decide +kernel, by decide⟩
theorem mkX5_isSign : MK mX5_isSign 1 := ⟨gw644, gw6, by decide +kernel, by decide⟩
theorem mkX5_kindOf : MK mX5_kindOf 0 := ⟨gw681, gw6, by decide +kernel, by decide⟩
theorem mkX5_lays : MK mX5_lays 3 := ⟨gw626, gw6, by decide +kernel, by decide⟩
theorem mkX5_leasts : MK mX5_leasts 1 := ⟨gw677, gw6, by decide +kernel, by decide⟩
theorem mkX5_load : MK mX5_load 3 := ⟨gw700, gw6, by decide +kernel, by decide⟩
theorem mkX5_lowOf : MK mX5_lowOf 1 := ⟨gw670, gw6, by decide +kernel, by decide⟩
theorem mkX5_measure : MK mX5_measure 3 := ⟨gw816, gw6, by decide +kernel, by decide⟩
theorem mkX5_moves : MK mX5_moves 4 := ⟨gw800, gw6, by decide +kernel, by decide⟩
theorem mkX5_needs : MK mX5_needs 3 := ⟨gw869, gw6, by decide +kernel, by decide⟩
theorem mkX5_nextStarting : MK mX5_nextStarting 1 := ⟨gw812, gw6, by decide +kernel, by decide⟩
theorem mkX5_notes : MK mX5_notes 0 := ⟨gw715, gw6, by decide +kernel, by decide⟩
theorem mkX5_number : MK mX5_number 3 := ⟨gw652, gw6, by decide +kernel, by decide⟩
theorem mkX5_of : MK mX5_of 2 := ⟨gw664, gw6, by decide +kernel, by decide⟩
theorem mkX5_ofWants : MK mX5_ofWants 4 := ⟨gw768, gw6, by decide +kernel, by decide⟩
theorem mkX5_pastOf : MK mX5_pastOf 1 := ⟨gw764, gw6, by decide +kernel, by decide⟩
theorem mkX5_reads : MK mX5_reads 0 := ⟨gw630, gw6, by decide +kernel, by decide⟩
theorem mkX5_readsHead : MK mX5_readsHead 0 := ⟨gw636, gw6, by decide +kernel, by decide⟩
theorem mkX5_readsMeasure : MK mX5_readsMeasure 1 := ⟨gw685, gw6, by decide +kernel, by decide⟩
theorem mkX5_readsService : MK mX5_readsService 0 := ⟨gw660, gw6, by decide +kernel, by decide⟩
theorem mkX5_replay : MK mX5_replay 4 := ⟨gw874, gw6, by decide +kernel, by decide⟩
theorem mkX5_replays : MK mX5_replays 3 := ⟨gw878, gw6, by decide +kernel, by decide⟩
theorem mkX5_round : MK mX5_round 0 := ⟨gw725, gw6, by decide +kernel, by decide⟩
theorem mkX5_service : MK mX5_service 2 := ⟨gw808, gw6, by decide +kernel, by decide⟩
theorem mkX5_set : MK mX5_set 3 := ⟨gw719, gw6, by decide +kernel, by decide⟩
theorem mkX5_sign : MK mX5_sign 1 := ⟨gw640, gw6, by decide +kernel, by decide⟩
theorem mkX5_starting : MK mX5_starting 2 := ⟨gw826, gw6, by decide +kernel, by decide⟩
theorem mkX5_starts : MK mX5_starts 1 := ⟨gw737, gw6, by decide +kernel, by decide⟩
theorem mkX5_sumOf : MK mX5_sumOf 4 := ⟨gw772, gw6, by decide +kernel, by decide⟩
theorem mkX5_sums : MK mX5_sums 2 := ⟨gw796, gw6, by decide +kernel, by decide⟩
theorem mkX5_tries : MK mX5_tries 0 := ⟨gw821, gw6, by decide +kernel, by decide⟩
theorem mkX5_triesRound : MK mX5_triesRound 0 := ⟨gw841, gw6, by decide +kernel, by decide⟩
theorem mkX5_undo : MK mX5_undo 0 := ⟨gw804, gw6, by decide +kernel, by decide⟩
theorem mkX5_until : MK mX5_until 2 := ⟨gw864, gw6, by decide +kernel, by decide⟩
theorem mkX5_up : MK mX5_up 2 := ⟨gw756, gw6, by decide +kernel, by decide⟩
theorem mkX5_wantOf : MK mX5_wantOf 4 := ⟨gw753, gw6, by decide +kernel, by decide⟩
theorem mkX5_wanted : MK mX5_wanted 2 := ⟨gw749, gw6, by decide +kernel, by decide⟩
theorem mkX5_weighs : MK mX5_weighs 2 := ⟨gw741, gw6, by decide +kernel, by decide⟩
theorem mkX5_why : MK mX5_why 2 := ⟨gw845, gw6, by decide +kernel, by decide⟩
theorem mkX5_would : MK mX5_would 2 := ⟨gw836, gw6, by decide +kernel, by decide⟩
theorem mkX5_write : MK mX5_write 1 := ⟨gw612, gw6, by decide +kernel, by decide⟩
theorem mkX5_wrong : MK mX5_wrong 1 := ⟨gw648, gw6, by decide +kernel, by decide⟩
theorem mkX5_in : MK mX5_in 3 := ⟨gw616, gw6, by decide +kernel, by decide⟩
