theorem kb_m100 : (Int8.ofInt (-100)).toInt32 = -100 := by decide
theorem kb_m14 : (Int8.ofInt (-14)).toInt32 = -14 := by decide
theorem kb_m13 : (Int8.ofInt (-13)).toInt32 = -13 := by decide
theorem kb_m12 : (Int8.ofInt (-12)).toInt32 = -12 := by decide
theorem kb_m11 : (Int8.ofInt (-11)).toInt32 = -11 := by decide
theorem kb_m9 : (Int8.ofInt (-9)).toInt32 = -9 := by decide
theorem kb_m5 : (Int8.ofInt (-5)).toInt32 = -5 := by decide
theorem kb_m3 : (Int8.ofInt (-3)).toInt32 = -3 := by decide
theorem kb_m2 : (Int8.ofInt (-2)).toInt32 = -2 := by decide
theorem kb_6 : (Int8.ofInt (6)).toInt32 = 6 := by decide
theorem kb_7 : (Int8.ofInt (7)).toInt32 = 7 := by decide
theorem kb_8 : (Int8.ofInt (8)).toInt32 = 8 := by decide
theorem kb_9 : (Int8.ofInt (9)).toInt32 = 9 := by decide
theorem kb_10 : (Int8.ofInt (10)).toInt32 = 10 := by decide
theorem kb_11 : (Int8.ofInt (11)).toInt32 = 11 := by decide
theorem kb_12 : (Int8.ofInt (12)).toInt32 = 12 := by decide
theorem kb_16 : (Int8.ofInt (16)).toInt32 = 16 := by decide
theorem kb_18 : (Int8.ofInt (18)).toInt32 = 18 := by decide
theorem kb_20 : (Int8.ofInt (20)).toInt32 = 20 := by decide
theorem kb_24 : (Int8.ofInt (24)).toInt32 = 24 := by decide
theorem kb_28 : (Int8.ofInt (28)).toInt32 = 28 := by decide
theorem kb_30 : (Int8.ofInt (30)).toInt32 = 30 := by decide
theorem kb_32 : (Int8.ofInt (32)).toInt32 = 32 := by decide
theorem kb_33 : (Int8.ofInt (33)).toInt32 = 33 := by decide
theorem kb_37 : (Int8.ofInt (37)).toInt32 = 37 := by decide
theorem kb_38 : (Int8.ofInt (38)).toInt32 = 38 := by decide
theorem kb_39 : (Int8.ofInt (39)).toInt32 = 39 := by decide
theorem kb_40 : (Int8.ofInt (40)).toInt32 = 40 := by decide
theorem kb_41 : (Int8.ofInt (41)).toInt32 = 41 := by decide
theorem kb_42 : (Int8.ofInt (42)).toInt32 = 42 := by decide
theorem kb_43 : (Int8.ofInt (43)).toInt32 = 43 := by decide
theorem kb_45 : (Int8.ofInt (45)).toInt32 = 45 := by decide
theorem kb_47 : (Int8.ofInt (47)).toInt32 = 47 := by decide
theorem kb_48 : (Int8.ofInt (48)).toInt32 = 48 := by decide
theorem kb_50 : (Int8.ofInt (50)).toInt32 = 50 := by decide
theorem kb_51 : (Int8.ofInt (51)).toInt32 = 51 := by decide
theorem kb_57 : (Int8.ofInt (57)).toInt32 = 57 := by decide
theorem kb_59 : (Int8.ofInt (59)).toInt32 = 59 := by decide
theorem kb_60 : (Int8.ofInt (60)).toInt32 = 60 := by decide
theorem kb_61 : (Int8.ofInt (61)).toInt32 = 61 := by decide
theorem kb_62 : (Int8.ofInt (62)).toInt32 = 62 := by decide
theorem kb_63 : (Int8.ofInt (63)).toInt32 = 63 := by decide
theorem kb_70 : (Int8.ofInt (70)).toInt32 = 70 := by decide
theorem kb_80 : (Int8.ofInt (80)).toInt32 = 80 := by decide
theorem kb_81 : (Int8.ofInt (81)).toInt32 = 81 := by decide
theorem kb_99 : (Int8.ofInt (99)).toInt32 = 99 := by decide
theorem kb_100 : (Int8.ofInt (100)).toInt32 = 100 := by decide
theorem kb_120 : (Int8.ofInt (120)).toInt32 = 120 := by decide
theorem kb_124 : (Int8.ofInt (124)).toInt32 = 124 := by decide
theorem kb_126 : (Int8.ofInt (126)).toInt32 = 126 := by decide
theorem kc_m1 : Int32.ofInt (-1) = -1 := by decide
theorem kc_0 : Int32.ofInt (0) = 0 := by decide
theorem kc_1 : Int32.ofInt (1) = 1 := by decide
theorem kc_2 : Int32.ofInt (2) = 2 := by decide
theorem kc_3 : Int32.ofInt (3) = 3 := by decide
theorem kc_4 : Int32.ofInt (4) = 4 := by decide
theorem kc_5 : Int32.ofInt (5) = 5 := by decide
theorem ki_1 {x v : Int32} (h : x + (1) = v) : x + Int32.ofInt (1) = v := h
theorem ki_2 {x v : Int32} (h : x + (2) = v) : x + Int32.ofInt (2) = v := h
theorem ki_4 {x v : Int32} (h : x + (4) = v) : x + Int32.ofInt (4) = v := h
theorem ki_8 {x v : Int32} (h : x + (8) = v) : x + Int32.ofInt (8) = v := h
theorem ki_16 {x v : Int32} (h : x + (16) = v) : x + Int32.ofInt (16) = v := h
theorem ks_255 : (Int16.ofInt (255)).toInt32 = 255 := by decide
theorem ks_256 : (Int16.ofInt (256)).toInt32 = 256 := by decide
theorem ks_12345 : (Int16.ofInt (12345)).toInt32 = 12345 := by decide
theorem q_0 : .selects RX10 yX10_promisesFromRow yX10_promisesFromRow ∈ gW := gW_in (i := 0) (by decide +kernel) (by decide +kernel)
theorem q_1 : .selects RX8 yX8_rowOf yX8_rowOf ∈ gW := gW_in (i := 1) (by decide +kernel) (by decide +kernel)
theorem q_2 : .selects RX0 yX0_dropOldest yX0_dropOldest ∈ gW := gW_in (i := 2) (by decide +kernel) (by decide +kernel)
theorem q_3 : .selects RX5 yX5_readLine yX5_readLine ∈ gW := gW_in (i := 3) (by decide +kernel) (by decide +kernel)
theorem q_4 : .selects RX5 yX5_readLevel yX5_readLevel ∈ gW := gW_in (i := 4) (by decide +kernel) (by decide +kernel)
theorem q_5 : .selects RX5 yX5_readOperand yX5_readOperand ∈ gW := gW_in (i := 5) (by decide +kernel) (by decide +kernel)
theorem q_6 : .selects RX5 yX5_next yX5_next ∈ gW := gW_in (i := 6) (by decide +kernel) (by decide +kernel)
theorem q_7 : .selects RX5 yX5_readNumber yX5_readNumber ∈ gW := gW_in (i := 7) (by decide +kernel) (by decide +kernel)
theorem q_8 : .selects RX5 yX5_write yX5_write ∈ gW := gW_in (i := 8) (by decide +kernel) (by decide +kernel)
theorem q_9 : .selects RX5 yX5_readOpened yX5_readOpened ∈ gW := gW_in (i := 9) (by decide +kernel) (by decide +kernel)
theorem q_10 : .selects RX5 yX5_fail yX5_fail ∈ gW := gW_in (i := 10) (by decide +kernel) (by decide +kernel)
theorem q_11 : .selects RX5 yX5_tell yX5_tell ∈ gW := gW_in (i := 11) (by decide +kernel) (by decide +kernel)
theorem q_12 : .selects RX5 yX5_lineEndFrom yX5_lineEndFrom ∈ gW := gW_in (i := 12) (by decide +kernel) (by decide +kernel)
theorem q_13 : .selects RX5 yX5_result yX5_result ∈ gW := gW_in (i := 13) (by decide +kernel) (by decide +kernel)
theorem q_14 : .selects RX2 yX2_layOut yX2_layOut ∈ gW := gW_in (i := 14) (by decide +kernel) (by decide +kernel)
theorem q_15 : .selects RX2 yX2_ridesLaidOut yX2_ridesLaidOut ∈ gW := gW_in (i := 15) (by decide +kernel) (by decide +kernel)
theorem q_16 : .selects RX2 yX2_ridesLaidOutWithin yX2_ridesLaidOutWithin ∈ gW := gW_in (i := 16) (by decide +kernel) (by decide +kernel)
theorem q_17 : .selects RX4 yX4_mayKeep yX4_mayKeep ∈ gW := gW_in (i := 17) (by decide +kernel) (by decide +kernel)
theorem q_18 : .selects RX4 yX4_letsRide yX4_letsRide ∈ gW := gW_in (i := 18) (by decide +kernel) (by decide +kernel)
theorem q_19 : .selects RX4 yX4_weightOf yX4_weightOf ∈ gW := gW_in (i := 19) (by decide +kernel) (by decide +kernel)
theorem q_20 : .selects RX9 yX9_fillFits yX9_fillFits ∈ gW := gW_in (i := 20) (by decide +kernel) (by decide +kernel)
theorem q_21 : .selects RX9 yX9_isSet yX9_isSet ∈ gW := gW_in (i := 21) (by decide +kernel) (by decide +kernel)
theorem q_22 : .selects RX9 yX9_eachLessOneFits yX9_eachLessOneFits ∈ gW := gW_in (i := 22) (by decide +kernel) (by decide +kernel)
theorem q_23 : .selects RX9 yX9_hasDaysForAll yX9_hasDaysForAll ∈ gW := gW_in (i := 23) (by decide +kernel) (by decide +kernel)
theorem q_24 : .selects RX9 yX9_isClash yX9_isClash ∈ gW := gW_in (i := 24) (by decide +kernel) (by decide +kernel)
theorem q_25 : .selects RX1 yX1_isSoIfKeptOn yX1_isSoIfKeptOn ∈ gW := gW_in (i := 25) (by decide +kernel) (by decide +kernel)
theorem q_26 : .selects RX4 yX4_endsRiding yX4_endsRiding ∈ gW := gW_in (i := 26) (by decide +kernel) (by decide +kernel)
theorem q_27 : .selects RX2 yX2_drawLife yX2_drawLife ∈ gW := gW_in (i := 27) (by decide +kernel) (by decide +kernel)
theorem q_28 : .selects RX6 yX6_own yX6_own ∈ gW := gW_in (i := 28) (by decide +kernel) (by decide +kernel)
theorem q_29 : .selects RX6 yX6_run yX6_run ∈ gW := gW_in (i := 29) (by decide +kernel) (by decide +kernel)
theorem q_30 : .selects RX6 yX6_note yX6_note ∈ gW := gW_in (i := 30) (by decide +kernel) (by decide +kernel)
theorem q_31 : .selects RX7 yX7_holdsRow yX7_holdsRow ∈ gW := gW_in (i := 31) (by decide +kernel) (by decide +kernel)
theorem q_32 : .selects RX11 yX11_mayCome yX11_mayCome ∈ gW := gW_in (i := 32) (by decide +kernel) (by decide +kernel)
theorem q_33 : .selects RX11 yX11_isOne yX11_isOne ∈ gW := gW_in (i := 33) (by decide +kernel) (by decide +kernel)
theorem q_34 : .selects RX11 yX11_adds yX11_adds ∈ gW := gW_in (i := 34) (by decide +kernel) (by decide +kernel)
theorem q_35 : .selects RX11 yX11_placeOf yX11_placeOf ∈ gW := gW_in (i := 35) (by decide +kernel) (by decide +kernel)
theorem q_36 : .selects RX11 yX11_isPromise yX11_isPromise ∈ gW := gW_in (i := 36) (by decide +kernel) (by decide +kernel)
theorem q_37 : .selects RX11 yX11_mayBecome yX11_mayBecome ∈ gW := gW_in (i := 37) (by decide +kernel) (by decide +kernel)
theorem q_38 : .selects RX11 yX11_becomes yX11_becomes ∈ gW := gW_in (i := 38) (by decide +kernel) (by decide +kernel)
theorem q_39 : .selects RX11 yX11_workOut yX11_workOut ∈ gW := gW_in (i := 39) (by decide +kernel) (by decide +kernel)
theorem q_40 : .selects RX11 yX11_either yX11_either ∈ gW := gW_in (i := 40) (by decide +kernel) (by decide +kernel)
theorem q_41 : .selects RX11 yX11_both yX11_both ∈ gW := gW_in (i := 41) (by decide +kernel) (by decide +kernel)
theorem q_42 : .selects RX11 yX11_compared yX11_compared ∈ gW := gW_in (i := 42) (by decide +kernel) (by decide +kernel)
theorem q_43 : .selects RX11 yX11_sums yX11_sums ∈ gW := gW_in (i := 43) (by decide +kernel) (by decide +kernel)
theorem q_44 : .selects RX11 yX11_product yX11_product ∈ gW := gW_in (i := 44) (by decide +kernel) (by decide +kernel)
theorem q_45 : .selects RX11 yX11_one yX11_one ∈ gW := gW_in (i := 45) (by decide +kernel) (by decide +kernel)
theorem q_46 : .selects RX11 yX11_byteAt yX11_byteAt ∈ gW := gW_in (i := 46) (by decide +kernel) (by decide +kernel)
theorem q_47 : .selects RX11 yX11_wrong yX11_wrong ∈ gW := gW_in (i := 47) (by decide +kernel) (by decide +kernel)
theorem q_48 : .selects RX11 yX11_takes yX11_takes ∈ gW := gW_in (i := 48) (by decide +kernel) (by decide +kernel)
theorem q_49 : .selects RX11 yX11_chainOf yX11_chainOf ∈ gW := gW_in (i := 49) (by decide +kernel) (by decide +kernel)
theorem q_50 : .selects RX11 yX11_isOf yX11_isOf ∈ gW := gW_in (i := 50) (by decide +kernel) (by decide +kernel)
theorem q_51 : .selects RX11 yX11_isOpen yX11_isOpen ∈ gW := gW_in (i := 51) (by decide +kernel) (by decide +kernel)
theorem q_52 : .selects RX11 yX11_doesRide yX11_doesRide ∈ gW := gW_in (i := 52) (by decide +kernel) (by decide +kernel)
theorem q_53 : .selects RX11 yX11_goesRound yX11_goesRound ∈ gW := gW_in (i := 53) (by decide +kernel) (by decide +kernel)
theorem q_54 : .selects RX11 yX11_creaksOf yX11_creaksOf ∈ gW := gW_in (i := 54) (by decide +kernel) (by decide +kernel)
theorem q_55 : .selects RX11 yX11_creakOf yX11_creakOf ∈ gW := gW_in (i := 55) (by decide +kernel) (by decide +kernel)
theorem q_56 : .selects RX11 yX11_debtOf yX11_debtOf ∈ gW := gW_in (i := 56) (by decide +kernel) (by decide +kernel)
theorem q_57 : .selects RX11 yX11_ridersOn yX11_ridersOn ∈ gW := gW_in (i := 57) (by decide +kernel) (by decide +kernel)
theorem q_58 : .selects RX11 yX11_lets yX11_lets ∈ gW := gW_in (i := 58) (by decide +kernel) (by decide +kernel)
theorem q_59 : .selects RX11 yX11_ownOpen yX11_ownOpen ∈ gW := gW_in (i := 59) (by decide +kernel) (by decide +kernel)
theorem q_60 : .selects RX11 yX11_linksOf yX11_linksOf ∈ gW := gW_in (i := 60) (by decide +kernel) (by decide +kernel)
theorem q_61 : .selects RX11 yX11_allOf yX11_allOf ∈ gW := gW_in (i := 61) (by decide +kernel) (by decide +kernel)
theorem q_62 : .selects RX11 yX11_areAbleTo yX11_areAbleTo ∈ gW := gW_in (i := 62) (by decide +kernel) (by decide +kernel)
theorem q_63 : .selects RX11 yX11_isClash yX11_isClash ∈ gW := gW_in (i := 63) (by decide +kernel) (by decide +kernel)
theorem q_64 : .selects RX11 yX11_ridersBy yX11_ridersBy ∈ gW := gW_in (i := 64) (by decide +kernel) (by decide +kernel)
theorem q_65 : .selects RX11 yX11_shortsIs yX11_shortsIs ∈ gW := gW_in (i := 65) (by decide +kernel) (by decide +kernel)
theorem q_66 : .selects RX11 yX11_firstFalse yX11_firstFalse ∈ gW := gW_in (i := 66) (by decide +kernel) (by decide +kernel)
theorem q_67 : .selects RX11 yX11_winsFrom yX11_winsFrom ∈ gW := gW_in (i := 67) (by decide +kernel) (by decide +kernel)
theorem q_68 : .selects RX11 yX11_isBody yX11_isBody ∈ gW := gW_in (i := 68) (by decide +kernel) (by decide +kernel)
theorem q_69 : .selects RX11 yX11_holdsAs yX11_holdsAs ∈ gW := gW_in (i := 69) (by decide +kernel) (by decide +kernel)
theorem q_70 : .selects RX11 yX11_runs yX11_runs ∈ gW := gW_in (i := 70) (by decide +kernel) (by decide +kernel)
theorem q_71 : .selects RX11 yX11_ridesAs yX11_ridesAs ∈ gW := gW_in (i := 71) (by decide +kernel) (by decide +kernel)
theorem q_72 : .selects RX11 yX11_creaksAs yX11_creaksAs ∈ gW := gW_in (i := 72) (by decide +kernel) (by decide +kernel)
theorem q_73 : .selects RX11 yX11_tellsAs yX11_tellsAs ∈ gW := gW_in (i := 73) (by decide +kernel) (by decide +kernel)
theorem q_74 : .selects RX11 yX11_refusal yX11_refusal ∈ gW := gW_in (i := 74) (by decide +kernel) (by decide +kernel)
theorem q_75 : .selects RX11 yX11_kindOf yX11_kindOf ∈ gW := gW_in (i := 75) (by decide +kernel) (by decide +kernel)
theorem q_77 : .initialized RX10 ∈ gW := gW_in (i := 77) (by decide +kernel) (by decide +kernel)
theorem q_78 : .initialized RX8 ∈ gW := gW_in (i := 78) (by decide +kernel) (by decide +kernel)
theorem q_79 : .initialized RX5 ∈ gW := gW_in (i := 79) (by decide +kernel) (by decide +kernel)
theorem q_80 : .initialized RX7 ∈ gW := gW_in (i := 80) (by decide +kernel) (by decide +kernel)
theorem q_81 : .initialized RJ7 ∈ gW := gW_in (i := 81) (by decide +kernel) (by decide +kernel)
theorem q_82 : .initialized RX6 ∈ gW := gW_in (i := 82) (by decide +kernel) (by decide +kernel)
theorem q_83 : .initialized RX0 ∈ gW := gW_in (i := 83) (by decide +kernel) (by decide +kernel)
theorem q_84 : .initialized RX2 ∈ gW := gW_in (i := 84) (by decide +kernel) (by decide +kernel)
theorem q_85 : .initialized RX4 ∈ gW := gW_in (i := 85) (by decide +kernel) (by decide +kernel)
theorem q_86 : .initialized RX9 ∈ gW := gW_in (i := 86) (by decide +kernel) (by decide +kernel)
theorem q_87 : .initialized RX1 ∈ gW := gW_in (i := 87) (by decide +kernel) (by decide +kernel)
theorem q_88 : .initialized RX3 ∈ gW := gW_in (i := 88) (by decide +kernel) (by decide +kernel)
theorem q_89 : .initialized RX11 ∈ gW := gW_in (i := 89) (by decide +kernel) (by decide +kernel)
theorem q_91 : .initialized RJ9 ∈ gW := gW_in (i := 91) (by decide +kernel) (by decide +kernel)
theorem q_92 : .initialized RJ6 ∈ gW := gW_in (i := 92) (by decide +kernel) (by decide +kernel)
theorem q_107 : .fieldLink RX8 9 "ChainsHold$Smith" "base" "[I" ∈ gW := gW_in (i := 107) (by decide +kernel) (by decide +kernel)
theorem q_108 : .fieldLink RX2 31 "ChainsHold$Smith" "base" "[I" ∈ gW := gW_in (i := 108) (by decide +kernel) (by decide +kernel)
theorem q_109 : .fieldLink RX8 15 "ChainsHold$Smith" "round" "[I" ∈ gW := gW_in (i := 109) (by decide +kernel) (by decide +kernel)
theorem q_110 : .fieldLink RX1 58 "ChainsHold$Smith" "round" "[I" ∈ gW := gW_in (i := 110) (by decide +kernel) (by decide +kernel)
theorem q_111 : .fieldLink RX8 18 "ChainsHold$Smith" "slack" "[I" ∈ gW := gW_in (i := 111) (by decide +kernel) (by decide +kernel)
theorem q_112 : .fieldLink RX8 21 "ChainsHold$Smith" "whose" "[I" ∈ gW := gW_in (i := 112) (by decide +kernel) (by decide +kernel)
theorem q_113 : .fieldLink RX1 51 "ChainsHold$Smith" "whose" "[I" ∈ gW := gW_in (i := 113) (by decide +kernel) (by decide +kernel)
theorem q_114 : .fieldLink RX2 82 "ChainsHold$Smith" "whose" "[I" ∈ gW := gW_in (i := 114) (by decide +kernel) (by decide +kernel)
theorem q_115 : .fieldLink RX10 232 "ChainsHold$Smith" "whose" "[I" ∈ gW := gW_in (i := 115) (by decide +kernel) (by decide +kernel)
theorem q_116 : .fieldLink RX8 24 "ChainsHold$Smith" "made" "[I" ∈ gW := gW_in (i := 116) (by decide +kernel) (by decide +kernel)
theorem q_117 : .fieldLink RX2 44 "ChainsHold$Smith" "made" "[I" ∈ gW := gW_in (i := 117) (by decide +kernel) (by decide +kernel)
theorem q_118 : .fieldLink RX9 52 "ChainsHold$Smith" "made" "[I" ∈ gW := gW_in (i := 118) (by decide +kernel) (by decide +kernel)
theorem q_119 : .fieldLink RX8 27 "ChainsHold$Smith" "due" "[I" ∈ gW := gW_in (i := 119) (by decide +kernel) (by decide +kernel)
theorem q_120 : .fieldLink RX1 38 "ChainsHold$Smith" "due" "[I" ∈ gW := gW_in (i := 120) (by decide +kernel) (by decide +kernel)
theorem q_121 : .fieldLink RX9 62 "ChainsHold$Smith" "due" "[I" ∈ gW := gW_in (i := 121) (by decide +kernel) (by decide +kernel)
theorem q_122 : .fieldLink RX8 30 "ChainsHold$Smith" "links" "[I" ∈ gW := gW_in (i := 122) (by decide +kernel) (by decide +kernel)
theorem q_123 : .fieldLink RX1 42 "ChainsHold$Smith" "links" "[I" ∈ gW := gW_in (i := 123) (by decide +kernel) (by decide +kernel)
theorem q_124 : .fieldLink RX2 47 "ChainsHold$Smith" "links" "[I" ∈ gW := gW_in (i := 124) (by decide +kernel) (by decide +kernel)
theorem q_125 : .fieldLink RX4 62 "ChainsHold$Smith" "links" "[I" ∈ gW := gW_in (i := 125) (by decide +kernel) (by decide +kernel)
theorem q_126 : .fieldLink RX9 68 "ChainsHold$Smith" "links" "[I" ∈ gW := gW_in (i := 126) (by decide +kernel) (by decide +kernel)
theorem q_127 : .fieldLink RX8 33 "ChainsHold$Smith" "kept" "[I" ∈ gW := gW_in (i := 127) (by decide +kernel) (by decide +kernel)
theorem q_128 : .fieldLink RX2 56 "ChainsHold$Smith" "kept" "[I" ∈ gW := gW_in (i := 128) (by decide +kernel) (by decide +kernel)
theorem q_129 : .fieldLink RX3 40 "ChainsHold$Smith" "kept" "[I" ∈ gW := gW_in (i := 129) (by decide +kernel) (by decide +kernel)
theorem q_130 : .fieldLink RX1 110 "ChainsHold$Smith" "kept" "[I" ∈ gW := gW_in (i := 130) (by decide +kernel) (by decide +kernel)
theorem q_131 : .fieldLink RX8 36 "ChainsHold$Smith" "with" "[I" ∈ gW := gW_in (i := 131) (by decide +kernel) (by decide +kernel)
theorem q_132 : .fieldLink RX8 39 "ChainsHold$Smith" "people" "I" ∈ gW := gW_in (i := 132) (by decide +kernel) (by decide +kernel)
theorem q_133 : .fieldLink RX10 87 "ChainsHold$Smith" "people" "I" ∈ gW := gW_in (i := 133) (by decide +kernel) (by decide +kernel)
theorem q_134 : .fieldLink RX1 104 "ChainsHold$Smith" "people" "I" ∈ gW := gW_in (i := 134) (by decide +kernel) (by decide +kernel)
theorem q_135 : .fieldLink RX2 67 "ChainsHold$Smith" "people" "I" ∈ gW := gW_in (i := 135) (by decide +kernel) (by decide +kernel)
theorem q_136 : .fieldLink RX2 36 "ChainsHold$Smith" "promises" "I" ∈ gW := gW_in (i := 136) (by decide +kernel) (by decide +kernel)
theorem q_137 : .fieldLink RX8 43 "ChainsHold$Smith" "promises" "I" ∈ gW := gW_in (i := 137) (by decide +kernel) (by decide +kernel)
theorem q_138 : .fieldLink RX1 77 "ChainsHold$Smith" "promises" "I" ∈ gW := gW_in (i := 138) (by decide +kernel) (by decide +kernel)
theorem q_139 : .fieldLink RX3 52 "ChainsHold$Smith" "promises" "I" ∈ gW := gW_in (i := 139) (by decide +kernel) (by decide +kernel)
theorem q_140 : .fieldLink RX9 43 "ChainsHold$Smith" "promises" "I" ∈ gW := gW_in (i := 140) (by decide +kernel) (by decide +kernel)
theorem q_141 : .fieldLink RX4 55 "ChainsHold$Smith" "promises" "I" ∈ gW := gW_in (i := 141) (by decide +kernel) (by decide +kernel)
theorem q_142 : .fieldLink RX10 376 "ChainsHold$Smith" "promises" "I" ∈ gW := gW_in (i := 142) (by decide +kernel) (by decide +kernel)
theorem q_173 : .fieldLink RX5 25 "ChainsHold$Law" "fed" "I" ∈ gW := gW_in (i := 173) (by decide +kernel) (by decide +kernel)
theorem q_174 : .fieldLink RX10 144 "ChainsHold$Law" "fed" "I" ∈ gW := gW_in (i := 174) (by decide +kernel) (by decide +kernel)
theorem q_175 : .fieldLink RX5 9 "ChainsHold$Law" "tape" "[I" ∈ gW := gW_in (i := 175) (by decide +kernel) (by decide +kernel)
theorem q_176 : .fieldLink RX5 13 "ChainsHold$Law" "signs" "[I" ∈ gW := gW_in (i := 176) (by decide +kernel) (by decide +kernel)
theorem q_177 : .fieldLink RX5 16 "ChainsHold$Law" "draft" "[I" ∈ gW := gW_in (i := 177) (by decide +kernel) (by decide +kernel)
theorem q_178 : .fieldLink RX5 19 "ChainsHold$Law" "stack" "[I" ∈ gW := gW_in (i := 178) (by decide +kernel) (by decide +kernel)
theorem q_179 : .fieldLink RX5 22 "ChainsHold$Law" "told" "[I" ∈ gW := gW_in (i := 179) (by decide +kernel) (by decide +kernel)
theorem q_180 : .fieldLink RX5 29 "ChainsHold$Law" "length" "I" ∈ gW := gW_in (i := 180) (by decide +kernel) (by decide +kernel)
theorem q_181 : .fieldLink RX5 35 "ChainsHold$Law" "drafted" "I" ∈ gW := gW_in (i := 181) (by decide +kernel) (by decide +kernel)
theorem q_182 : .fieldLink RX5 32 "ChainsHold$Law" "place" "I" ∈ gW := gW_in (i := 182) (by decide +kernel) (by decide +kernel)
theorem q_183 : .fieldLink RX5 38 "ChainsHold$Law" "fault" "I" ∈ gW := gW_in (i := 183) (by decide +kernel) (by decide +kernel)
theorem q_212 : .static yJ7_fill_53178 ∈ gW := gW_in (i := 212) (by decide +kernel) (by decide +kernel)
theorem q_213 : .code yJ7_fill_53178 cJ7_fill_53178 4 none ∈ gW := gW_in (i := 213) (by decide +kernel) (by decide +kernel)
theorem q_214 : .fieldLink RX7 11 "ChainsHold$Shelves" "sizes" "[I" ∈ gW := gW_in (i := 214) (by decide +kernel) (by decide +kernel)
theorem q_215 : .fieldLink RX1 91 "ChainsHold$Shelves" "sizes" "[I" ∈ gW := gW_in (i := 215) (by decide +kernel) (by decide +kernel)
theorem q_216 : .fieldLink RX7 15 "ChainsHold$Shelves" "bodies" "[I" ∈ gW := gW_in (i := 216) (by decide +kernel) (by decide +kernel)
theorem q_217 : .fieldLink RX10 367 "ChainsHold$Shelves" "bodies" "[I" ∈ gW := gW_in (i := 217) (by decide +kernel) (by decide +kernel)
theorem q_218 : .fieldLink RX7 18 "ChainsHold$Shelves" "holds" "[I" ∈ gW := gW_in (i := 218) (by decide +kernel) (by decide +kernel)
theorem q_219 : .fieldLink RX7 21 "ChainsHold$Shelves" "elements" "[J" ∈ gW := gW_in (i := 219) (by decide +kernel) (by decide +kernel)
theorem q_236 : .fieldLink RX6 18 "ChainsHold$Links" "size" "I" ∈ gW := gW_in (i := 236) (by decide +kernel) (by decide +kernel)
theorem q_237 : .fieldLink RX10 315 "ChainsHold$Links" "size" "I" ∈ gW := gW_in (i := 237) (by decide +kernel) (by decide +kernel)
theorem q_238 : .fieldLink RX6 29 "ChainsHold$Links" "ran" "I" ∈ gW := gW_in (i := 238) (by decide +kernel) (by decide +kernel)
theorem q_239 : .fieldLink RX10 323 "ChainsHold$Links" "ran" "I" ∈ gW := gW_in (i := 239) (by decide +kernel) (by decide +kernel)
theorem q_240 : .fieldLink RX6 11 "ChainsHold$Links" "traced" "[I" ∈ gW := gW_in (i := 240) (by decide +kernel) (by decide +kernel)
theorem q_241 : .fieldLink RX10 331 "ChainsHold$Links" "traced" "[I" ∈ gW := gW_in (i := 241) (by decide +kernel) (by decide +kernel)
theorem q_242 : .fieldLink RX6 15 "ChainsHold$Links" "kinds" "[I" ∈ gW := gW_in (i := 242) (by decide +kernel) (by decide +kernel)
theorem q_243 : .fieldLink RX6 36 "ChainsHold$Links" "acting" "I" ∈ gW := gW_in (i := 243) (by decide +kernel) (by decide +kernel)
theorem q_261 : .fieldLink RX0 22 "ChainsHold$Changes" "standing" "I" ∈ gW := gW_in (i := 261) (by decide +kernel) (by decide +kernel)
theorem q_262 : .fieldLink RX10 303 "ChainsHold$Changes" "standing" "I" ∈ gW := gW_in (i := 262) (by decide +kernel) (by decide +kernel)
theorem q_263 : .fieldLink RX0 29 "ChainsHold$Changes" "all" "I" ∈ gW := gW_in (i := 263) (by decide +kernel) (by decide +kernel)
theorem q_264 : .fieldLink RX10 309 "ChainsHold$Changes" "all" "I" ∈ gW := gW_in (i := 264) (by decide +kernel) (by decide +kernel)
theorem q_265 : .fieldLink RX0 9 "ChainsHold$Changes" "numbers" "[I" ∈ gW := gW_in (i := 265) (by decide +kernel) (by decide +kernel)
theorem q_266 : .fieldLink RX0 13 "ChainsHold$Changes" "whats" "[I" ∈ gW := gW_in (i := 266) (by decide +kernel) (by decide +kernel)
theorem q_267 : .fieldLink RX0 16 "ChainsHold$Changes" "befores" "[I" ∈ gW := gW_in (i := 267) (by decide +kernel) (by decide +kernel)
theorem q_268 : .fieldLink RX0 19 "ChainsHold$Changes" "afters" "[I" ∈ gW := gW_in (i := 268) (by decide +kernel) (by decide +kernel)
theorem q_288 : .fieldLink RX2 21 "ChainsHold$Days" "smith" "LChainsHold$Smith;" ∈ gW := gW_in (i := 288) (by decide +kernel) (by decide +kernel)
theorem q_289 : .fieldLink RX2 9 "ChainsHold$Days" "lengths" "[I" ∈ gW := gW_in (i := 289) (by decide +kernel) (by decide +kernel)
theorem q_290 : .fieldLink RX2 15 "ChainsHold$Days" "riders" "[I" ∈ gW := gW_in (i := 290) (by decide +kernel) (by decide +kernel)
theorem q_291 : .fieldLink RX2 18 "ChainsHold$Days" "drawnKepts" "[I" ∈ gW := gW_in (i := 291) (by decide +kernel) (by decide +kernel)
theorem q_307 : .fieldLink RX4 9 "ChainsHold$Keeping" "smith" "LChainsHold$Smith;" ∈ gW := gW_in (i := 307) (by decide +kernel) (by decide +kernel)
theorem q_317 : .fieldLink RX9 15 "ChainsHold$Work" "smith" "LChainsHold$Smith;" ∈ gW := gW_in (i := 317) (by decide +kernel) (by decide +kernel)
theorem q_318 : .fieldLink RX9 9 "ChainsHold$Work" "fits" "[Z" ∈ gW := gW_in (i := 318) (by decide +kernel) (by decide +kernel)
theorem q_331 : .fieldLink RX1 20 "ChainsHold$Creaks" "smith" "LChainsHold$Smith;" ∈ gW := gW_in (i := 331) (by decide +kernel) (by decide +kernel)
theorem q_332 : .fieldLink RX1 24 "ChainsHold$Creaks" "law" "LChainsHold$Law;" ∈ gW := gW_in (i := 332) (by decide +kernel) (by decide +kernel)
theorem q_333 : .fieldLink RX1 28 "ChainsHold$Creaks" "shelves" "LChainsHold$Shelves;" ∈ gW := gW_in (i := 333) (by decide +kernel) (by decide +kernel)
theorem q_334 : .fieldLink RX1 11 "ChainsHold$Creaks" "soIfOpen" "[Z" ∈ gW := gW_in (i := 334) (by decide +kernel) (by decide +kernel)
theorem q_335 : .fieldLink RX1 17 "ChainsHold$Creaks" "soIfKept" "[Z" ∈ gW := gW_in (i := 335) (by decide +kernel) (by decide +kernel)
theorem q_353 : .fieldLink RX3 11 "ChainsHold$Deeds" "led" "[I" ∈ gW := gW_in (i := 353) (by decide +kernel) (by decide +kernel)
theorem q_354 : .fieldLink RX10 290 "ChainsHold$Deeds" "led" "[I" ∈ gW := gW_in (i := 354) (by decide +kernel) (by decide +kernel)
theorem q_355 : .fieldLink RX3 59 "ChainsHold$Deeds" "hasImage" "Z" ∈ gW := gW_in (i := 355) (by decide +kernel) (by decide +kernel)
theorem q_356 : .fieldLink RX10 296 "ChainsHold$Deeds" "hasImage" "Z" ∈ gW := gW_in (i := 356) (by decide +kernel) (by decide +kernel)
theorem q_357 : .fieldLink RX3 21 "ChainsHold$Deeds" "smith" "LChainsHold$Smith;" ∈ gW := gW_in (i := 357) (by decide +kernel) (by decide +kernel)
theorem q_358 : .fieldLink RX3 15 "ChainsHold$Deeds" "imageLed" "[I" ∈ gW := gW_in (i := 358) (by decide +kernel) (by decide +kernel)
theorem q_359 : .fieldLink RX3 18 "ChainsHold$Deeds" "imageKept" "[I" ∈ gW := gW_in (i := 359) (by decide +kernel) (by decide +kernel)
theorem q_360 : .fieldLink RX3 56 "ChainsHold$Deeds" "imagePromises" "I" ∈ gW := gW_in (i := 360) (by decide +kernel) (by decide +kernel)
theorem q_374 : .fieldLink RX10 10 "ChainsHold" "smith" "LChainsHold$Smith;" ∈ gW := gW_in (i := 374) (by decide +kernel) (by decide +kernel)
theorem q_375 : .fieldLink RX10 19 "ChainsHold" "law" "LChainsHold$Law;" ∈ gW := gW_in (i := 375) (by decide +kernel) (by decide +kernel)
theorem q_376 : .fieldLink RX10 49 "ChainsHold" "days" "LChainsHold$Days;" ∈ gW := gW_in (i := 376) (by decide +kernel) (by decide +kernel)
theorem q_377 : .fieldLink RX10 56 "ChainsHold" "keeping" "LChainsHold$Keeping;" ∈ gW := gW_in (i := 377) (by decide +kernel) (by decide +kernel)
theorem q_378 : .fieldLink RX10 63 "ChainsHold" "work" "LChainsHold$Work;" ∈ gW := gW_in (i := 378) (by decide +kernel) (by decide +kernel)
theorem q_379 : .fieldLink RX10 72 "ChainsHold" "creaks" "LChainsHold$Creaks;" ∈ gW := gW_in (i := 379) (by decide +kernel) (by decide +kernel)
theorem q_380 : .fieldLink RX10 79 "ChainsHold" "deeds" "LChainsHold$Deeds;" ∈ gW := gW_in (i := 380) (by decide +kernel) (by decide +kernel)
theorem q_381 : .fieldLink RX10 40 "ChainsHold" "changes" "LChainsHold$Changes;" ∈ gW := gW_in (i := 381) (by decide +kernel) (by decide +kernel)
theorem q_382 : .fieldLink RX10 33 "ChainsHold" "links" "LChainsHold$Links;" ∈ gW := gW_in (i := 382) (by decide +kernel) (by decide +kernel)
theorem q_383 : .fieldLink RX10 26 "ChainsHold" "shelves" "LChainsHold$Shelves;" ∈ gW := gW_in (i := 383) (by decide +kernel) (by decide +kernel)
theorem q_409 : .methodLink RX10 83 yX10_within ∈ gW := gW_in (i := 409) (by decide +kernel) (by decide +kernel)
theorem q_410 : .static yX10_within ∈ gW := gW_in (i := 410) (by decide +kernel) (by decide +kernel)
theorem q_411 : .code yX10_within cX10_within 3 (some .boolean) ∈ gW := gW_in (i := 411) (by decide +kernel) (by decide +kernel)
theorem q_412 : .methodLink RX10 91 yX8_addOne ∈ gW := gW_in (i := 412) (by decide +kernel) (by decide +kernel)
theorem q_413 : .instanceMethod yX8_addOne ∈ gW := gW_in (i := 413) (by decide +kernel) (by decide +kernel)
theorem q_414 : .selects RX8 yX8_addOne yX8_addOne ∈ gW := gW_in (i := 414) (by decide +kernel) (by decide +kernel)
theorem q_415 : .code yX8_addOne cX8_addOne 3 (some .int) ∈ gW := gW_in (i := 415) (by decide +kernel) (by decide +kernel)
theorem q_420 : .methodLink RX10 95 yX8_canPromise ∈ gW := gW_in (i := 420) (by decide +kernel) (by decide +kernel)
theorem q_421 : .instanceMethod yX8_canPromise ∈ gW := gW_in (i := 421) (by decide +kernel) (by decide +kernel)
theorem q_422 : .selects RX8 yX8_canPromise yX8_canPromise ∈ gW := gW_in (i := 422) (by decide +kernel) (by decide +kernel)
theorem q_423 : .code yX8_canPromise cX8_canPromise 5 (some .boolean) ∈ gW := gW_in (i := 423) (by decide +kernel) (by decide +kernel)
theorem q_424 : .methodLink RX8 46 yX8_isOne ∈ gW := gW_in (i := 424) (by decide +kernel) (by decide +kernel)
theorem q_425 : .instanceMethod yX8_isOne ∈ gW := gW_in (i := 425) (by decide +kernel) (by decide +kernel)
theorem q_426 : .selects RX8 yX8_isOne yX8_isOne ∈ gW := gW_in (i := 426) (by decide +kernel) (by decide +kernel)
theorem q_427 : .code yX8_isOne cX8_isOne 2 (some .boolean) ∈ gW := gW_in (i := 427) (by decide +kernel) (by decide +kernel)
theorem q_429 : .static yX10_isDay ∈ gW := gW_in (i := 429) (by decide +kernel) (by decide +kernel)
theorem q_430 : .code yX10_isDay cX10_isDay 1 (some .boolean) ∈ gW := gW_in (i := 430) (by decide +kernel) (by decide +kernel)
theorem q_432 : .methodLink RX10 99 yX8_isFull ∈ gW := gW_in (i := 432) (by decide +kernel) (by decide +kernel)
theorem q_433 : .instanceMethod yX8_isFull ∈ gW := gW_in (i := 433) (by decide +kernel) (by decide +kernel)
theorem q_434 : .selects RX8 yX8_isFull yX8_isFull ∈ gW := gW_in (i := 434) (by decide +kernel) (by decide +kernel)
theorem q_435 : .code yX8_isFull cX8_isFull 1 (some .boolean) ∈ gW := gW_in (i := 435) (by decide +kernel) (by decide +kernel)
theorem q_436 : .methodLink RX10 103 yX8_addPromise ∈ gW := gW_in (i := 436) (by decide +kernel) (by decide +kernel)
theorem q_437 : .instanceMethod yX8_addPromise ∈ gW := gW_in (i := 437) (by decide +kernel) (by decide +kernel)
theorem q_438 : .selects RX8 yX8_addPromise yX8_addPromise ∈ gW := gW_in (i := 438) (by decide +kernel) (by decide +kernel)
theorem q_439 : .code yX8_addPromise cX8_addPromise 5 (some .int) ∈ gW := gW_in (i := 439) (by decide +kernel) (by decide +kernel)
theorem q_444 : .methodLink RX10 107 yX7_isShelf ∈ gW := gW_in (i := 444) (by decide +kernel) (by decide +kernel)
theorem q_445 : .instanceMethod yX7_isShelf ∈ gW := gW_in (i := 445) (by decide +kernel) (by decide +kernel)
theorem q_446 : .selects RX7 yX7_isShelf yX7_isShelf ∈ gW := gW_in (i := 446) (by decide +kernel) (by decide +kernel)
theorem q_447 : .code yX7_isShelf cX7_isShelf 2 (some .boolean) ∈ gW := gW_in (i := 447) (by decide +kernel) (by decide +kernel)
theorem q_448 : .methodLink RX10 111 yX7_refusalOfRow ∈ gW := gW_in (i := 448) (by decide +kernel) (by decide +kernel)
theorem q_449 : .instanceMethod yX7_refusalOfRow ∈ gW := gW_in (i := 449) (by decide +kernel) (by decide +kernel)
theorem q_450 : .selects RX7 yX7_refusalOfRow yX7_refusalOfRow ∈ gW := gW_in (i := 450) (by decide +kernel) (by decide +kernel)
theorem q_451 : .code yX7_refusalOfRow cX7_refusalOfRow 3 (some .int) ∈ gW := gW_in (i := 451) (by decide +kernel) (by decide +kernel)
theorem q_452 : .methodLink RX10 114 yX10_promisesFromRow ∈ gW := gW_in (i := 452) (by decide +kernel) (by decide +kernel)
theorem q_454 : .instanceMethod yX10_promisesFromRow ∈ gW := gW_in (i := 454) (by decide +kernel) (by decide +kernel)
theorem q_455 : .code yX10_promisesFromRow cX10_promisesFromRow 10 (some .int) ∈ gW := gW_in (i := 455) (by decide +kernel) (by decide +kernel)
theorem q_456 : .methodLink RX10 118 yX7_hasPlaces ∈ gW := gW_in (i := 456) (by decide +kernel) (by decide +kernel)
theorem q_457 : .instanceMethod yX7_hasPlaces ∈ gW := gW_in (i := 457) (by decide +kernel) (by decide +kernel)
theorem q_458 : .selects RX7 yX7_hasPlaces yX7_hasPlaces ∈ gW := gW_in (i := 458) (by decide +kernel) (by decide +kernel)
theorem q_459 : .code yX7_hasPlaces cX7_hasPlaces 4 (some .boolean) ∈ gW := gW_in (i := 459) (by decide +kernel) (by decide +kernel)
theorem q_460 : .methodLink RX10 121 yX7_elementAt ∈ gW := gW_in (i := 460) (by decide +kernel) (by decide +kernel)
theorem q_461 : .instanceMethod yX7_elementAt ∈ gW := gW_in (i := 461) (by decide +kernel) (by decide +kernel)
theorem q_462 : .selects RX7 yX7_elementAt yX7_elementAt ∈ gW := gW_in (i := 462) (by decide +kernel) (by decide +kernel)
theorem q_463 : .code yX7_elementAt cX7_elementAt 3 (some .long) ∈ gW := gW_in (i := 463) (by decide +kernel) (by decide +kernel)
theorem q_468 : .methodLink RX10 125 yX8_has ∈ gW := gW_in (i := 468) (by decide +kernel) (by decide +kernel)
theorem q_469 : .instanceMethod yX8_has ∈ gW := gW_in (i := 469) (by decide +kernel) (by decide +kernel)
theorem q_470 : .selects RX8 yX8_has yX8_has ∈ gW := gW_in (i := 470) (by decide +kernel) (by decide +kernel)
theorem q_471 : .code yX8_has cX8_has 3 (some .boolean) ∈ gW := gW_in (i := 471) (by decide +kernel) (by decide +kernel)
theorem q_472 : .methodLink RX8 57 yX8_isPromise ∈ gW := gW_in (i := 472) (by decide +kernel) (by decide +kernel)
theorem q_473 : .instanceMethod yX8_isPromise ∈ gW := gW_in (i := 473) (by decide +kernel) (by decide +kernel)
theorem q_474 : .selects RX8 yX8_isPromise yX8_isPromise ∈ gW := gW_in (i := 474) (by decide +kernel) (by decide +kernel)
theorem q_475 : .code yX8_isPromise cX8_isPromise 2 (some .boolean) ∈ gW := gW_in (i := 475) (by decide +kernel) (by decide +kernel)
theorem q_476 : .methodLink RX10 129 yX8_canBecome ∈ gW := gW_in (i := 476) (by decide +kernel) (by decide +kernel)
theorem q_477 : .instanceMethod yX8_canBecome ∈ gW := gW_in (i := 477) (by decide +kernel) (by decide +kernel)
theorem q_478 : .selects RX8 yX8_canBecome yX8_canBecome ∈ gW := gW_in (i := 478) (by decide +kernel) (by decide +kernel)
theorem q_479 : .code yX8_canBecome cX8_canBecome 4 (some .boolean) ∈ gW := gW_in (i := 479) (by decide +kernel) (by decide +kernel)
theorem q_480 : .constant RX10 132 (-2000000000) ∈ gW := gW_in (i := 480) (by decide +kernel) (by decide +kernel)
theorem q_481 : .methodLink RX10 133 yX8_numberOf ∈ gW := gW_in (i := 481) (by decide +kernel) (by decide +kernel)
theorem q_482 : .instanceMethod yX8_numberOf ∈ gW := gW_in (i := 482) (by decide +kernel) (by decide +kernel)
theorem q_483 : .selects RX8 yX8_numberOf yX8_numberOf ∈ gW := gW_in (i := 483) (by decide +kernel) (by decide +kernel)
theorem q_484 : .code yX8_numberOf cX8_numberOf 3 (some .int) ∈ gW := gW_in (i := 484) (by decide +kernel) (by decide +kernel)
theorem q_485 : .methodLink RX8 60 yX8_rowOf ∈ gW := gW_in (i := 485) (by decide +kernel) (by decide +kernel)
theorem q_487 : .instanceMethod yX8_rowOf ∈ gW := gW_in (i := 487) (by decide +kernel) (by decide +kernel)
theorem q_488 : .code yX8_rowOf cX8_rowOf 2 (some (.array .int)) ∈ gW := gW_in (i := 488) (by decide +kernel) (by decide +kernel)
theorem q_489 : .methodLink RX10 136 yX0_add ∈ gW := gW_in (i := 489) (by decide +kernel) (by decide +kernel)
theorem q_490 : .instanceMethod yX0_add ∈ gW := gW_in (i := 490) (by decide +kernel) (by decide +kernel)
theorem q_491 : .selects RX0 yX0_add yX0_add ∈ gW := gW_in (i := 491) (by decide +kernel) (by decide +kernel)
theorem q_492 : .code yX0_add cX0_add 5 none ∈ gW := gW_in (i := 492) (by decide +kernel) (by decide +kernel)
theorem q_493 : .methodLink RX0 26 yX0_dropOldest ∈ gW := gW_in (i := 493) (by decide +kernel) (by decide +kernel)
theorem q_495 : .instanceMethod yX0_dropOldest ∈ gW := gW_in (i := 495) (by decide +kernel) (by decide +kernel)
theorem q_496 : .code yX0_dropOldest cX0_dropOldest 1 none ∈ gW := gW_in (i := 496) (by decide +kernel) (by decide +kernel)
theorem q_497 : .methodLink RX0 32 arraycopyName ∈ gW := gW_in (i := 497) (by decide +kernel) (by decide +kernel)
theorem q_500 : .methodLink RX10 140 yX8_become ∈ gW := gW_in (i := 500) (by decide +kernel) (by decide +kernel)
theorem q_501 : .instanceMethod yX8_become ∈ gW := gW_in (i := 501) (by decide +kernel) (by decide +kernel)
theorem q_502 : .selects RX8 yX8_become yX8_become ∈ gW := gW_in (i := 502) (by decide +kernel) (by decide +kernel)
theorem q_503 : .code yX8_become cX8_become 4 none ∈ gW := gW_in (i := 503) (by decide +kernel) (by decide +kernel)
theorem q_512 : .methodLink RX10 147 yX5_take ∈ gW := gW_in (i := 512) (by decide +kernel) (by decide +kernel)
theorem q_513 : .instanceMethod yX5_take ∈ gW := gW_in (i := 513) (by decide +kernel) (by decide +kernel)
theorem q_514 : .selects RX5 yX5_take yX5_take ∈ gW := gW_in (i := 514) (by decide +kernel) (by decide +kernel)
theorem q_515 : .code yX5_take cX5_take 2 (some .int) ∈ gW := gW_in (i := 515) (by decide +kernel) (by decide +kernel)
theorem q_520 : .methodLink RX10 151 yX5_read ∈ gW := gW_in (i := 520) (by decide +kernel) (by decide +kernel)
theorem q_521 : .instanceMethod yX5_read ∈ gW := gW_in (i := 521) (by decide +kernel) (by decide +kernel)
theorem q_522 : .selects RX5 yX5_read yX5_read ∈ gW := gW_in (i := 522) (by decide +kernel) (by decide +kernel)
theorem q_523 : .code yX5_read cX5_read 2 (some .int) ∈ gW := gW_in (i := 523) (by decide +kernel) (by decide +kernel)
theorem q_524 : .methodLink RX5 41 yX5_readLine ∈ gW := gW_in (i := 524) (by decide +kernel) (by decide +kernel)
theorem q_526 : .instanceMethod yX5_readLine ∈ gW := gW_in (i := 526) (by decide +kernel) (by decide +kernel)
theorem q_527 : .code yX5_readLine cX5_readLine 1 none ∈ gW := gW_in (i := 527) (by decide +kernel) (by decide +kernel)
theorem q_528 : .methodLink RX5 57 yX5_readLevel ∈ gW := gW_in (i := 528) (by decide +kernel) (by decide +kernel)
theorem q_530 : .instanceMethod yX5_readLevel ∈ gW := gW_in (i := 530) (by decide +kernel) (by decide +kernel)
theorem q_531 : .code yX5_readLevel cX5_readLevel 6 none ∈ gW := gW_in (i := 531) (by decide +kernel) (by decide +kernel)
theorem q_532 : .methodLink RX5 65 yX5_readOperand ∈ gW := gW_in (i := 532) (by decide +kernel) (by decide +kernel)
theorem q_534 : .instanceMethod yX5_readOperand ∈ gW := gW_in (i := 534) (by decide +kernel) (by decide +kernel)
theorem q_535 : .code yX5_readOperand cX5_readOperand 3 none ∈ gW := gW_in (i := 535) (by decide +kernel) (by decide +kernel)
theorem q_536 : .methodLink RX5 44 yX5_next ∈ gW := gW_in (i := 536) (by decide +kernel) (by decide +kernel)
theorem q_538 : .instanceMethod yX5_next ∈ gW := gW_in (i := 538) (by decide +kernel) (by decide +kernel)
theorem q_539 : .code yX5_next cX5_next 1 (some .int) ∈ gW := gW_in (i := 539) (by decide +kernel) (by decide +kernel)
theorem q_540 : .methodLink RX5 72 yX5_isDigit ∈ gW := gW_in (i := 540) (by decide +kernel) (by decide +kernel)
theorem q_541 : .static yX5_isDigit ∈ gW := gW_in (i := 541) (by decide +kernel) (by decide +kernel)
theorem q_542 : .code yX5_isDigit cX5_isDigit 1 (some .boolean) ∈ gW := gW_in (i := 542) (by decide +kernel) (by decide +kernel)
theorem q_543 : .methodLink RX5 76 yX5_readNumber ∈ gW := gW_in (i := 543) (by decide +kernel) (by decide +kernel)
theorem q_545 : .instanceMethod yX5_readNumber ∈ gW := gW_in (i := 545) (by decide +kernel) (by decide +kernel)
theorem q_546 : .code yX5_readNumber cX5_readNumber 3 none ∈ gW := gW_in (i := 546) (by decide +kernel) (by decide +kernel)
theorem q_547 : .methodLink RX5 61 yX5_write ∈ gW := gW_in (i := 547) (by decide +kernel) (by decide +kernel)
theorem q_549 : .instanceMethod yX5_write ∈ gW := gW_in (i := 549) (by decide +kernel) (by decide +kernel)
theorem q_550 : .code yX5_write cX5_write 2 none ∈ gW := gW_in (i := 550) (by decide +kernel) (by decide +kernel)
theorem q_551 : .methodLink RX5 79 yX5_nameOf ∈ gW := gW_in (i := 551) (by decide +kernel) (by decide +kernel)
theorem q_552 : .static yX5_nameOf ∈ gW := gW_in (i := 552) (by decide +kernel) (by decide +kernel)
theorem q_553 : .code yX5_nameOf cX5_nameOf 1 (some .int) ∈ gW := gW_in (i := 553) (by decide +kernel) (by decide +kernel)
theorem q_554 : .methodLink RX5 82 yX5_readOpened ∈ gW := gW_in (i := 554) (by decide +kernel) (by decide +kernel)
theorem q_556 : .instanceMethod yX5_readOpened ∈ gW := gW_in (i := 556) (by decide +kernel) (by decide +kernel)
theorem q_557 : .code yX5_readOpened cX5_readOpened 3 none ∈ gW := gW_in (i := 557) (by decide +kernel) (by decide +kernel)
theorem q_558 : .methodLink RX5 48 yX5_fail ∈ gW := gW_in (i := 558) (by decide +kernel) (by decide +kernel)
theorem q_560 : .instanceMethod yX5_fail ∈ gW := gW_in (i := 560) (by decide +kernel) (by decide +kernel)
theorem q_561 : .code yX5_fail cX5_fail 1 none ∈ gW := gW_in (i := 561) (by decide +kernel) (by decide +kernel)
theorem q_562 : .methodLink RX5 68 yX5_levelOf ∈ gW := gW_in (i := 562) (by decide +kernel) (by decide +kernel)
theorem q_563 : .static yX5_levelOf ∈ gW := gW_in (i := 563) (by decide +kernel) (by decide +kernel)
theorem q_564 : .code yX5_levelOf cX5_levelOf 1 (some .int) ∈ gW := gW_in (i := 564) (by decide +kernel) (by decide +kernel)
theorem q_565 : .methodLink RX5 51 arraycopyName ∈ gW := gW_in (i := 565) (by decide +kernel) (by decide +kernel)
theorem q_570 : .methodLink RX10 155 yX8_isOne ∈ gW := gW_in (i := 570) (by decide +kernel) (by decide +kernel)
theorem q_571 : .methodLink RX10 158 yX10_isDay ∈ gW := gW_in (i := 571) (by decide +kernel) (by decide +kernel)
theorem q_572 : .methodLink RX10 161 yX8_lengthOn ∈ gW := gW_in (i := 572) (by decide +kernel) (by decide +kernel)
theorem q_573 : .instanceMethod yX8_lengthOn ∈ gW := gW_in (i := 573) (by decide +kernel) (by decide +kernel)
theorem q_574 : .selects RX8 yX8_lengthOn yX8_lengthOn ∈ gW := gW_in (i := 574) (by decide +kernel) (by decide +kernel)
theorem q_575 : .code yX8_lengthOn cX8_lengthOn 5 (some .int) ∈ gW := gW_in (i := 575) (by decide +kernel) (by decide +kernel)
theorem q_576 : .methodLink RX8 68 yX8_concerns ∈ gW := gW_in (i := 576) (by decide +kernel) (by decide +kernel)
theorem q_577 : .instanceMethod yX8_concerns ∈ gW := gW_in (i := 577) (by decide +kernel) (by decide +kernel)
theorem q_578 : .selects RX8 yX8_concerns yX8_concerns ∈ gW := gW_in (i := 578) (by decide +kernel) (by decide +kernel)
theorem q_579 : .code yX8_concerns cX8_concerns 3 (some .boolean) ∈ gW := gW_in (i := 579) (by decide +kernel) (by decide +kernel)
theorem q_580 : .methodLink RX8 64 yX8_isOpen ∈ gW := gW_in (i := 580) (by decide +kernel) (by decide +kernel)
theorem q_581 : .instanceMethod yX8_isOpen ∈ gW := gW_in (i := 581) (by decide +kernel) (by decide +kernel)
theorem q_582 : .selects RX8 yX8_isOpen yX8_isOpen ∈ gW := gW_in (i := 582) (by decide +kernel) (by decide +kernel)
theorem q_583 : .code yX8_isOpen cX8_isOpen 3 (some .boolean) ∈ gW := gW_in (i := 583) (by decide +kernel) (by decide +kernel)
theorem q_584 : .methodLink RX10 164 yX8_ridesOn ∈ gW := gW_in (i := 584) (by decide +kernel) (by decide +kernel)
theorem q_585 : .instanceMethod yX8_ridesOn ∈ gW := gW_in (i := 585) (by decide +kernel) (by decide +kernel)
theorem q_586 : .selects RX8 yX8_ridesOn yX8_ridesOn ∈ gW := gW_in (i := 586) (by decide +kernel) (by decide +kernel)
theorem q_587 : .code yX8_ridesOn cX8_ridesOn 3 (some .boolean) ∈ gW := gW_in (i := 587) (by decide +kernel) (by decide +kernel)
theorem q_588 : .methodLink RX8 71 yX8_lengthOn ∈ gW := gW_in (i := 588) (by decide +kernel) (by decide +kernel)
theorem q_589 : .methodLink RX8 75 yX8_goesRound ∈ gW := gW_in (i := 589) (by decide +kernel) (by decide +kernel)
theorem q_590 : .instanceMethod yX8_goesRound ∈ gW := gW_in (i := 590) (by decide +kernel) (by decide +kernel)
theorem q_591 : .selects RX8 yX8_goesRound yX8_goesRound ∈ gW := gW_in (i := 591) (by decide +kernel) (by decide +kernel)
theorem q_592 : .code yX8_goesRound cX8_goesRound 3 (some .boolean) ∈ gW := gW_in (i := 592) (by decide +kernel) (by decide +kernel)
theorem q_593 : .methodLink RX10 167 yX1_ofOne ∈ gW := gW_in (i := 593) (by decide +kernel) (by decide +kernel)
theorem q_594 : .instanceMethod yX1_ofOne ∈ gW := gW_in (i := 594) (by decide +kernel) (by decide +kernel)
theorem q_595 : .selects RX1 yX1_ofOne yX1_ofOne ∈ gW := gW_in (i := 595) (by decide +kernel) (by decide +kernel)
theorem q_596 : .code yX1_ofOne cX1_ofOne 5 (some .int) ∈ gW := gW_in (i := 596) (by decide +kernel) (by decide +kernel)
theorem q_597 : .methodLink RX1 81 yX8_concerns ∈ gW := gW_in (i := 597) (by decide +kernel) (by decide +kernel)
theorem q_598 : .methodLink RX1 84 yX1_ofPromise ∈ gW := gW_in (i := 598) (by decide +kernel) (by decide +kernel)
theorem q_599 : .instanceMethod yX1_ofPromise ∈ gW := gW_in (i := 599) (by decide +kernel) (by decide +kernel)
theorem q_600 : .selects RX1 yX1_ofPromise yX1_ofPromise ∈ gW := gW_in (i := 600) (by decide +kernel) (by decide +kernel)
theorem q_601 : .code yX1_ofPromise cX1_ofPromise 6 (some .int) ∈ gW := gW_in (i := 601) (by decide +kernel) (by decide +kernel)
theorem q_602 : .methodLink RX1 32 yX8_isOverDue ∈ gW := gW_in (i := 602) (by decide +kernel) (by decide +kernel)
theorem q_603 : .instanceMethod yX8_isOverDue ∈ gW := gW_in (i := 603) (by decide +kernel) (by decide +kernel)
theorem q_604 : .selects RX8 yX8_isOverDue yX8_isOverDue ∈ gW := gW_in (i := 604) (by decide +kernel) (by decide +kernel)
theorem q_605 : .code yX8_isOverDue cX8_isOverDue 3 (some .boolean) ∈ gW := gW_in (i := 605) (by decide +kernel) (by decide +kernel)
theorem q_606 : .methodLink RX1 45 yX5_hasText ∈ gW := gW_in (i := 606) (by decide +kernel) (by decide +kernel)
theorem q_607 : .instanceMethod yX5_hasText ∈ gW := gW_in (i := 607) (by decide +kernel) (by decide +kernel)
theorem q_608 : .selects RX5 yX5_hasText yX5_hasText ∈ gW := gW_in (i := 608) (by decide +kernel) (by decide +kernel)
theorem q_609 : .code yX5_hasText cX5_hasText 1 (some .boolean) ∈ gW := gW_in (i := 609) (by decide +kernel) (by decide +kernel)
theorem q_610 : .methodLink RX1 54 yX8_lengthOn ∈ gW := gW_in (i := 610) (by decide +kernel) (by decide +kernel)
theorem q_611 : .methodLink RX1 61 yX8_isTied ∈ gW := gW_in (i := 611) (by decide +kernel) (by decide +kernel)
theorem q_612 : .instanceMethod yX8_isTied ∈ gW := gW_in (i := 612) (by decide +kernel) (by decide +kernel)
theorem q_613 : .selects RX8 yX8_isTied yX8_isTied ∈ gW := gW_in (i := 613) (by decide +kernel) (by decide +kernel)
theorem q_614 : .code yX8_isTied cX8_isTied 2 (some .boolean) ∈ gW := gW_in (i := 614) (by decide +kernel) (by decide +kernel)
theorem q_615 : .methodLink RX1 65 yX5_valueFor ∈ gW := gW_in (i := 615) (by decide +kernel) (by decide +kernel)
theorem q_616 : .instanceMethod yX5_valueFor ∈ gW := gW_in (i := 616) (by decide +kernel) (by decide +kernel)
theorem q_617 : .selects RX5 yX5_valueFor yX5_valueFor ∈ gW := gW_in (i := 617) (by decide +kernel) (by decide +kernel)
theorem q_618 : .code yX5_valueFor cX5_valueFor 10 (some .int) ∈ gW := gW_in (i := 618) (by decide +kernel) (by decide +kernel)
theorem q_619 : .methodLink RX5 85 yX5_tell ∈ gW := gW_in (i := 619) (by decide +kernel) (by decide +kernel)
theorem q_621 : .instanceMethod yX5_tell ∈ gW := gW_in (i := 621) (by decide +kernel) (by decide +kernel)
theorem q_622 : .code yX5_tell cX5_tell 7 none ∈ gW := gW_in (i := 622) (by decide +kernel) (by decide +kernel)
theorem q_623 : .methodLink RX5 89 yX5_lineEndFrom ∈ gW := gW_in (i := 623) (by decide +kernel) (by decide +kernel)
theorem q_625 : .instanceMethod yX5_lineEndFrom ∈ gW := gW_in (i := 625) (by decide +kernel) (by decide +kernel)
theorem q_626 : .code yX5_lineEndFrom cX5_lineEndFrom 3 (some .int) ∈ gW := gW_in (i := 626) (by decide +kernel) (by decide +kernel)
theorem q_627 : .methodLink RX5 92 yX5_operandsOf ∈ gW := gW_in (i := 627) (by decide +kernel) (by decide +kernel)
theorem q_628 : .static yX5_operandsOf ∈ gW := gW_in (i := 628) (by decide +kernel) (by decide +kernel)
theorem q_629 : .code yX5_operandsOf cX5_operandsOf 1 (some .int) ∈ gW := gW_in (i := 629) (by decide +kernel) (by decide +kernel)
theorem q_630 : .methodLink RX5 95 yJ9_max_7cf53 ∈ gW := gW_in (i := 630) (by decide +kernel) (by decide +kernel)
theorem q_631 : .static yJ9_max_7cf53 ∈ gW := gW_in (i := 631) (by decide +kernel) (by decide +kernel)
theorem q_632 : .code yJ9_max_7cf53 cJ9_max_7cf53 2 (some .int) ∈ gW := gW_in (i := 632) (by decide +kernel) (by decide +kernel)
theorem q_633 : .methodLink RX5 101 yX5_result ∈ gW := gW_in (i := 633) (by decide +kernel) (by decide +kernel)
theorem q_635 : .instanceMethod yX5_result ∈ gW := gW_in (i := 635) (by decide +kernel) (by decide +kernel)
theorem q_636 : .code yX5_result cX5_result 4 (some .int) ∈ gW := gW_in (i := 636) (by decide +kernel) (by decide +kernel)
theorem q_637 : .methodLink RX5 105 yJ9_min_7cf53 ∈ gW := gW_in (i := 637) (by decide +kernel) (by decide +kernel)
theorem q_638 : .static yJ9_min_7cf53 ∈ gW := gW_in (i := 638) (by decide +kernel) (by decide +kernel)
theorem q_639 : .code yJ9_min_7cf53 cJ9_min_7cf53 2 (some .int) ∈ gW := gW_in (i := 639) (by decide +kernel) (by decide +kernel)
theorem q_640 : .methodLink RX1 69 yJ9_min_7cf53 ∈ gW := gW_in (i := 640) (by decide +kernel) (by decide +kernel)
theorem q_641 : .methodLink RX1 74 yJ9_max_7cf53 ∈ gW := gW_in (i := 641) (by decide +kernel) (by decide +kernel)
theorem q_642 : .methodLink RX10 170 yX1_debtOf ∈ gW := gW_in (i := 642) (by decide +kernel) (by decide +kernel)
theorem q_643 : .instanceMethod yX1_debtOf ∈ gW := gW_in (i := 643) (by decide +kernel) (by decide +kernel)
theorem q_644 : .selects RX1 yX1_debtOf yX1_debtOf ∈ gW := gW_in (i := 644) (by decide +kernel) (by decide +kernel)
theorem q_645 : .code yX1_debtOf cX1_debtOf 5 (some .int) ∈ gW := gW_in (i := 645) (by decide +kernel) (by decide +kernel)
theorem q_650 : .methodLink RX10 173 yX8_isPromise ∈ gW := gW_in (i := 650) (by decide +kernel) (by decide +kernel)
theorem q_651 : .methodLink RX10 176 yX1_ofPromise ∈ gW := gW_in (i := 651) (by decide +kernel) (by decide +kernel)
theorem q_656 : .methodLink RX10 179 yX2_firstRideFrom ∈ gW := gW_in (i := 656) (by decide +kernel) (by decide +kernel)
theorem q_657 : .instanceMethod yX2_firstRideFrom ∈ gW := gW_in (i := 657) (by decide +kernel) (by decide +kernel)
theorem q_658 : .selects RX2 yX2_firstRideFrom yX2_firstRideFrom ∈ gW := gW_in (i := 658) (by decide +kernel) (by decide +kernel)
theorem q_659 : .code yX2_firstRideFrom cX2_firstRideFrom 4 (some .int) ∈ gW := gW_in (i := 659) (by decide +kernel) (by decide +kernel)
theorem q_660 : .methodLink RX2 59 yX2_layOut ∈ gW := gW_in (i := 660) (by decide +kernel) (by decide +kernel)
theorem q_662 : .instanceMethod yX2_layOut ∈ gW := gW_in (i := 662) (by decide +kernel) (by decide +kernel)
theorem q_663 : .code yX2_layOut cX2_layOut 5 none ∈ gW := gW_in (i := 663) (by decide +kernel) (by decide +kernel)
theorem q_664 : .methodLink RX2 25 yJ7_fill_53178 ∈ gW := gW_in (i := 664) (by decide +kernel) (by decide +kernel)
theorem q_665 : .methodLink RX2 40 yX8_concerns ∈ gW := gW_in (i := 665) (by decide +kernel) (by decide +kernel)
theorem q_666 : .methodLink RX2 53 yX2_ridesLaidOut ∈ gW := gW_in (i := 666) (by decide +kernel) (by decide +kernel)
theorem q_668 : .instanceMethod yX2_ridesLaidOut ∈ gW := gW_in (i := 668) (by decide +kernel) (by decide +kernel)
theorem q_669 : .code yX2_ridesLaidOut cX2_ridesLaidOut 3 (some .boolean) ∈ gW := gW_in (i := 669) (by decide +kernel) (by decide +kernel)
theorem q_670 : .methodLink RX2 50 yX8_goesRound ∈ gW := gW_in (i := 670) (by decide +kernel) (by decide +kernel)
theorem q_671 : .methodLink RX10 182 yX2_ridesWithin ∈ gW := gW_in (i := 671) (by decide +kernel) (by decide +kernel)
theorem q_672 : .instanceMethod yX2_ridesWithin ∈ gW := gW_in (i := 672) (by decide +kernel) (by decide +kernel)
theorem q_673 : .selects RX2 yX2_ridesWithin yX2_ridesWithin ∈ gW := gW_in (i := 673) (by decide +kernel) (by decide +kernel)
theorem q_674 : .code yX2_ridesWithin cX2_ridesWithin 4 (some .int) ∈ gW := gW_in (i := 674) (by decide +kernel) (by decide +kernel)
theorem q_675 : .methodLink RX2 63 yX2_ridesLaidOutWithin ∈ gW := gW_in (i := 675) (by decide +kernel) (by decide +kernel)
theorem q_677 : .instanceMethod yX2_ridesLaidOutWithin ∈ gW := gW_in (i := 677) (by decide +kernel) (by decide +kernel)
theorem q_678 : .code yX2_ridesLaidOutWithin cX2_ridesLaidOutWithin 6 (some .int) ∈ gW := gW_in (i := 678) (by decide +kernel) (by decide +kernel)
theorem q_683 : .methodLink RX10 185 yX10_isEither ∈ gW := gW_in (i := 683) (by decide +kernel) (by decide +kernel)
theorem q_684 : .static yX10_isEither ∈ gW := gW_in (i := 684) (by decide +kernel) (by decide +kernel)
theorem q_685 : .code yX10_isEither cX10_isEither 1 (some .boolean) ∈ gW := gW_in (i := 685) (by decide +kernel) (by decide +kernel)
theorem q_686 : .methodLink RX10 188 yX2_longestRideStart ∈ gW := gW_in (i := 686) (by decide +kernel) (by decide +kernel)
theorem q_687 : .instanceMethod yX2_longestRideStart ∈ gW := gW_in (i := 687) (by decide +kernel) (by decide +kernel)
theorem q_688 : .selects RX2 yX2_longestRideStart yX2_longestRideStart ∈ gW := gW_in (i := 688) (by decide +kernel) (by decide +kernel)
theorem q_689 : .code yX2_longestRideStart cX2_longestRideStart 6 (some .int) ∈ gW := gW_in (i := 689) (by decide +kernel) (by decide +kernel)
theorem q_690 : .methodLink RX10 191 yX2_rideFrom ∈ gW := gW_in (i := 690) (by decide +kernel) (by decide +kernel)
theorem q_691 : .instanceMethod yX2_rideFrom ∈ gW := gW_in (i := 691) (by decide +kernel) (by decide +kernel)
theorem q_692 : .selects RX2 yX2_rideFrom yX2_rideFrom ∈ gW := gW_in (i := 692) (by decide +kernel) (by decide +kernel)
theorem q_693 : .code yX2_rideFrom cX2_rideFrom 4 (some .int) ∈ gW := gW_in (i := 693) (by decide +kernel) (by decide +kernel)
theorem q_698 : .methodLink RX10 194 yX8_ridersOn ∈ gW := gW_in (i := 698) (by decide +kernel) (by decide +kernel)
theorem q_699 : .instanceMethod yX8_ridersOn ∈ gW := gW_in (i := 699) (by decide +kernel) (by decide +kernel)
theorem q_700 : .selects RX8 yX8_ridersOn yX8_ridersOn ∈ gW := gW_in (i := 700) (by decide +kernel) (by decide +kernel)
theorem q_701 : .code yX8_ridersOn cX8_ridersOn 4 (some .int) ∈ gW := gW_in (i := 701) (by decide +kernel) (by decide +kernel)
theorem q_702 : .methodLink RX8 78 yX8_ridesOn ∈ gW := gW_in (i := 702) (by decide +kernel) (by decide +kernel)
theorem q_707 : .methodLink RX10 197 yX2_fullestDay ∈ gW := gW_in (i := 707) (by decide +kernel) (by decide +kernel)
theorem q_708 : .instanceMethod yX2_fullestDay ∈ gW := gW_in (i := 708) (by decide +kernel) (by decide +kernel)
theorem q_709 : .selects RX2 yX2_fullestDay yX2_fullestDay ∈ gW := gW_in (i := 709) (by decide +kernel) (by decide +kernel)
theorem q_710 : .code yX2_fullestDay cX2_fullestDay 3 (some .int) ∈ gW := gW_in (i := 710) (by decide +kernel) (by decide +kernel)
theorem q_711 : .methodLink RX10 200 yJ6_bitCount_0f7a4 ∈ gW := gW_in (i := 711) (by decide +kernel) (by decide +kernel)
theorem q_712 : .static yJ6_bitCount_0f7a4 ∈ gW := gW_in (i := 712) (by decide +kernel) (by decide +kernel)
theorem q_713 : .code yJ6_bitCount_0f7a4 cJ6_bitCount_0f7a4 1 (some .int) ∈ gW := gW_in (i := 713) (by decide +kernel) (by decide +kernel)
theorem q_714 : .constant RJ6 265 (1431655765) ∈ gW := gW_in (i := 714) (by decide +kernel) (by decide +kernel)
theorem q_715 : .constant RJ6 266 (858993459) ∈ gW := gW_in (i := 715) (by decide +kernel) (by decide +kernel)
theorem q_716 : .constant RJ6 267 (252645135) ∈ gW := gW_in (i := 716) (by decide +kernel) (by decide +kernel)
theorem q_721 : .methodLink RX10 205 yX4_fewestSet ∈ gW := gW_in (i := 721) (by decide +kernel) (by decide +kernel)
theorem q_722 : .instanceMethod yX4_fewestSet ∈ gW := gW_in (i := 722) (by decide +kernel) (by decide +kernel)
theorem q_723 : .selects RX4 yX4_fewestSet yX4_fewestSet ∈ gW := gW_in (i := 723) (by decide +kernel) (by decide +kernel)
theorem q_724 : .code yX4_fewestSet cX4_fewestSet 8 (some .int) ∈ gW := gW_in (i := 724) (by decide +kernel) (by decide +kernel)
theorem q_725 : .methodLink RX4 31 yX4_mayKeep ∈ gW := gW_in (i := 725) (by decide +kernel) (by decide +kernel)
theorem q_727 : .instanceMethod yX4_mayKeep ∈ gW := gW_in (i := 727) (by decide +kernel) (by decide +kernel)
theorem q_728 : .code yX4_mayKeep cX4_mayKeep 3 (some .int) ∈ gW := gW_in (i := 728) (by decide +kernel) (by decide +kernel)
theorem q_729 : .methodLink RX4 15 yX8_promisesOf ∈ gW := gW_in (i := 729) (by decide +kernel) (by decide +kernel)
theorem q_730 : .instanceMethod yX8_promisesOf ∈ gW := gW_in (i := 730) (by decide +kernel) (by decide +kernel)
theorem q_731 : .selects RX8 yX8_promisesOf yX8_promisesOf ∈ gW := gW_in (i := 731) (by decide +kernel) (by decide +kernel)
theorem q_732 : .code yX8_promisesOf cX8_promisesOf 4 (some .int) ∈ gW := gW_in (i := 732) (by decide +kernel) (by decide +kernel)
theorem q_733 : .methodLink RX4 21 yX8_openOnes ∈ gW := gW_in (i := 733) (by decide +kernel) (by decide +kernel)
theorem q_734 : .instanceMethod yX8_openOnes ∈ gW := gW_in (i := 734) (by decide +kernel) (by decide +kernel)
theorem q_735 : .selects RX8 yX8_openOnes yX8_openOnes ∈ gW := gW_in (i := 735) (by decide +kernel) (by decide +kernel)
theorem q_736 : .code yX8_openOnes cX8_openOnes 4 (some .int) ∈ gW := gW_in (i := 736) (by decide +kernel) (by decide +kernel)
theorem q_737 : .methodLink RX4 35 yX8_lengthOn ∈ gW := gW_in (i := 737) (by decide +kernel) (by decide +kernel)
theorem q_738 : .methodLink RX4 38 yX4_letsRide ∈ gW := gW_in (i := 738) (by decide +kernel) (by decide +kernel)
theorem q_740 : .instanceMethod yX4_letsRide ∈ gW := gW_in (i := 740) (by decide +kernel) (by decide +kernel)
theorem q_741 : .code yX4_letsRide cX4_letsRide 5 (some .boolean) ∈ gW := gW_in (i := 741) (by decide +kernel) (by decide +kernel)
theorem q_742 : .methodLink RX4 24 yX8_linksOf ∈ gW := gW_in (i := 742) (by decide +kernel) (by decide +kernel)
theorem q_743 : .instanceMethod yX8_linksOf ∈ gW := gW_in (i := 743) (by decide +kernel) (by decide +kernel)
theorem q_744 : .selects RX8 yX8_linksOf yX8_linksOf ∈ gW := gW_in (i := 744) (by decide +kernel) (by decide +kernel)
theorem q_745 : .code yX8_linksOf cX8_linksOf 4 (some .int) ∈ gW := gW_in (i := 745) (by decide +kernel) (by decide +kernel)
theorem q_747 : .static yX10_isIn ∈ gW := gW_in (i := 747) (by decide +kernel) (by decide +kernel)
theorem q_748 : .code yX10_isIn cX10_isIn 2 (some .boolean) ∈ gW := gW_in (i := 748) (by decide +kernel) (by decide +kernel)
theorem q_749 : .methodLink RX4 27 yX8_goesRound ∈ gW := gW_in (i := 749) (by decide +kernel) (by decide +kernel)
theorem q_750 : .methodLink RX4 42 yJ6_bitCount_0f7a4 ∈ gW := gW_in (i := 750) (by decide +kernel) (by decide +kernel)
theorem q_755 : .methodLink RX10 208 yX4_lightestSet ∈ gW := gW_in (i := 755) (by decide +kernel) (by decide +kernel)
theorem q_756 : .instanceMethod yX4_lightestSet ∈ gW := gW_in (i := 756) (by decide +kernel) (by decide +kernel)
theorem q_757 : .selects RX4 yX4_lightestSet yX4_lightestSet ∈ gW := gW_in (i := 757) (by decide +kernel) (by decide +kernel)
theorem q_758 : .code yX4_lightestSet cX4_lightestSet 8 (some .int) ∈ gW := gW_in (i := 758) (by decide +kernel) (by decide +kernel)
theorem q_759 : .constant RX4 47 (2147483647) ∈ gW := gW_in (i := 759) (by decide +kernel) (by decide +kernel)
theorem q_760 : .methodLink RX4 48 yX4_weightOf ∈ gW := gW_in (i := 760) (by decide +kernel) (by decide +kernel)
theorem q_762 : .instanceMethod yX4_weightOf ∈ gW := gW_in (i := 762) (by decide +kernel) (by decide +kernel)
theorem q_763 : .code yX4_weightOf cX4_weightOf 2 (some .int) ∈ gW := gW_in (i := 763) (by decide +kernel) (by decide +kernel)
theorem q_764 : .methodLink RX10 211 yX8_linksOf ∈ gW := gW_in (i := 764) (by decide +kernel) (by decide +kernel)
theorem q_769 : .methodLink RX10 214 yX4_howManySets ∈ gW := gW_in (i := 769) (by decide +kernel) (by decide +kernel)
theorem q_770 : .instanceMethod yX4_howManySets ∈ gW := gW_in (i := 770) (by decide +kernel) (by decide +kernel)
theorem q_771 : .selects RX4 yX4_howManySets yX4_howManySets ∈ gW := gW_in (i := 771) (by decide +kernel) (by decide +kernel)
theorem q_772 : .code yX4_howManySets cX4_howManySets 7 (some .int) ∈ gW := gW_in (i := 772) (by decide +kernel) (by decide +kernel)
theorem q_777 : .methodLink RX10 217 yX8_promisesOf ∈ gW := gW_in (i := 777) (by decide +kernel) (by decide +kernel)
theorem q_778 : .methodLink RX10 220 yX9_canAll ∈ gW := gW_in (i := 778) (by decide +kernel) (by decide +kernel)
theorem q_779 : .instanceMethod yX9_canAll ∈ gW := gW_in (i := 779) (by decide +kernel) (by decide +kernel)
theorem q_780 : .selects RX9 yX9_canAll yX9_canAll ∈ gW := gW_in (i := 780) (by decide +kernel) (by decide +kernel)
theorem q_781 : .code yX9_canAll cX9_canAll 2 (some .boolean) ∈ gW := gW_in (i := 781) (by decide +kernel) (by decide +kernel)
theorem q_782 : .methodLink RX9 19 yX9_fillFits ∈ gW := gW_in (i := 782) (by decide +kernel) (by decide +kernel)
theorem q_784 : .instanceMethod yX9_fillFits ∈ gW := gW_in (i := 784) (by decide +kernel) (by decide +kernel)
theorem q_785 : .code yX9_fillFits cX9_fillFits 3 none ∈ gW := gW_in (i := 785) (by decide +kernel) (by decide +kernel)
theorem q_786 : .methodLink RX9 23 yX9_isSet ∈ gW := gW_in (i := 786) (by decide +kernel) (by decide +kernel)
theorem q_788 : .instanceMethod yX9_isSet ∈ gW := gW_in (i := 788) (by decide +kernel) (by decide +kernel)
theorem q_789 : .code yX9_isSet cX9_isSet 2 (some .boolean) ∈ gW := gW_in (i := 789) (by decide +kernel) (by decide +kernel)
theorem q_790 : .methodLink RX9 37 yX9_eachLessOneFits ∈ gW := gW_in (i := 790) (by decide +kernel) (by decide +kernel)
theorem q_792 : .instanceMethod yX9_eachLessOneFits ∈ gW := gW_in (i := 792) (by decide +kernel) (by decide +kernel)
theorem q_793 : .code yX9_eachLessOneFits cX9_eachLessOneFits 3 (some .boolean) ∈ gW := gW_in (i := 793) (by decide +kernel) (by decide +kernel)
theorem q_795 : .methodLink RX9 40 yX9_hasDaysForAll ∈ gW := gW_in (i := 795) (by decide +kernel) (by decide +kernel)
theorem q_797 : .instanceMethod yX9_hasDaysForAll ∈ gW := gW_in (i := 797) (by decide +kernel) (by decide +kernel)
theorem q_798 : .code yX9_hasDaysForAll cX9_hasDaysForAll 6 (some .boolean) ∈ gW := gW_in (i := 798) (by decide +kernel) (by decide +kernel)
theorem q_799 : .methodLink RX9 56 yJ9_min_7cf53 ∈ gW := gW_in (i := 799) (by decide +kernel) (by decide +kernel)
theorem q_800 : .methodLink RX9 65 yJ9_max_7cf53 ∈ gW := gW_in (i := 800) (by decide +kernel) (by decide +kernel)
theorem q_805 : .methodLink RX10 223 yX9_greatestSet ∈ gW := gW_in (i := 805) (by decide +kernel) (by decide +kernel)
theorem q_806 : .instanceMethod yX9_greatestSet ∈ gW := gW_in (i := 806) (by decide +kernel) (by decide +kernel)
theorem q_807 : .selects RX9 yX9_greatestSet yX9_greatestSet ∈ gW := gW_in (i := 807) (by decide +kernel) (by decide +kernel)
theorem q_808 : .code yX9_greatestSet cX9_greatestSet 4 (some .int) ∈ gW := gW_in (i := 808) (by decide +kernel) (by decide +kernel)
theorem q_809 : .methodLink RX9 27 yJ6_bitCount_0f7a4 ∈ gW := gW_in (i := 809) (by decide +kernel) (by decide +kernel)
theorem q_814 : .methodLink RX10 226 yX9_howManyClashes ∈ gW := gW_in (i := 814) (by decide +kernel) (by decide +kernel)
theorem q_815 : .instanceMethod yX9_howManyClashes ∈ gW := gW_in (i := 815) (by decide +kernel) (by decide +kernel)
theorem q_816 : .selects RX9 yX9_howManyClashes yX9_howManyClashes ∈ gW := gW_in (i := 816) (by decide +kernel) (by decide +kernel)
theorem q_817 : .code yX9_howManyClashes cX9_howManyClashes 4 (some .int) ∈ gW := gW_in (i := 817) (by decide +kernel) (by decide +kernel)
theorem q_818 : .methodLink RX9 33 yX9_isClash ∈ gW := gW_in (i := 818) (by decide +kernel) (by decide +kernel)
theorem q_820 : .instanceMethod yX9_isClash ∈ gW := gW_in (i := 820) (by decide +kernel) (by decide +kernel)
theorem q_821 : .code yX9_isClash cX9_isClash 3 (some .boolean) ∈ gW := gW_in (i := 821) (by decide +kernel) (by decide +kernel)
theorem q_822 : .methodLink RX10 229 yX9_leastClash ∈ gW := gW_in (i := 822) (by decide +kernel) (by decide +kernel)
theorem q_823 : .instanceMethod yX9_leastClash ∈ gW := gW_in (i := 823) (by decide +kernel) (by decide +kernel)
theorem q_824 : .selects RX9 yX9_leastClash yX9_leastClash ∈ gW := gW_in (i := 824) (by decide +kernel) (by decide +kernel)
theorem q_825 : .code yX9_leastClash cX9_leastClash 3 (some .int) ∈ gW := gW_in (i := 825) (by decide +kernel) (by decide +kernel)
theorem q_830 : .methodLink RX10 236 yX8_isTied ∈ gW := gW_in (i := 830) (by decide +kernel) (by decide +kernel)
theorem q_831 : .methodLink RX10 239 yX2_ridersIfHanded ∈ gW := gW_in (i := 831) (by decide +kernel) (by decide +kernel)
theorem q_832 : .instanceMethod yX2_ridersIfHanded ∈ gW := gW_in (i := 832) (by decide +kernel) (by decide +kernel)
theorem q_833 : .selects RX2 yX2_ridersIfHanded yX2_ridersIfHanded ∈ gW := gW_in (i := 833) (by decide +kernel) (by decide +kernel)
theorem q_834 : .code yX2_ridersIfHanded cX2_ridersIfHanded 8 (some .int) ∈ gW := gW_in (i := 834) (by decide +kernel) (by decide +kernel)
theorem q_835 : .methodLink RX2 75 yX8_isOpen ∈ gW := gW_in (i := 835) (by decide +kernel) (by decide +kernel)
theorem q_836 : .methodLink RX2 78 yX8_lengthOn ∈ gW := gW_in (i := 836) (by decide +kernel) (by decide +kernel)
theorem q_841 : .methodLink RX10 242 yX2_bestHanding ∈ gW := gW_in (i := 841) (by decide +kernel) (by decide +kernel)
theorem q_842 : .instanceMethod yX2_bestHanding ∈ gW := gW_in (i := 842) (by decide +kernel) (by decide +kernel)
theorem q_843 : .selects RX2 yX2_bestHanding yX2_bestHanding ∈ gW := gW_in (i := 843) (by decide +kernel) (by decide +kernel)
theorem q_844 : .code yX2_bestHanding cX2_bestHanding 7 (some .int) ∈ gW := gW_in (i := 844) (by decide +kernel) (by decide +kernel)
theorem q_845 : .methodLink RX2 85 yX8_ridersOn ∈ gW := gW_in (i := 845) (by decide +kernel) (by decide +kernel)
theorem q_846 : .methodLink RX2 88 yJ6_bitCount_0f7a4 ∈ gW := gW_in (i := 846) (by decide +kernel) (by decide +kernel)
theorem q_847 : .methodLink RX2 93 yX8_isTied ∈ gW := gW_in (i := 847) (by decide +kernel) (by decide +kernel)
theorem q_848 : .methodLink RX2 97 yX2_ridersIfHanded ∈ gW := gW_in (i := 848) (by decide +kernel) (by decide +kernel)
theorem q_853 : .methodLink RX10 245 yX1_firstWrongDay ∈ gW := gW_in (i := 853) (by decide +kernel) (by decide +kernel)
theorem q_854 : .instanceMethod yX1_firstWrongDay ∈ gW := gW_in (i := 854) (by decide +kernel) (by decide +kernel)
theorem q_855 : .selects RX1 yX1_firstWrongDay yX1_firstWrongDay ∈ gW := gW_in (i := 855) (by decide +kernel) (by decide +kernel)
theorem q_856 : .code yX1_firstWrongDay cX1_firstWrongDay 4 (some .int) ∈ gW := gW_in (i := 856) (by decide +kernel) (by decide +kernel)
theorem q_858 : .methodLink RX1 97 yX7_elementAt ∈ gW := gW_in (i := 858) (by decide +kernel) (by decide +kernel)
theorem q_859 : .methodLink RX1 101 yX1_ofOne ∈ gW := gW_in (i := 859) (by decide +kernel) (by decide +kernel)
theorem q_864 : .methodLink RX10 248 yX1_compareOpenAndKept ∈ gW := gW_in (i := 864) (by decide +kernel) (by decide +kernel)
theorem q_865 : .instanceMethod yX1_compareOpenAndKept ∈ gW := gW_in (i := 865) (by decide +kernel) (by decide +kernel)
theorem q_866 : .selects RX1 yX1_compareOpenAndKept yX1_compareOpenAndKept ∈ gW := gW_in (i := 866) (by decide +kernel) (by decide +kernel)
theorem q_867 : .code yX1_compareOpenAndKept cX1_compareOpenAndKept 6 none ∈ gW := gW_in (i := 867) (by decide +kernel) (by decide +kernel)
theorem q_868 : .methodLink RX10 251 yX1_howManyKepts ∈ gW := gW_in (i := 868) (by decide +kernel) (by decide +kernel)
theorem q_869 : .instanceMethod yX1_howManyKepts ∈ gW := gW_in (i := 869) (by decide +kernel) (by decide +kernel)
theorem q_870 : .selects RX1 yX1_howManyKepts yX1_howManyKepts ∈ gW := gW_in (i := 870) (by decide +kernel) (by decide +kernel)
theorem q_871 : .code yX1_howManyKepts cX1_howManyKepts 4 (some .int) ∈ gW := gW_in (i := 871) (by decide +kernel) (by decide +kernel)
theorem q_872 : .methodLink RX1 113 yX1_isSoIfKeptOn ∈ gW := gW_in (i := 872) (by decide +kernel) (by decide +kernel)
theorem q_874 : .instanceMethod yX1_isSoIfKeptOn ∈ gW := gW_in (i := 874) (by decide +kernel) (by decide +kernel)
theorem q_875 : .code yX1_isSoIfKeptOn cX1_isSoIfKeptOn 5 (some .boolean) ∈ gW := gW_in (i := 875) (by decide +kernel) (by decide +kernel)
theorem q_876 : .methodLink RX10 254 yX1_leastKept ∈ gW := gW_in (i := 876) (by decide +kernel) (by decide +kernel)
theorem q_877 : .instanceMethod yX1_leastKept ∈ gW := gW_in (i := 877) (by decide +kernel) (by decide +kernel)
theorem q_878 : .selects RX1 yX1_leastKept yX1_leastKept ∈ gW := gW_in (i := 878) (by decide +kernel) (by decide +kernel)
theorem q_879 : .code yX1_leastKept cX1_leastKept 3 (some .int) ∈ gW := gW_in (i := 879) (by decide +kernel) (by decide +kernel)
theorem q_884 : .methodLink RX10 257 yX1_ownersOf ∈ gW := gW_in (i := 884) (by decide +kernel) (by decide +kernel)
theorem q_885 : .instanceMethod yX1_ownersOf ∈ gW := gW_in (i := 885) (by decide +kernel) (by decide +kernel)
theorem q_886 : .selects RX1 yX1_ownersOf yX1_ownersOf ∈ gW := gW_in (i := 886) (by decide +kernel) (by decide +kernel)
theorem q_887 : .code yX1_ownersOf cX1_ownersOf 4 (some .int) ∈ gW := gW_in (i := 887) (by decide +kernel) (by decide +kernel)
theorem q_888 : .methodLink RX1 107 yX1_firstWrongDay ∈ gW := gW_in (i := 888) (by decide +kernel) (by decide +kernel)
theorem q_893 : .methodLink RX10 260 yX4_bestFirstTurn ∈ gW := gW_in (i := 893) (by decide +kernel) (by decide +kernel)
theorem q_894 : .instanceMethod yX4_bestFirstTurn ∈ gW := gW_in (i := 894) (by decide +kernel) (by decide +kernel)
theorem q_895 : .selects RX4 yX4_bestFirstTurn yX4_bestFirstTurn ∈ gW := gW_in (i := 895) (by decide +kernel) (by decide +kernel)
theorem q_896 : .code yX4_bestFirstTurn cX4_bestFirstTurn 7 (some .int) ∈ gW := gW_in (i := 896) (by decide +kernel) (by decide +kernel)
theorem q_898 : .methodLink RX4 51 yX4_endsRiding ∈ gW := gW_in (i := 898) (by decide +kernel) (by decide +kernel)
theorem q_900 : .instanceMethod yX4_endsRiding ∈ gW := gW_in (i := 900) (by decide +kernel) (by decide +kernel)
theorem q_901 : .code yX4_endsRiding cX4_endsRiding 9 (some .boolean) ∈ gW := gW_in (i := 901) (by decide +kernel) (by decide +kernel)
theorem q_902 : .methodLink RX4 66 yJ6_numberOfTrailingZeros_0f7a4 ∈ gW := gW_in (i := 902) (by decide +kernel) (by decide +kernel)
theorem q_903 : .static yJ6_numberOfTrailingZeros_0f7a4 ∈ gW := gW_in (i := 903) (by decide +kernel) (by decide +kernel)
theorem q_904 : .code yJ6_numberOfTrailingZeros_0f7a4 cJ6_numberOfTrailingZeros_0f7a4 2 (some .int) ∈ gW := gW_in (i := 904) (by decide +kernel) (by decide +kernel)
theorem q_905 : .constant RJ6 264 (65536) ∈ gW := gW_in (i := 905) (by decide +kernel) (by decide +kernel)
theorem q_906 : .methodLink RX10 263 yX4_winsByTurns ∈ gW := gW_in (i := 906) (by decide +kernel) (by decide +kernel)
theorem q_907 : .instanceMethod yX4_winsByTurns ∈ gW := gW_in (i := 907) (by decide +kernel) (by decide +kernel)
theorem q_908 : .selects RX4 yX4_winsByTurns yX4_winsByTurns ∈ gW := gW_in (i := 908) (by decide +kernel) (by decide +kernel)
theorem q_909 : .code yX4_winsByTurns cX4_winsByTurns 4 (some .boolean) ∈ gW := gW_in (i := 909) (by decide +kernel) (by decide +kernel)
theorem q_914 : .methodLink RX10 266 yX1_loudestDay ∈ gW := gW_in (i := 914) (by decide +kernel) (by decide +kernel)
theorem q_915 : .instanceMethod yX1_loudestDay ∈ gW := gW_in (i := 915) (by decide +kernel) (by decide +kernel)
theorem q_916 : .selects RX1 yX1_loudestDay yX1_loudestDay ∈ gW := gW_in (i := 916) (by decide +kernel) (by decide +kernel)
theorem q_917 : .code yX1_loudestDay cX1_loudestDay 5 (some .int) ∈ gW := gW_in (i := 917) (by decide +kernel) (by decide +kernel)
theorem q_918 : .methodLink RX1 87 yX1_ofAll ∈ gW := gW_in (i := 918) (by decide +kernel) (by decide +kernel)
theorem q_919 : .instanceMethod yX1_ofAll ∈ gW := gW_in (i := 919) (by decide +kernel) (by decide +kernel)
theorem q_920 : .selects RX1 yX1_ofAll yX1_ofAll ∈ gW := gW_in (i := 920) (by decide +kernel) (by decide +kernel)
theorem q_921 : .code yX1_ofAll cX1_ofAll 4 (some .int) ∈ gW := gW_in (i := 921) (by decide +kernel) (by decide +kernel)
theorem q_922 : .methodLink RX10 269 yX1_ofAll ∈ gW := gW_in (i := 922) (by decide +kernel) (by decide +kernel)
theorem q_927 : .methodLink RX10 272 yX2_drawnRides ∈ gW := gW_in (i := 927) (by decide +kernel) (by decide +kernel)
theorem q_928 : .instanceMethod yX2_drawnRides ∈ gW := gW_in (i := 928) (by decide +kernel) (by decide +kernel)
theorem q_929 : .selects RX2 yX2_drawnRides yX2_drawnRides ∈ gW := gW_in (i := 929) (by decide +kernel) (by decide +kernel)
theorem q_930 : .code yX2_drawnRides cX2_drawnRides 8 (some .int) ∈ gW := gW_in (i := 930) (by decide +kernel) (by decide +kernel)
theorem q_931 : .methodLink RX2 70 yX2_drawLife ∈ gW := gW_in (i := 931) (by decide +kernel) (by decide +kernel)
theorem q_933 : .instanceMethod yX2_drawLife ∈ gW := gW_in (i := 933) (by decide +kernel) (by decide +kernel)
theorem q_934 : .code yX2_drawLife cX2_drawLife 5 (some .int) ∈ gW := gW_in (i := 934) (by decide +kernel) (by decide +kernel)
theorem q_935 : .constant RX2 74 (1103515245) ∈ gW := gW_in (i := 935) (by decide +kernel) (by decide +kernel)
theorem q_940 : .methodLink RX10 275 yX3_now ∈ gW := gW_in (i := 940) (by decide +kernel) (by decide +kernel)
theorem q_941 : .instanceMethod yX3_now ∈ gW := gW_in (i := 941) (by decide +kernel) (by decide +kernel)
theorem q_942 : .selects RX3 yX3_now yX3_now ∈ gW := gW_in (i := 942) (by decide +kernel) (by decide +kernel)
theorem q_943 : .code yX3_now cX3_now 1 (some .int) ∈ gW := gW_in (i := 943) (by decide +kernel) (by decide +kernel)
theorem q_944 : .methodLink RX10 278 yX3_endDay ∈ gW := gW_in (i := 944) (by decide +kernel) (by decide +kernel)
theorem q_945 : .instanceMethod yX3_endDay ∈ gW := gW_in (i := 945) (by decide +kernel) (by decide +kernel)
theorem q_946 : .selects RX3 yX3_endDay yX3_endDay ∈ gW := gW_in (i := 946) (by decide +kernel) (by decide +kernel)
theorem q_947 : .code yX3_endDay cX3_endDay 1 (some .int) ∈ gW := gW_in (i := 947) (by decide +kernel) (by decide +kernel)
theorem q_948 : .methodLink RX3 25 yX8_ridersOn ∈ gW := gW_in (i := 948) (by decide +kernel) (by decide +kernel)
theorem q_949 : .methodLink RX3 31 yJ6_bitCount_0f7a4 ∈ gW := gW_in (i := 949) (by decide +kernel) (by decide +kernel)
theorem q_954 : .methodLink RX10 281 yX3_makePromise ∈ gW := gW_in (i := 954) (by decide +kernel) (by decide +kernel)
theorem q_955 : .instanceMethod yX3_makePromise ∈ gW := gW_in (i := 955) (by decide +kernel) (by decide +kernel)
theorem q_956 : .selects RX3 yX3_makePromise yX3_makePromise ∈ gW := gW_in (i := 956) (by decide +kernel) (by decide +kernel)
theorem q_957 : .code yX3_makePromise cX3_makePromise 4 (some .int) ∈ gW := gW_in (i := 957) (by decide +kernel) (by decide +kernel)
theorem q_958 : .methodLink RX3 36 yX8_addPromise ∈ gW := gW_in (i := 958) (by decide +kernel) (by decide +kernel)
theorem q_963 : .methodLink RX10 284 yX8_isOpen ∈ gW := gW_in (i := 963) (by decide +kernel) (by decide +kernel)
theorem q_964 : .methodLink RX10 287 yX3_keepPromise ∈ gW := gW_in (i := 964) (by decide +kernel) (by decide +kernel)
theorem q_965 : .instanceMethod yX3_keepPromise ∈ gW := gW_in (i := 965) (by decide +kernel) (by decide +kernel)
theorem q_966 : .selects RX3 yX3_keepPromise yX3_keepPromise ∈ gW := gW_in (i := 966) (by decide +kernel) (by decide +kernel)
theorem q_967 : .code yX3_keepPromise cX3_keepPromise 2 (some .int) ∈ gW := gW_in (i := 967) (by decide +kernel) (by decide +kernel)
theorem q_968 : .methodLink RX3 43 yX8_openOnes ∈ gW := gW_in (i := 968) (by decide +kernel) (by decide +kernel)
theorem q_977 : .methodLink RX10 293 yX3_keepImage ∈ gW := gW_in (i := 977) (by decide +kernel) (by decide +kernel)
theorem q_978 : .instanceMethod yX3_keepImage ∈ gW := gW_in (i := 978) (by decide +kernel) (by decide +kernel)
theorem q_979 : .selects RX3 yX3_keepImage yX3_keepImage ∈ gW := gW_in (i := 979) (by decide +kernel) (by decide +kernel)
theorem q_980 : .code yX3_keepImage cX3_keepImage 1 (some .int) ∈ gW := gW_in (i := 980) (by decide +kernel) (by decide +kernel)
theorem q_981 : .methodLink RX3 46 arraycopyName ∈ gW := gW_in (i := 981) (by decide +kernel) (by decide +kernel)
theorem q_986 : .methodLink RX10 300 yX3_layBack ∈ gW := gW_in (i := 986) (by decide +kernel) (by decide +kernel)
theorem q_987 : .instanceMethod yX3_layBack ∈ gW := gW_in (i := 987) (by decide +kernel) (by decide +kernel)
theorem q_988 : .selects RX3 yX3_layBack yX3_layBack ∈ gW := gW_in (i := 988) (by decide +kernel) (by decide +kernel)
theorem q_989 : .code yX3_layBack cX3_layBack 1 (some .int) ∈ gW := gW_in (i := 989) (by decide +kernel) (by decide +kernel)
theorem q_994 : .methodLink RX10 306 yX0_stepBack ∈ gW := gW_in (i := 994) (by decide +kernel) (by decide +kernel)
theorem q_995 : .instanceMethod yX0_stepBack ∈ gW := gW_in (i := 995) (by decide +kernel) (by decide +kernel)
theorem q_996 : .selects RX0 yX0_stepBack yX0_stepBack ∈ gW := gW_in (i := 996) (by decide +kernel) (by decide +kernel)
theorem q_997 : .code yX0_stepBack cX0_stepBack 2 none ∈ gW := gW_in (i := 997) (by decide +kernel) (by decide +kernel)
theorem q_998 : .methodLink RX0 38 yX8_become ∈ gW := gW_in (i := 998) (by decide +kernel) (by decide +kernel)
theorem q_1003 : .methodLink RX10 312 yX0_stepForward ∈ gW := gW_in (i := 1003) (by decide +kernel) (by decide +kernel)
theorem q_1004 : .instanceMethod yX0_stepForward ∈ gW := gW_in (i := 1004) (by decide +kernel) (by decide +kernel)
theorem q_1005 : .selects RX0 yX0_stepForward yX0_stepForward ∈ gW := gW_in (i := 1005) (by decide +kernel) (by decide +kernel)
theorem q_1006 : .code yX0_stepForward cX0_stepForward 2 none ∈ gW := gW_in (i := 1006) (by decide +kernel) (by decide +kernel)
theorem q_1011 : .methodLink RX10 318 yX6_add ∈ gW := gW_in (i := 1011) (by decide +kernel) (by decide +kernel)
theorem q_1012 : .instanceMethod yX6_add ∈ gW := gW_in (i := 1012) (by decide +kernel) (by decide +kernel)
theorem q_1013 : .selects RX6 yX6_add yX6_add ∈ gW := gW_in (i := 1013) (by decide +kernel) (by decide +kernel)
theorem q_1014 : .code yX6_add cX6_add 2 (some .int) ∈ gW := gW_in (i := 1014) (by decide +kernel) (by decide +kernel)
theorem q_1019 : .methodLink RX10 320 yX6_perform ∈ gW := gW_in (i := 1019) (by decide +kernel) (by decide +kernel)
theorem q_1020 : .instanceMethod yX6_perform ∈ gW := gW_in (i := 1020) (by decide +kernel) (by decide +kernel)
theorem q_1021 : .selects RX6 yX6_perform yX6_perform ∈ gW := gW_in (i := 1021) (by decide +kernel) (by decide +kernel)
theorem q_1022 : .code yX6_perform cX6_perform 4 (some .int) ∈ gW := gW_in (i := 1022) (by decide +kernel) (by decide +kernel)
theorem q_1023 : .methodLink RX6 22 yX6_isBody ∈ gW := gW_in (i := 1023) (by decide +kernel) (by decide +kernel)
theorem q_1024 : .instanceMethod yX6_isBody ∈ gW := gW_in (i := 1024) (by decide +kernel) (by decide +kernel)
theorem q_1025 : .selects RX6 yX6_isBody yX6_isBody ∈ gW := gW_in (i := 1025) (by decide +kernel) (by decide +kernel)
theorem q_1026 : .code yX6_isBody cX6_isBody 2 (some .boolean) ∈ gW := gW_in (i := 1026) (by decide +kernel) (by decide +kernel)
theorem q_1028 : .methodLink RX6 39 yX6_own ∈ gW := gW_in (i := 1028) (by decide +kernel) (by decide +kernel)
theorem q_1030 : .instanceMethod yX6_own ∈ gW := gW_in (i := 1030) (by decide +kernel) (by decide +kernel)
theorem q_1031 : .code yX6_own cX6_own 4 (some .int) ∈ gW := gW_in (i := 1031) (by decide +kernel) (by decide +kernel)
theorem q_1032 : .methodLink RX6 43 yX6_run ∈ gW := gW_in (i := 1032) (by decide +kernel) (by decide +kernel)
theorem q_1034 : .instanceMethod yX6_run ∈ gW := gW_in (i := 1034) (by decide +kernel) (by decide +kernel)
theorem q_1035 : .code yX6_run cX6_run 9 (some .int) ∈ gW := gW_in (i := 1035) (by decide +kernel) (by decide +kernel)
theorem q_1036 : .methodLink RX6 47 yX6_kindWith ∈ gW := gW_in (i := 1036) (by decide +kernel) (by decide +kernel)
theorem q_1037 : .static yX6_kindWith ∈ gW := gW_in (i := 1037) (by decide +kernel) (by decide +kernel)
theorem q_1038 : .code yX6_kindWith cX6_kindWith 4 (some .int) ∈ gW := gW_in (i := 1038) (by decide +kernel) (by decide +kernel)
theorem q_1039 : .fieldLink RX6 51 "ChainsHold$Links" "OWN_ACTS" "[I" ∈ gW := gW_in (i := 1039) (by decide +kernel) (by decide +kernel)
theorem q_1041 : .fieldLink RX6 26 "ChainsHold$Links" "ABOVE" "[I" ∈ gW := gW_in (i := 1041) (by decide +kernel) (by decide +kernel)
theorem q_1043 : .methodLink RX6 54 yX6_note ∈ gW := gW_in (i := 1043) (by decide +kernel) (by decide +kernel)
theorem q_1045 : .instanceMethod yX6_note ∈ gW := gW_in (i := 1045) (by decide +kernel) (by decide +kernel)
theorem q_1046 : .code yX6_note cX6_note 2 none ∈ gW := gW_in (i := 1046) (by decide +kernel) (by decide +kernel)
theorem q_1051 : .methodLink RX10 326 yJ9_min_7cf53 ∈ gW := gW_in (i := 1051) (by decide +kernel) (by decide +kernel)
theorem q_1056 : .methodLink RX10 334 yX6_isBody ∈ gW := gW_in (i := 1056) (by decide +kernel) (by decide +kernel)
theorem q_1057 : .methodLink RX10 337 yX7_clear ∈ gW := gW_in (i := 1057) (by decide +kernel) (by decide +kernel)
theorem q_1058 : .instanceMethod yX7_clear ∈ gW := gW_in (i := 1058) (by decide +kernel) (by decide +kernel)
theorem q_1059 : .selects RX7 yX7_clear yX7_clear ∈ gW := gW_in (i := 1059) (by decide +kernel) (by decide +kernel)
theorem q_1060 : .code yX7_clear cX7_clear 2 (some .int) ∈ gW := gW_in (i := 1060) (by decide +kernel) (by decide +kernel)
theorem q_1061 : .methodLink RX10 340 yX7_holdLink ∈ gW := gW_in (i := 1061) (by decide +kernel) (by decide +kernel)
theorem q_1062 : .instanceMethod yX7_holdLink ∈ gW := gW_in (i := 1062) (by decide +kernel) (by decide +kernel)
theorem q_1063 : .selects RX7 yX7_holdLink yX7_holdLink ∈ gW := gW_in (i := 1063) (by decide +kernel) (by decide +kernel)
theorem q_1064 : .code yX7_holdLink cX7_holdLink 3 (some .int) ∈ gW := gW_in (i := 1064) (by decide +kernel) (by decide +kernel)
theorem q_1069 : .methodLink RX10 343 yX7_holdRow ∈ gW := gW_in (i := 1069) (by decide +kernel) (by decide +kernel)
theorem q_1070 : .instanceMethod yX7_holdRow ∈ gW := gW_in (i := 1070) (by decide +kernel) (by decide +kernel)
theorem q_1071 : .selects RX7 yX7_holdRow yX7_holdRow ∈ gW := gW_in (i := 1071) (by decide +kernel) (by decide +kernel)
theorem q_1072 : .code yX7_holdRow cX7_holdRow 4 (some .int) ∈ gW := gW_in (i := 1072) (by decide +kernel) (by decide +kernel)
theorem q_1073 : .methodLink RX7 31 yJ7_fill_bad5a ∈ gW := gW_in (i := 1073) (by decide +kernel) (by decide +kernel)
theorem q_1074 : .static yJ7_fill_bad5a ∈ gW := gW_in (i := 1074) (by decide +kernel) (by decide +kernel)
theorem q_1075 : .code yJ7_fill_bad5a cJ7_fill_bad5a 6 none ∈ gW := gW_in (i := 1075) (by decide +kernel) (by decide +kernel)
theorem q_1076 : .methodLink RJ7 13 yJ7_rangeCheck_23922 ∈ gW := gW_in (i := 1076) (by decide +kernel) (by decide +kernel)
theorem q_1077 : .static yJ7_rangeCheck_23922 ∈ gW := gW_in (i := 1077) (by decide +kernel) (by decide +kernel)
theorem q_1078 : .code yJ7_rangeCheck_23922 cJ7_rangeCheck_23922 3 none ∈ gW := gW_in (i := 1078) (by decide +kernel) (by decide +kernel)
theorem q_1083 : .methodLink RX10 346 yX7_refusalOfPlace ∈ gW := gW_in (i := 1083) (by decide +kernel) (by decide +kernel)
theorem q_1084 : .instanceMethod yX7_refusalOfPlace ∈ gW := gW_in (i := 1084) (by decide +kernel) (by decide +kernel)
theorem q_1085 : .selects RX7 yX7_refusalOfPlace yX7_refusalOfPlace ∈ gW := gW_in (i := 1085) (by decide +kernel) (by decide +kernel)
theorem q_1086 : .code yX7_refusalOfPlace cX7_refusalOfPlace 3 (some .int) ∈ gW := gW_in (i := 1086) (by decide +kernel) (by decide +kernel)
theorem q_1087 : .methodLink RX7 38 yX7_holdsRow ∈ gW := gW_in (i := 1087) (by decide +kernel) (by decide +kernel)
theorem q_1089 : .instanceMethod yX7_holdsRow ∈ gW := gW_in (i := 1089) (by decide +kernel) (by decide +kernel)
theorem q_1090 : .code yX7_holdsRow cX7_holdsRow 2 (some .boolean) ∈ gW := gW_in (i := 1090) (by decide +kernel) (by decide +kernel)
theorem q_1091 : .methodLink RX7 42 yX7_hasPlaces ∈ gW := gW_in (i := 1091) (by decide +kernel) (by decide +kernel)
theorem q_1092 : .methodLink RX10 349 yX7_putAt ∈ gW := gW_in (i := 1092) (by decide +kernel) (by decide +kernel)
theorem q_1093 : .instanceMethod yX7_putAt ∈ gW := gW_in (i := 1093) (by decide +kernel) (by decide +kernel)
theorem q_1094 : .selects RX7 yX7_putAt yX7_putAt ∈ gW := gW_in (i := 1094) (by decide +kernel) (by decide +kernel)
theorem q_1095 : .code yX7_putAt cX7_putAt 5 (some .int) ∈ gW := gW_in (i := 1095) (by decide +kernel) (by decide +kernel)
theorem q_1096 : .methodLink RX7 46 yX7_lowestBits ∈ gW := gW_in (i := 1096) (by decide +kernel) (by decide +kernel)
theorem q_1097 : .static yX7_lowestBits ∈ gW := gW_in (i := 1097) (by decide +kernel) (by decide +kernel)
theorem q_1098 : .code yX7_lowestBits cX7_lowestBits 3 (some .long) ∈ gW := gW_in (i := 1098) (by decide +kernel) (by decide +kernel)
theorem q_1103 : .constantLong RX10 355 (-9223372036854775808) ∈ gW := gW_in (i := 1103) (by decide +kernel) (by decide +kernel)
theorem q_1108 : .methodLink RX10 357 yX7_refusalOfPair ∈ gW := gW_in (i := 1108) (by decide +kernel) (by decide +kernel)
theorem q_1109 : .instanceMethod yX7_refusalOfPair ∈ gW := gW_in (i := 1109) (by decide +kernel) (by decide +kernel)
theorem q_1110 : .selects RX7 yX7_refusalOfPair yX7_refusalOfPair ∈ gW := gW_in (i := 1110) (by decide +kernel) (by decide +kernel)
theorem q_1111 : .code yX7_refusalOfPair cX7_refusalOfPair 3 (some .int) ∈ gW := gW_in (i := 1111) (by decide +kernel) (by decide +kernel)
theorem q_1112 : .methodLink RX10 360 yX7_move ∈ gW := gW_in (i := 1112) (by decide +kernel) (by decide +kernel)
theorem q_1113 : .instanceMethod yX7_move ∈ gW := gW_in (i := 1113) (by decide +kernel) (by decide +kernel)
theorem q_1114 : .selects RX7 yX7_move yX7_move ∈ gW := gW_in (i := 1114) (by decide +kernel) (by decide +kernel)
theorem q_1115 : .code yX7_move cX7_move 6 (some .int) ∈ gW := gW_in (i := 1115) (by decide +kernel) (by decide +kernel)
theorem q_1116 : .methodLink RX7 50 arraycopyName ∈ gW := gW_in (i := 1116) (by decide +kernel) (by decide +kernel)
theorem q_1121 : .methodLink RX10 364 yX7_refusalOfLink ∈ gW := gW_in (i := 1121) (by decide +kernel) (by decide +kernel)
theorem q_1122 : .instanceMethod yX7_refusalOfLink ∈ gW := gW_in (i := 1122) (by decide +kernel) (by decide +kernel)
theorem q_1123 : .selects RX7 yX7_refusalOfLink yX7_refusalOfLink ∈ gW := gW_in (i := 1123) (by decide +kernel) (by decide +kernel)
theorem q_1124 : .code yX7_refusalOfLink cX7_refusalOfLink 2 (some .int) ∈ gW := gW_in (i := 1124) (by decide +kernel) (by decide +kernel)
theorem q_1125 : .methodLink RX7 34 yX7_refusalOfRow ∈ gW := gW_in (i := 1125) (by decide +kernel) (by decide +kernel)
theorem q_1126 : .methodLink RX10 370 yX6_kindOf ∈ gW := gW_in (i := 1126) (by decide +kernel) (by decide +kernel)
theorem q_1127 : .instanceMethod yX6_kindOf ∈ gW := gW_in (i := 1127) (by decide +kernel) (by decide +kernel)
theorem q_1128 : .selects RX6 yX6_kindOf yX6_kindOf ∈ gW := gW_in (i := 1128) (by decide +kernel) (by decide +kernel)
theorem q_1129 : .code yX6_kindOf cX6_kindOf 2 (some .int) ∈ gW := gW_in (i := 1129) (by decide +kernel) (by decide +kernel)
theorem q_1130 : .methodLink RX10 373 yX6_isUnder ∈ gW := gW_in (i := 1130) (by decide +kernel) (by decide +kernel)
theorem q_1131 : .static yX6_isUnder ∈ gW := gW_in (i := 1131) (by decide +kernel) (by decide +kernel)
theorem q_1132 : .code yX6_isUnder cX6_isUnder 4 (some .boolean) ∈ gW := gW_in (i := 1132) (by decide +kernel) (by decide +kernel)
theorem q_1143 : .fieldLink RX11 9 "ChainsHoldModel" "may" "[I" ∈ gW := gW_in (i := 1143) (by decide +kernel) (by decide +kernel)
theorem q_1144 : .fieldLink RX11 13 "ChainsHoldModel" "changeAt" "[I" ∈ gW := gW_in (i := 1144) (by decide +kernel) (by decide +kernel)
theorem q_1145 : .fieldLink RX11 16 "ChainsHoldModel" "changeWas" "[I" ∈ gW := gW_in (i := 1145) (by decide +kernel) (by decide +kernel)
theorem q_1146 : .fieldLink RX11 19 "ChainsHoldModel" "changeIs" "[I" ∈ gW := gW_in (i := 1146) (by decide +kernel) (by decide +kernel)
theorem q_1147 : .fieldLink RX11 78 "ChainsHoldModel" "keptMany" "I" ∈ gW := gW_in (i := 1147) (by decide +kernel) (by decide +kernel)
theorem q_1148 : .fieldLink RX11 75 "ChainsHoldModel" "done" "I" ∈ gW := gW_in (i := 1148) (by decide +kernel) (by decide +kernel)
theorem q_1149 : .fieldLink RX11 81 "ChainsHoldModel" "people" "I" ∈ gW := gW_in (i := 1149) (by decide +kernel) (by decide +kernel)
theorem q_1150 : .fieldLink RX11 88 "ChainsHoldModel" "promises" "I" ∈ gW := gW_in (i := 1150) (by decide +kernel) (by decide +kernel)
theorem q_1151 : .fieldLink RX11 22 "ChainsHoldModel" "owner" "[I" ∈ gW := gW_in (i := 1151) (by decide +kernel) (by decide +kernel)
theorem q_1152 : .fieldLink RX11 25 "ChainsHoldModel" "made" "[I" ∈ gW := gW_in (i := 1152) (by decide +kernel) (by decide +kernel)
theorem q_1153 : .fieldLink RX11 28 "ChainsHoldModel" "tape" "[I" ∈ gW := gW_in (i := 1153) (by decide +kernel) (by decide +kernel)
theorem q_1154 : .fieldLink RX11 145 "ChainsHoldModel" "tapeMany" "I" ∈ gW := gW_in (i := 1154) (by decide +kernel) (by decide +kernel)
theorem q_1155 : .fieldLink RX11 31 "ChainsHoldModel" "text" "[I" ∈ gW := gW_in (i := 1155) (by decide +kernel) (by decide +kernel)
theorem q_1156 : .fieldLink RX11 71 "ChainsHoldModel" "textMany" "I" ∈ gW := gW_in (i := 1156) (by decide +kernel) (by decide +kernel)
theorem q_1157 : .fieldLink RX11 154 "ChainsHoldModel" "base" "I" ∈ gW := gW_in (i := 1157) (by decide +kernel) (by decide +kernel)
theorem q_1158 : .fieldLink RX11 148 "ChainsHoldModel" "at" "I" ∈ gW := gW_in (i := 1158) (by decide +kernel) (by decide +kernel)
theorem q_1159 : .fieldLink RX11 151 "ChainsHoldModel" "ends" "I" ∈ gW := gW_in (i := 1159) (by decide +kernel) (by decide +kernel)
theorem q_1160 : .fieldLink RX11 157 "ChainsHoldModel" "fault" "I" ∈ gW := gW_in (i := 1160) (by decide +kernel) (by decide +kernel)
theorem q_1161 : .fieldLink RX11 182 "ChainsHoldModel" "opened" "I" ∈ gW := gW_in (i := 1161) (by decide +kernel) (by decide +kernel)
theorem q_1162 : .fieldLink RX11 34 "ChainsHoldModel" "names" "[I" ∈ gW := gW_in (i := 1162) (by decide +kernel) (by decide +kernel)
theorem q_1163 : .fieldLink RX11 37 "ChainsHoldModel" "left" "[I" ∈ gW := gW_in (i := 1163) (by decide +kernel) (by decide +kernel)
theorem q_1164 : .fieldLink RX11 40 "ChainsHoldModel" "hadKept" "[I" ∈ gW := gW_in (i := 1164) (by decide +kernel) (by decide +kernel)
theorem q_1165 : .fieldLink RX11 265 "ChainsHoldModel" "now" "I" ∈ gW := gW_in (i := 1165) (by decide +kernel) (by decide +kernel)
theorem q_1166 : .fieldLink RX11 43 "ChainsHoldModel" "ledNow" "[I" ∈ gW := gW_in (i := 1166) (by decide +kernel) (by decide +kernel)
theorem q_1167 : .fieldLink RX11 268 "ChainsHoldModel" "isKept" "Z" ∈ gW := gW_in (i := 1167) (by decide +kernel) (by decide +kernel)
theorem q_1168 : .fieldLink RX11 272 "ChainsHoldModel" "imagePromises" "I" ∈ gW := gW_in (i := 1168) (by decide +kernel) (by decide +kernel)
theorem q_1169 : .fieldLink RX11 275 "ChainsHoldModel" "imageNow" "I" ∈ gW := gW_in (i := 1169) (by decide +kernel) (by decide +kernel)
theorem q_1170 : .fieldLink RX11 46 "ChainsHoldModel" "imageKept" "[I" ∈ gW := gW_in (i := 1170) (by decide +kernel) (by decide +kernel)
theorem q_1171 : .fieldLink RX11 49 "ChainsHoldModel" "imageLed" "[I" ∈ gW := gW_in (i := 1171) (by decide +kernel) (by decide +kernel)
theorem q_1172 : .fieldLink RX11 278 "ChainsHoldModel" "bodies" "I" ∈ gW := gW_in (i := 1172) (by decide +kernel) (by decide +kernel)
theorem q_1173 : .fieldLink RX11 52 "ChainsHoldModel" "bodyKind" "[I" ∈ gW := gW_in (i := 1173) (by decide +kernel) (by decide +kernel)
theorem q_1174 : .fieldLink RX11 55 "ChainsHoldModel" "trace" "[I" ∈ gW := gW_in (i := 1174) (by decide +kernel) (by decide +kernel)
theorem q_1175 : .fieldLink RX11 283 "ChainsHoldModel" "ran" "I" ∈ gW := gW_in (i := 1175) (by decide +kernel) (by decide +kernel)
theorem q_1176 : .fieldLink RX11 299 "ChainsHoldModel" "ownKind" "I" ∈ gW := gW_in (i := 1176) (by decide +kernel) (by decide +kernel)
theorem q_1177 : .fieldLink RX11 293 "ChainsHoldModel" "ownNumber" "I" ∈ gW := gW_in (i := 1177) (by decide +kernel) (by decide +kernel)
theorem q_1178 : .fieldLink RX11 58 "ChainsHoldModel" "shelf" "[I" ∈ gW := gW_in (i := 1178) (by decide +kernel) (by decide +kernel)
theorem q_1179 : .fieldLink RX11 61 "ChainsHoldModel" "many" "[I" ∈ gW := gW_in (i := 1179) (by decide +kernel) (by decide +kernel)
theorem q_1180 : .fieldLink RX11 64 "ChainsHoldModel" "items" "[J" ∈ gW := gW_in (i := 1180) (by decide +kernel) (by decide +kernel)
theorem q_1181 : .fieldLink RX11 68 "ChainsHoldModel" "carried" "[J" ∈ gW := gW_in (i := 1181) (by decide +kernel) (by decide +kernel)
theorem q_1273 : .constantLong RX11 93 (30) ∈ gW := gW_in (i := 1273) (by decide +kernel) (by decide +kernel)
theorem q_1274 : .methodLink RX11 84 yX11_within ∈ gW := gW_in (i := 1274) (by decide +kernel) (by decide +kernel)
theorem q_1275 : .static yX11_within ∈ gW := gW_in (i := 1275) (by decide +kernel) (by decide +kernel)
theorem q_1276 : .code yX11_within cX11_within 6 (some .boolean) ∈ gW := gW_in (i := 1276) (by decide +kernel) (by decide +kernel)
theorem q_1277 : .constantLong RX11 95 (60) ∈ gW := gW_in (i := 1277) (by decide +kernel) (by decide +kernel)
theorem q_1282 : .methodLink RX11 106 yX11_mayCome ∈ gW := gW_in (i := 1282) (by decide +kernel) (by decide +kernel)
theorem q_1284 : .instanceMethod yX11_mayCome ∈ gW := gW_in (i := 1284) (by decide +kernel) (by decide +kernel)
theorem q_1285 : .code yX11_mayCome cX11_mayCome 9 (some .boolean) ∈ gW := gW_in (i := 1285) (by decide +kernel) (by decide +kernel)
theorem q_1286 : .methodLink RX11 97 yX11_isOne ∈ gW := gW_in (i := 1286) (by decide +kernel) (by decide +kernel)
theorem q_1288 : .instanceMethod yX11_isOne ∈ gW := gW_in (i := 1288) (by decide +kernel) (by decide +kernel)
theorem q_1289 : .code yX11_isOne cX11_isOne 3 (some .boolean) ∈ gW := gW_in (i := 1289) (by decide +kernel) (by decide +kernel)
theorem q_1290 : .methodLink RX11 101 yX11_isDay ∈ gW := gW_in (i := 1290) (by decide +kernel) (by decide +kernel)
theorem q_1291 : .static yX11_isDay ∈ gW := gW_in (i := 1291) (by decide +kernel) (by decide +kernel)
theorem q_1292 : .code yX11_isDay cX11_isDay 2 (some .boolean) ∈ gW := gW_in (i := 1292) (by decide +kernel) (by decide +kernel)
theorem q_1293 : .constantLong RX11 91 (99) ∈ gW := gW_in (i := 1293) (by decide +kernel) (by decide +kernel)
theorem q_1294 : .constantLong RX11 104 (9) ∈ gW := gW_in (i := 1294) (by decide +kernel) (by decide +kernel)
theorem q_1295 : .methodLink RX11 110 yX11_adds ∈ gW := gW_in (i := 1295) (by decide +kernel) (by decide +kernel)
theorem q_1297 : .instanceMethod yX11_adds ∈ gW := gW_in (i := 1297) (by decide +kernel) (by decide +kernel)
theorem q_1298 : .code yX11_adds cX11_adds 5 (some .int) ∈ gW := gW_in (i := 1298) (by decide +kernel) (by decide +kernel)
theorem q_1303 : .methodLink RX11 114 yX11_isShelf ∈ gW := gW_in (i := 1303) (by decide +kernel) (by decide +kernel)
theorem q_1304 : .static yX11_isShelf ∈ gW := gW_in (i := 1304) (by decide +kernel) (by decide +kernel)
theorem q_1305 : .code yX11_isShelf cX11_isShelf 1 (some .boolean) ∈ gW := gW_in (i := 1305) (by decide +kernel) (by decide +kernel)
theorem q_1306 : .constantLong RX11 311 (5) ∈ gW := gW_in (i := 1306) (by decide +kernel) (by decide +kernel)
theorem q_1307 : .constantLong RX11 118 (10) ∈ gW := gW_in (i := 1307) (by decide +kernel) (by decide +kernel)
theorem q_1312 : .methodLink RX11 131 yX11_placeOf ∈ gW := gW_in (i := 1312) (by decide +kernel) (by decide +kernel)
theorem q_1314 : .instanceMethod yX11_placeOf ∈ gW := gW_in (i := 1314) (by decide +kernel) (by decide +kernel)
theorem q_1315 : .code yX11_placeOf cX11_placeOf 3 (some .int) ∈ gW := gW_in (i := 1315) (by decide +kernel) (by decide +kernel)
theorem q_1316 : .constantLong RX11 120 (2) ∈ gW := gW_in (i := 1316) (by decide +kernel) (by decide +kernel)
theorem q_1317 : .constantLong RX11 122 (3) ∈ gW := gW_in (i := 1317) (by decide +kernel) (by decide +kernel)
theorem q_1318 : .constantLong RX11 124 (6) ∈ gW := gW_in (i := 1318) (by decide +kernel) (by decide +kernel)
theorem q_1319 : .methodLink RX11 126 yX11_isPromise ∈ gW := gW_in (i := 1319) (by decide +kernel) (by decide +kernel)
theorem q_1321 : .instanceMethod yX11_isPromise ∈ gW := gW_in (i := 1321) (by decide +kernel) (by decide +kernel)
theorem q_1322 : .code yX11_isPromise cX11_isPromise 3 (some .boolean) ∈ gW := gW_in (i := 1322) (by decide +kernel) (by decide +kernel)
theorem q_1323 : .methodLink RX11 135 yX11_mayBecome ∈ gW := gW_in (i := 1323) (by decide +kernel) (by decide +kernel)
theorem q_1325 : .instanceMethod yX11_mayBecome ∈ gW := gW_in (i := 1325) (by decide +kernel) (by decide +kernel)
theorem q_1326 : .code yX11_mayBecome cX11_mayBecome 4 (some .boolean) ∈ gW := gW_in (i := 1326) (by decide +kernel) (by decide +kernel)
theorem q_1327 : .constantLong RX11 129 (-1) ∈ gW := gW_in (i := 1327) (by decide +kernel) (by decide +kernel)
theorem q_1328 : .methodLink RX11 139 yX11_becomes ∈ gW := gW_in (i := 1328) (by decide +kernel) (by decide +kernel)
theorem q_1330 : .instanceMethod yX11_becomes ∈ gW := gW_in (i := 1330) (by decide +kernel) (by decide +kernel)
theorem q_1331 : .code yX11_becomes cX11_becomes 5 (some .int) ∈ gW := gW_in (i := 1331) (by decide +kernel) (by decide +kernel)
theorem q_1332 : .constant RX11 142 (-2000000000) ∈ gW := gW_in (i := 1332) (by decide +kernel) (by decide +kernel)
theorem q_1341 : .constantLong RX11 143 (255) ∈ gW := gW_in (i := 1341) (by decide +kernel) (by decide +kernel)
theorem q_1346 : .methodLink RX11 195 yX11_workOut ∈ gW := gW_in (i := 1346) (by decide +kernel) (by decide +kernel)
theorem q_1348 : .instanceMethod yX11_workOut ∈ gW := gW_in (i := 1348) (by decide +kernel) (by decide +kernel)
theorem q_1349 : .code yX11_workOut cX11_workOut 8 (some .int) ∈ gW := gW_in (i := 1349) (by decide +kernel) (by decide +kernel)
theorem q_1350 : .methodLink RX11 188 yX11_either ∈ gW := gW_in (i := 1350) (by decide +kernel) (by decide +kernel)
theorem q_1352 : .instanceMethod yX11_either ∈ gW := gW_in (i := 1352) (by decide +kernel) (by decide +kernel)
theorem q_1353 : .code yX11_either cX11_either 3 (some .int) ∈ gW := gW_in (i := 1353) (by decide +kernel) (by decide +kernel)
theorem q_1354 : .methodLink RX11 164 yX11_both ∈ gW := gW_in (i := 1354) (by decide +kernel) (by decide +kernel)
theorem q_1356 : .instanceMethod yX11_both ∈ gW := gW_in (i := 1356) (by decide +kernel) (by decide +kernel)
theorem q_1357 : .code yX11_both cX11_both 3 (some .int) ∈ gW := gW_in (i := 1357) (by decide +kernel) (by decide +kernel)
theorem q_1358 : .methodLink RX11 170 yX11_compared ∈ gW := gW_in (i := 1358) (by decide +kernel) (by decide +kernel)
theorem q_1360 : .instanceMethod yX11_compared ∈ gW := gW_in (i := 1360) (by decide +kernel) (by decide +kernel)
theorem q_1361 : .code yX11_compared cX11_compared 4 (some .int) ∈ gW := gW_in (i := 1361) (by decide +kernel) (by decide +kernel)
theorem q_1362 : .methodLink RX11 173 yX11_sums ∈ gW := gW_in (i := 1362) (by decide +kernel) (by decide +kernel)
theorem q_1364 : .instanceMethod yX11_sums ∈ gW := gW_in (i := 1364) (by decide +kernel) (by decide +kernel)
theorem q_1365 : .code yX11_sums cX11_sums 4 (some .int) ∈ gW := gW_in (i := 1365) (by decide +kernel) (by decide +kernel)
theorem q_1366 : .methodLink RX11 176 yX11_product ∈ gW := gW_in (i := 1366) (by decide +kernel) (by decide +kernel)
theorem q_1368 : .instanceMethod yX11_product ∈ gW := gW_in (i := 1368) (by decide +kernel) (by decide +kernel)
theorem q_1369 : .code yX11_product cX11_product 4 (some .int) ∈ gW := gW_in (i := 1369) (by decide +kernel) (by decide +kernel)
theorem q_1370 : .methodLink RX11 179 yX11_one ∈ gW := gW_in (i := 1370) (by decide +kernel) (by decide +kernel)
theorem q_1372 : .instanceMethod yX11_one ∈ gW := gW_in (i := 1372) (by decide +kernel) (by decide +kernel)
theorem q_1373 : .code yX11_one cX11_one 5 (some .int) ∈ gW := gW_in (i := 1373) (by decide +kernel) (by decide +kernel)
theorem q_1374 : .methodLink RX11 160 yX11_byteAt ∈ gW := gW_in (i := 1374) (by decide +kernel) (by decide +kernel)
theorem q_1376 : .instanceMethod yX11_byteAt ∈ gW := gW_in (i := 1376) (by decide +kernel) (by decide +kernel)
theorem q_1377 : .code yX11_byteAt cX11_byteAt 1 (some .int) ∈ gW := gW_in (i := 1377) (by decide +kernel) (by decide +kernel)
theorem q_1378 : .methodLink RX11 185 yX11_wrong ∈ gW := gW_in (i := 1378) (by decide +kernel) (by decide +kernel)
theorem q_1380 : .instanceMethod yX11_wrong ∈ gW := gW_in (i := 1380) (by decide +kernel) (by decide +kernel)
theorem q_1381 : .code yX11_wrong cX11_wrong 1 (some .int) ∈ gW := gW_in (i := 1381) (by decide +kernel) (by decide +kernel)
theorem q_1382 : .methodLink RX11 167 yX11_takes ∈ gW := gW_in (i := 1382) (by decide +kernel) (by decide +kernel)
theorem q_1384 : .instanceMethod yX11_takes ∈ gW := gW_in (i := 1384) (by decide +kernel) (by decide +kernel)
theorem q_1385 : .code yX11_takes cX11_takes 2 (some .boolean) ∈ gW := gW_in (i := 1385) (by decide +kernel) (by decide +kernel)
theorem q_1386 : .methodLink RX11 191 yX11_nameOf ∈ gW := gW_in (i := 1386) (by decide +kernel) (by decide +kernel)
theorem q_1387 : .static yX11_nameOf ∈ gW := gW_in (i := 1387) (by decide +kernel) (by decide +kernel)
theorem q_1388 : .code yX11_nameOf cX11_nameOf 1 (some .int) ∈ gW := gW_in (i := 1388) (by decide +kernel) (by decide +kernel)
theorem q_1393 : .methodLink RX11 205 yX11_chainOf ∈ gW := gW_in (i := 1393) (by decide +kernel) (by decide +kernel)
theorem q_1395 : .instanceMethod yX11_chainOf ∈ gW := gW_in (i := 1395) (by decide +kernel) (by decide +kernel)
theorem q_1396 : .code yX11_chainOf cX11_chainOf 5 (some .int) ∈ gW := gW_in (i := 1396) (by decide +kernel) (by decide +kernel)
theorem q_1397 : .methodLink RX11 198 yX11_isOf ∈ gW := gW_in (i := 1397) (by decide +kernel) (by decide +kernel)
theorem q_1399 : .instanceMethod yX11_isOf ∈ gW := gW_in (i := 1399) (by decide +kernel) (by decide +kernel)
theorem q_1400 : .code yX11_isOf cX11_isOf 3 (some .boolean) ∈ gW := gW_in (i := 1400) (by decide +kernel) (by decide +kernel)
theorem q_1401 : .methodLink RX11 202 yX11_isOpen ∈ gW := gW_in (i := 1401) (by decide +kernel) (by decide +kernel)
theorem q_1403 : .instanceMethod yX11_isOpen ∈ gW := gW_in (i := 1403) (by decide +kernel) (by decide +kernel)
theorem q_1404 : .code yX11_isOpen cX11_isOpen 3 (some .boolean) ∈ gW := gW_in (i := 1404) (by decide +kernel) (by decide +kernel)
theorem q_1405 : .methodLink RX11 214 yX11_doesRide ∈ gW := gW_in (i := 1405) (by decide +kernel) (by decide +kernel)
theorem q_1407 : .instanceMethod yX11_doesRide ∈ gW := gW_in (i := 1407) (by decide +kernel) (by decide +kernel)
theorem q_1408 : .code yX11_doesRide cX11_doesRide 3 (some .boolean) ∈ gW := gW_in (i := 1408) (by decide +kernel) (by decide +kernel)
theorem q_1409 : .methodLink RX11 208 yX11_goesRound ∈ gW := gW_in (i := 1409) (by decide +kernel) (by decide +kernel)
theorem q_1411 : .instanceMethod yX11_goesRound ∈ gW := gW_in (i := 1411) (by decide +kernel) (by decide +kernel)
theorem q_1412 : .code yX11_goesRound cX11_goesRound 3 (some .boolean) ∈ gW := gW_in (i := 1412) (by decide +kernel) (by decide +kernel)
theorem q_1413 : .methodLink RX11 217 yX11_creaksOf ∈ gW := gW_in (i := 1413) (by decide +kernel) (by decide +kernel)
theorem q_1415 : .instanceMethod yX11_creaksOf ∈ gW := gW_in (i := 1415) (by decide +kernel) (by decide +kernel)
theorem q_1416 : .code yX11_creaksOf cX11_creaksOf 5 (some .int) ∈ gW := gW_in (i := 1416) (by decide +kernel) (by decide +kernel)
theorem q_1417 : .methodLink RX11 211 yX11_creakOf ∈ gW := gW_in (i := 1417) (by decide +kernel) (by decide +kernel)
theorem q_1419 : .instanceMethod yX11_creakOf ∈ gW := gW_in (i := 1419) (by decide +kernel) (by decide +kernel)
theorem q_1420 : .code yX11_creakOf cX11_creakOf 5 (some .int) ∈ gW := gW_in (i := 1420) (by decide +kernel) (by decide +kernel)
theorem q_1421 : .methodLink RX11 220 yX11_debtOf ∈ gW := gW_in (i := 1421) (by decide +kernel) (by decide +kernel)
theorem q_1423 : .instanceMethod yX11_debtOf ∈ gW := gW_in (i := 1423) (by decide +kernel) (by decide +kernel)
theorem q_1424 : .code yX11_debtOf cX11_debtOf 5 (some .int) ∈ gW := gW_in (i := 1424) (by decide +kernel) (by decide +kernel)
theorem q_1441 : .methodLink RX11 223 yX11_ridersOn ∈ gW := gW_in (i := 1441) (by decide +kernel) (by decide +kernel)
theorem q_1443 : .instanceMethod yX11_ridersOn ∈ gW := gW_in (i := 1443) (by decide +kernel) (by decide +kernel)
theorem q_1444 : .code yX11_ridersOn cX11_ridersOn 4 (some .int) ∈ gW := gW_in (i := 1444) (by decide +kernel) (by decide +kernel)
theorem q_1449 : .methodLink RX11 226 yX11_bitsOf ∈ gW := gW_in (i := 1449) (by decide +kernel) (by decide +kernel)
theorem q_1450 : .static yX11_bitsOf ∈ gW := gW_in (i := 1450) (by decide +kernel) (by decide +kernel)
theorem q_1451 : .code yX11_bitsOf cX11_bitsOf 3 (some .int) ∈ gW := gW_in (i := 1451) (by decide +kernel) (by decide +kernel)
theorem q_1456 : .methodLink RX11 238 yX11_lets ∈ gW := gW_in (i := 1456) (by decide +kernel) (by decide +kernel)
theorem q_1458 : .instanceMethod yX11_lets ∈ gW := gW_in (i := 1458) (by decide +kernel) (by decide +kernel)
theorem q_1459 : .code yX11_lets cX11_lets 4 (some .boolean) ∈ gW := gW_in (i := 1459) (by decide +kernel) (by decide +kernel)
theorem q_1460 : .methodLink RX11 232 yX11_ownOpen ∈ gW := gW_in (i := 1460) (by decide +kernel) (by decide +kernel)
theorem q_1462 : .instanceMethod yX11_ownOpen ∈ gW := gW_in (i := 1462) (by decide +kernel) (by decide +kernel)
theorem q_1463 : .code yX11_ownOpen cX11_ownOpen 5 (some .int) ∈ gW := gW_in (i := 1463) (by decide +kernel) (by decide +kernel)
theorem q_1464 : .methodLink RX11 235 yX11_linksOf ∈ gW := gW_in (i := 1464) (by decide +kernel) (by decide +kernel)
theorem q_1466 : .instanceMethod yX11_linksOf ∈ gW := gW_in (i := 1466) (by decide +kernel) (by decide +kernel)
theorem q_1467 : .code yX11_linksOf cX11_linksOf 4 (some .int) ∈ gW := gW_in (i := 1467) (by decide +kernel) (by decide +kernel)
theorem q_1468 : .methodLink RX11 229 yX11_isIn ∈ gW := gW_in (i := 1468) (by decide +kernel) (by decide +kernel)
theorem q_1469 : .static yX11_isIn ∈ gW := gW_in (i := 1469) (by decide +kernel) (by decide +kernel)
theorem q_1470 : .code yX11_isIn cX11_isIn 2 (some .boolean) ∈ gW := gW_in (i := 1470) (by decide +kernel) (by decide +kernel)
theorem q_1483 : .methodLink RX11 241 yX11_allOf ∈ gW := gW_in (i := 1483) (by decide +kernel) (by decide +kernel)
theorem q_1485 : .instanceMethod yX11_allOf ∈ gW := gW_in (i := 1485) (by decide +kernel) (by decide +kernel)
theorem q_1486 : .code yX11_allOf cX11_allOf 4 (some .int) ∈ gW := gW_in (i := 1486) (by decide +kernel) (by decide +kernel)
theorem q_1487 : .methodLink RX11 244 yX11_areAbleTo ∈ gW := gW_in (i := 1487) (by decide +kernel) (by decide +kernel)
theorem q_1489 : .instanceMethod yX11_areAbleTo ∈ gW := gW_in (i := 1489) (by decide +kernel) (by decide +kernel)
theorem q_1490 : .code yX11_areAbleTo cX11_areAbleTo 5 (some .boolean) ∈ gW := gW_in (i := 1490) (by decide +kernel) (by decide +kernel)
theorem q_1499 : .methodLink RX11 247 yX11_isClash ∈ gW := gW_in (i := 1499) (by decide +kernel) (by decide +kernel)
theorem q_1501 : .instanceMethod yX11_isClash ∈ gW := gW_in (i := 1501) (by decide +kernel) (by decide +kernel)
theorem q_1502 : .code yX11_isClash cX11_isClash 3 (some .boolean) ∈ gW := gW_in (i := 1502) (by decide +kernel) (by decide +kernel)
theorem q_1507 : .methodLink RX11 250 yX11_ridersBy ∈ gW := gW_in (i := 1507) (by decide +kernel) (by decide +kernel)
theorem q_1509 : .instanceMethod yX11_ridersBy ∈ gW := gW_in (i := 1509) (by decide +kernel) (by decide +kernel)
theorem q_1510 : .code yX11_ridersBy cX11_ridersBy 6 (some .int) ∈ gW := gW_in (i := 1510) (by decide +kernel) (by decide +kernel)
theorem q_1519 : .methodLink RX11 254 yX11_shortsIs ∈ gW := gW_in (i := 1519) (by decide +kernel) (by decide +kernel)
theorem q_1521 : .instanceMethod yX11_shortsIs ∈ gW := gW_in (i := 1521) (by decide +kernel) (by decide +kernel)
theorem q_1522 : .code yX11_shortsIs cX11_shortsIs 2 (some .int) ∈ gW := gW_in (i := 1522) (by decide +kernel) (by decide +kernel)
theorem q_1523 : .methodLink RX11 257 yX11_firstFalse ∈ gW := gW_in (i := 1523) (by decide +kernel) (by decide +kernel)
theorem q_1525 : .instanceMethod yX11_firstFalse ∈ gW := gW_in (i := 1525) (by decide +kernel) (by decide +kernel)
theorem q_1526 : .code yX11_firstFalse cX11_firstFalse 4 (some .int) ∈ gW := gW_in (i := 1526) (by decide +kernel) (by decide +kernel)
theorem q_1539 : .methodLink RX11 260 yX11_winsFrom ∈ gW := gW_in (i := 1539) (by decide +kernel) (by decide +kernel)
theorem q_1541 : .instanceMethod yX11_winsFrom ∈ gW := gW_in (i := 1541) (by decide +kernel) (by decide +kernel)
theorem q_1542 : .code yX11_winsFrom cX11_winsFrom 7 (some .boolean) ∈ gW := gW_in (i := 1542) (by decide +kernel) (by decide +kernel)
theorem q_1551 : .constant RX11 264 (1103515245) ∈ gW := gW_in (i := 1551) (by decide +kernel) (by decide +kernel)
theorem q_1580 : .constantLong RX11 281 (7) ∈ gW := gW_in (i := 1580) (by decide +kernel) (by decide +kernel)
theorem q_1585 : .methodLink RX11 308 yX11_isBody ∈ gW := gW_in (i := 1585) (by decide +kernel) (by decide +kernel)
theorem q_1587 : .instanceMethod yX11_isBody ∈ gW := gW_in (i := 1587) (by decide +kernel) (by decide +kernel)
theorem q_1588 : .code yX11_isBody cX11_isBody 2 (some .boolean) ∈ gW := gW_in (i := 1588) (by decide +kernel) (by decide +kernel)
theorem q_1589 : .methodLink RX11 290 yX11_holdsAs ∈ gW := gW_in (i := 1589) (by decide +kernel) (by decide +kernel)
theorem q_1591 : .instanceMethod yX11_holdsAs ∈ gW := gW_in (i := 1591) (by decide +kernel) (by decide +kernel)
theorem q_1592 : .code yX11_holdsAs cX11_holdsAs 3 (some .int) ∈ gW := gW_in (i := 1592) (by decide +kernel) (by decide +kernel)
theorem q_1593 : .methodLink RX11 286 yX11_runs ∈ gW := gW_in (i := 1593) (by decide +kernel) (by decide +kernel)
theorem q_1595 : .instanceMethod yX11_runs ∈ gW := gW_in (i := 1595) (by decide +kernel) (by decide +kernel)
theorem q_1596 : .code yX11_runs cX11_runs 2 none ∈ gW := gW_in (i := 1596) (by decide +kernel) (by decide +kernel)
theorem q_1597 : .methodLink RX11 296 yX11_ridesAs ∈ gW := gW_in (i := 1597) (by decide +kernel) (by decide +kernel)
theorem q_1599 : .instanceMethod yX11_ridesAs ∈ gW := gW_in (i := 1599) (by decide +kernel) (by decide +kernel)
theorem q_1600 : .code yX11_ridesAs cX11_ridesAs 4 (some .int) ∈ gW := gW_in (i := 1600) (by decide +kernel) (by decide +kernel)
theorem q_1601 : .methodLink RX11 302 yX11_creaksAs ∈ gW := gW_in (i := 1601) (by decide +kernel) (by decide +kernel)
theorem q_1603 : .instanceMethod yX11_creaksAs ∈ gW := gW_in (i := 1603) (by decide +kernel) (by decide +kernel)
theorem q_1604 : .code yX11_creaksAs cX11_creaksAs 4 (some .int) ∈ gW := gW_in (i := 1604) (by decide +kernel) (by decide +kernel)
theorem q_1605 : .methodLink RX11 305 yX11_tellsAs ∈ gW := gW_in (i := 1605) (by decide +kernel) (by decide +kernel)
theorem q_1607 : .instanceMethod yX11_tellsAs ∈ gW := gW_in (i := 1607) (by decide +kernel) (by decide +kernel)
theorem q_1608 : .code yX11_tellsAs cX11_tellsAs 4 (some .int) ∈ gW := gW_in (i := 1608) (by decide +kernel) (by decide +kernel)
theorem q_1621 : .constantLong RX11 313 (4) ∈ gW := gW_in (i := 1621) (by decide +kernel) (by decide +kernel)
theorem q_1626 : .methodLink RX11 315 yX11_refusal ∈ gW := gW_in (i := 1626) (by decide +kernel) (by decide +kernel)
theorem q_1628 : .instanceMethod yX11_refusal ∈ gW := gW_in (i := 1628) (by decide +kernel) (by decide +kernel)
theorem q_1629 : .code yX11_refusal cX11_refusal 3 (some .int) ∈ gW := gW_in (i := 1629) (by decide +kernel) (by decide +kernel)
theorem q_1630 : .methodLink RX11 318 yX11_asSort ∈ gW := gW_in (i := 1630) (by decide +kernel) (by decide +kernel)
theorem q_1631 : .static yX11_asSort ∈ gW := gW_in (i := 1631) (by decide +kernel) (by decide +kernel)
theorem q_1632 : .code yX11_asSort cX11_asSort 3 (some .long) ∈ gW := gW_in (i := 1632) (by decide +kernel) (by decide +kernel)
theorem q_1637 : .constantLong RX11 324 (-9223372036854775808) ∈ gW := gW_in (i := 1637) (by decide +kernel) (by decide +kernel)
theorem q_1646 : .methodLink RX11 326 yX11_kindOf ∈ gW := gW_in (i := 1646) (by decide +kernel) (by decide +kernel)
theorem q_1648 : .instanceMethod yX11_kindOf ∈ gW := gW_in (i := 1648) (by decide +kernel) (by decide +kernel)
theorem q_1649 : .code yX11_kindOf cX11_kindOf 2 (some .int) ∈ gW := gW_in (i := 1649) (by decide +kernel) (by decide +kernel)
theorem q_1650 : .methodLink RX11 329 yX11_above ∈ gW := gW_in (i := 1650) (by decide +kernel) (by decide +kernel)
theorem q_1651 : .static yX11_above ∈ gW := gW_in (i := 1651) (by decide +kernel) (by decide +kernel)
theorem q_1652 : .code yX11_above cX11_above 1 (some .int) ∈ gW := gW_in (i := 1652) (by decide +kernel) (by decide +kernel)
theorem lk_X0_26 : LkV RX0 26 yX0_dropOldest cX0_dropOldest 1 none 0 := ⟨⟨q_496, q_83, q_493, q_495, q_2⟩, ⟨by decide, by decide, by decide +kernel⟩⟩
theorem lk_X8_60 : LkV RX8 60 yX8_rowOf cX8_rowOf 2 (some (.array .int)) 1 := ⟨⟨q_488, q_78, q_485, q_487, q_1⟩, ⟨by decide, by decide, by decide +kernel⟩⟩
theorem lk_X0_38 : LkV RX0 38 yX8_become cX8_become 4 none 3 := ⟨⟨q_503, q_78, q_998, q_501, q_502⟩, ⟨by decide, by decide, by decide +kernel⟩⟩
theorem lk_X5_68 : LkS RX5 68 yX5_levelOf cX5_levelOf 1 (some .int) 1 := ⟨⟨q_564, q_79, q_562, q_563⟩, ⟨by decide, by decide, by decide +kernel⟩⟩
theorem lk_X5_85 : LkV RX5 85 yX5_tell cX5_tell 7 none 6 := ⟨⟨q_622, q_79, q_619, q_621, q_11⟩, ⟨by decide, by decide, by decide +kernel⟩⟩
theorem lk_X5_92 : LkS RX5 92 yX5_operandsOf cX5_operandsOf 1 (some .int) 1 := ⟨⟨q_629, q_79, q_627, q_628⟩, ⟨by decide, by decide, by decide +kernel⟩⟩
theorem lk_X5_95 : LkS RX5 95 yJ9_max_7cf53 cJ9_max_7cf53 2 (some .int) 2 := ⟨⟨q_632, q_91, q_630, q_631⟩, ⟨by decide, by decide, by decide +kernel⟩⟩
theorem lk_X5_101 : LkV RX5 101 yX5_result cX5_result 4 (some .int) 3 := ⟨⟨q_636, q_79, q_633, q_635, q_13⟩, ⟨by decide, by decide, by decide +kernel⟩⟩
theorem lk_X5_105 : LkS RX5 105 yJ9_min_7cf53 cJ9_min_7cf53 2 (some .int) 2 := ⟨⟨q_639, q_91, q_637, q_638⟩, ⟨by decide, by decide, by decide +kernel⟩⟩
theorem lk_X5_89 : LkV RX5 89 yX5_lineEndFrom cX5_lineEndFrom 3 (some .int) 1 := ⟨⟨q_626, q_79, q_623, q_625, q_12⟩, ⟨by decide, by decide, by decide +kernel⟩⟩
theorem lk_X8_64 : LkV RX8 64 yX8_isOpen cX8_isOpen 3 (some .boolean) 2 := ⟨⟨q_583, q_78, q_580, q_581, q_582⟩, ⟨by decide, by decide, by decide +kernel⟩⟩
theorem lk_X8_68 : LkV RX8 68 yX8_concerns cX8_concerns 3 (some .boolean) 2 := ⟨⟨q_579, q_78, q_576, q_577, q_578⟩, ⟨by decide, by decide, by decide +kernel⟩⟩
theorem lk_X1_32 : LkV RX1 32 yX8_isOverDue cX8_isOverDue 3 (some .boolean) 2 := ⟨⟨q_605, q_78, q_602, q_603, q_604⟩, ⟨by decide, by decide, by decide +kernel⟩⟩
theorem lk_X1_45 : LkV RX1 45 yX5_hasText cX5_hasText 1 (some .boolean) 0 := ⟨⟨q_609, q_79, q_606, q_607, q_608⟩, ⟨by decide, by decide, by decide +kernel⟩⟩
theorem lk_X1_69 : LkS RX1 69 yJ9_min_7cf53 cJ9_min_7cf53 2 (some .int) 2 := ⟨⟨q_639, q_91, q_640, q_638⟩, ⟨by decide, by decide, by decide +kernel⟩⟩
theorem lk_X1_74 : LkS RX1 74 yJ9_max_7cf53 cJ9_max_7cf53 2 (some .int) 2 := ⟨⟨q_632, q_91, q_641, q_631⟩, ⟨by decide, by decide, by decide +kernel⟩⟩
theorem lk_X1_54 : LkV RX1 54 yX8_lengthOn cX8_lengthOn 5 (some .int) 2 := ⟨⟨q_575, q_78, q_610, q_573, q_574⟩, ⟨by decide, by decide, by decide +kernel⟩⟩
theorem lk_X1_61 : LkV RX1 61 yX8_isTied cX8_isTied 2 (some .boolean) 1 := ⟨⟨q_614, q_78, q_611, q_612, q_613⟩, ⟨by decide, by decide, by decide +kernel⟩⟩
theorem lk_X1_65 : LkV RX1 65 yX5_valueFor cX5_valueFor 10 (some .int) 6 := ⟨⟨q_618, q_79, q_615, q_616, q_617⟩, ⟨by decide, by decide, by decide +kernel⟩⟩
theorem lk_X1_81 : LkV RX1 81 yX8_concerns cX8_concerns 3 (some .boolean) 2 := ⟨⟨q_579, q_78, q_597, q_577, q_578⟩, ⟨by decide, by decide, by decide +kernel⟩⟩
theorem lk_X1_84 : LkV RX1 84 yX1_ofPromise cX1_ofPromise 6 (some .int) 2 := ⟨⟨q_601, q_87, q_598, q_599, q_600⟩, ⟨by decide, by decide, by decide +kernel⟩⟩
theorem lk_X1_87 : LkV RX1 87 yX1_ofAll cX1_ofAll 4 (some .int) 1 := ⟨⟨q_921, q_87, q_918, q_919, q_920⟩, ⟨by decide, by decide, by decide +kernel⟩⟩
theorem lk_X10_83 : LkS RX10 83 yX10_within cX10_within 3 (some .boolean) 3 := ⟨⟨q_411, q_77, q_409, q_410⟩, ⟨by decide, by decide, by decide +kernel⟩⟩
theorem lk_X1_94 : LkN RX1 94 yX10_isDay cX10_isDay 1 (some .boolean) 1 := ⟨⟨q_430, q_77, by decide +kernel, q_429⟩, ⟨by decide, by decide, by decide +kernel⟩⟩
theorem lk_X1_97 : LkV RX1 97 yX7_elementAt cX7_elementAt 3 (some .long) 2 := ⟨⟨q_463, q_80, q_858, q_461, q_462⟩, ⟨by decide, by decide, by decide +kernel⟩⟩
theorem lk_X1_101 : LkV RX1 101 yX1_ofOne cX1_ofOne 5 (some .int) 2 := ⟨⟨q_596, q_87, q_859, q_594, q_595⟩, ⟨by decide, by decide, by decide +kernel⟩⟩
theorem lk_X1_107 : LkV RX1 107 yX1_firstWrongDay cX1_firstWrongDay 4 (some .int) 2 := ⟨⟨q_856, q_87, q_888, q_854, q_855⟩, ⟨by decide, by decide, by decide +kernel⟩⟩
theorem lk_X1_113 : LkV RX1 113 yX1_isSoIfKeptOn cX1_isSoIfKeptOn 5 (some .boolean) 2 := ⟨⟨q_875, q_87, q_872, q_874, q_25⟩, ⟨by decide, by decide, by decide +kernel⟩⟩
theorem lk_X2_25 : LkS RX2 25 yJ7_fill_53178 cJ7_fill_53178 4 none 2 := ⟨⟨q_213, q_81, q_664, q_212⟩, ⟨by decide, by decide, by decide +kernel⟩⟩
theorem lk_X2_40 : LkV RX2 40 yX8_concerns cX8_concerns 3 (some .boolean) 2 := ⟨⟨q_579, q_78, q_665, q_577, q_578⟩, ⟨by decide, by decide, by decide +kernel⟩⟩
theorem lk_X8_53 : LkN RX8 53 yX10_within cX10_within 3 (some .boolean) 3 := ⟨⟨q_411, q_77, by decide +kernel, q_410⟩, ⟨by decide, by decide, by decide +kernel⟩⟩
theorem lk_X2_50 : LkV RX2 50 yX8_goesRound cX8_goesRound 3 (some .boolean) 2 := ⟨⟨q_592, q_78, q_670, q_590, q_591⟩, ⟨by decide, by decide, by decide +kernel⟩⟩
theorem lk_X2_53 : LkV RX2 53 yX2_ridesLaidOut cX2_ridesLaidOut 3 (some .boolean) 2 := ⟨⟨q_669, q_84, q_666, q_668, q_15⟩, ⟨by decide, by decide, by decide +kernel⟩⟩
theorem lk_X2_59 : LkV RX2 59 yX2_layOut cX2_layOut 5 none 2 := ⟨⟨q_663, q_84, q_660, q_662, q_14⟩, ⟨by decide, by decide, by decide +kernel⟩⟩
theorem lk_X2_63 : LkV RX2 63 yX2_ridesLaidOutWithin cX2_ridesLaidOutWithin 6 (some .int) 3 := ⟨⟨q_678, q_84, q_675, q_677, q_16⟩, ⟨by decide, by decide, by decide +kernel⟩⟩
theorem lk_X2_70 : LkV RX2 70 yX2_drawLife cX2_drawLife 5 (some .int) 1 := ⟨⟨q_934, q_84, q_931, q_933, q_27⟩, ⟨by decide, by decide, by decide +kernel⟩⟩
theorem lk_X2_75 : LkV RX2 75 yX8_isOpen cX8_isOpen 3 (some .boolean) 2 := ⟨⟨q_583, q_78, q_835, q_581, q_582⟩, ⟨by decide, by decide, by decide +kernel⟩⟩
theorem lk_X2_78 : LkV RX2 78 yX8_lengthOn cX8_lengthOn 5 (some .int) 2 := ⟨⟨q_575, q_78, q_836, q_573, q_574⟩, ⟨by decide, by decide, by decide +kernel⟩⟩
theorem lk_X8_71 : LkV RX8 71 yX8_lengthOn cX8_lengthOn 5 (some .int) 2 := ⟨⟨q_575, q_78, q_588, q_573, q_574⟩, ⟨by decide, by decide, by decide +kernel⟩⟩
theorem lk_X8_75 : LkV RX8 75 yX8_goesRound cX8_goesRound 3 (some .boolean) 2 := ⟨⟨q_592, q_78, q_589, q_590, q_591⟩, ⟨by decide, by decide, by decide +kernel⟩⟩
theorem lk_X8_78 : LkV RX8 78 yX8_ridesOn cX8_ridesOn 3 (some .boolean) 2 := ⟨⟨q_587, q_78, q_702, q_585, q_586⟩, ⟨by decide, by decide, by decide +kernel⟩⟩
theorem lk_X2_85 : LkV RX2 85 yX8_ridersOn cX8_ridersOn 4 (some .int) 1 := ⟨⟨q_701, q_78, q_845, q_699, q_700⟩, ⟨by decide, by decide, by decide +kernel⟩⟩
theorem lk_X2_88 : LkS RX2 88 yJ6_bitCount_0f7a4 cJ6_bitCount_0f7a4 1 (some .int) 1 := ⟨⟨q_713, q_92, q_846, q_712⟩, ⟨by decide, by decide, by decide +kernel⟩⟩
theorem lk_X2_93 : LkV RX2 93 yX8_isTied cX8_isTied 2 (some .boolean) 1 := ⟨⟨q_614, q_78, q_847, q_612, q_613⟩, ⟨by decide, by decide, by decide +kernel⟩⟩
theorem lk_X2_97 : LkV RX2 97 yX2_ridersIfHanded cX2_ridersIfHanded 8 (some .int) 3 := ⟨⟨q_834, q_84, q_848, q_832, q_833⟩, ⟨by decide, by decide, by decide +kernel⟩⟩
theorem lk_X3_25 : LkV RX3 25 yX8_ridersOn cX8_ridersOn 4 (some .int) 1 := ⟨⟨q_701, q_78, q_948, q_699, q_700⟩, ⟨by decide, by decide, by decide +kernel⟩⟩
theorem lk_X3_31 : LkS RX3 31 yJ6_bitCount_0f7a4 cJ6_bitCount_0f7a4 1 (some .int) 1 := ⟨⟨q_713, q_92, q_949, q_712⟩, ⟨by decide, by decide, by decide +kernel⟩⟩
theorem lk_X3_36 : LkV RX3 36 yX8_addPromise cX8_addPromise 5 (some .int) 4 := ⟨⟨q_439, q_78, q_958, q_437, q_438⟩, ⟨by decide, by decide, by decide +kernel⟩⟩
theorem lk_X3_43 : LkV RX3 43 yX8_openOnes cX8_openOnes 4 (some .int) 1 := ⟨⟨q_736, q_78, q_968, q_734, q_735⟩, ⟨by decide, by decide, by decide +kernel⟩⟩
theorem lk_X4_15 : LkV RX4 15 yX8_promisesOf cX8_promisesOf 4 (some .int) 1 := ⟨⟨q_732, q_78, q_729, q_730, q_731⟩, ⟨by decide, by decide, by decide +kernel⟩⟩
theorem lk_X4_21 : LkV RX4 21 yX8_openOnes cX8_openOnes 4 (some .int) 1 := ⟨⟨q_736, q_78, q_733, q_734, q_735⟩, ⟨by decide, by decide, by decide +kernel⟩⟩
theorem lk_X8_81 : LkN RX8 81 yX10_isIn cX10_isIn 2 (some .boolean) 2 := ⟨⟨q_748, q_77, by decide +kernel, q_747⟩, ⟨by decide, by decide, by decide +kernel⟩⟩
theorem lk_X4_24 : LkV RX4 24 yX8_linksOf cX8_linksOf 4 (some .int) 1 := ⟨⟨q_745, q_78, q_742, q_743, q_744⟩, ⟨by decide, by decide, by decide +kernel⟩⟩
theorem lk_X4_27 : LkV RX4 27 yX8_goesRound cX8_goesRound 3 (some .boolean) 2 := ⟨⟨q_592, q_78, q_749, q_590, q_591⟩, ⟨by decide, by decide, by decide +kernel⟩⟩
theorem lk_X4_31 : LkV RX4 31 yX4_mayKeep cX4_mayKeep 3 (some .int) 2 := ⟨⟨q_728, q_85, q_725, q_727, q_17⟩, ⟨by decide, by decide, by decide +kernel⟩⟩
theorem lk_X4_35 : LkV RX4 35 yX8_lengthOn cX8_lengthOn 5 (some .int) 2 := ⟨⟨q_575, q_78, q_737, q_573, q_574⟩, ⟨by decide, by decide, by decide +kernel⟩⟩
theorem lk_X4_38 : LkV RX4 38 yX4_letsRide cX4_letsRide 5 (some .boolean) 4 := ⟨⟨q_741, q_85, q_738, q_740, q_18⟩, ⟨by decide, by decide, by decide +kernel⟩⟩
theorem lk_X4_42 : LkS RX4 42 yJ6_bitCount_0f7a4 cJ6_bitCount_0f7a4 1 (some .int) 1 := ⟨⟨q_713, q_92, q_750, q_712⟩, ⟨by decide, by decide, by decide +kernel⟩⟩
theorem lk_X4_48 : LkV RX4 48 yX4_weightOf cX4_weightOf 2 (some .int) 1 := ⟨⟨q_763, q_85, q_760, q_762, q_19⟩, ⟨by decide, by decide, by decide +kernel⟩⟩
theorem lk_X4_51 : LkV RX4 51 yX4_endsRiding cX4_endsRiding 9 (some .boolean) 5 := ⟨⟨q_901, q_85, q_898, q_900, q_26⟩, ⟨by decide, by decide, by decide +kernel⟩⟩
theorem lk_X4_59 : LkN RX4 59 yX10_isIn cX10_isIn 2 (some .boolean) 2 := ⟨⟨q_748, q_77, by decide +kernel, q_747⟩, ⟨by decide, by decide, by decide +kernel⟩⟩
theorem lk_X4_66 : LkS RX4 66 yJ6_numberOfTrailingZeros_0f7a4 cJ6_numberOfTrailingZeros_0f7a4 2 (some .int) 1 := ⟨⟨q_904, q_92, q_902, q_903⟩, ⟨by decide, by decide, by decide +kernel⟩⟩
theorem lk_X5_61 : LkV RX5 61 yX5_write cX5_write 2 none 1 := ⟨⟨q_550, q_79, q_547, q_549, q_8⟩, ⟨by decide, by decide, by decide +kernel⟩⟩
theorem lk_X5_44 : LkV RX5 44 yX5_next cX5_next 1 (some .int) 0 := ⟨⟨q_539, q_79, q_536, q_538, q_6⟩, ⟨by decide, by decide, by decide +kernel⟩⟩
theorem lk_X5_72 : LkS RX5 72 yX5_isDigit cX5_isDigit 1 (some .boolean) 1 := ⟨⟨q_542, q_79, q_540, q_541⟩, ⟨by decide, by decide, by decide +kernel⟩⟩
theorem lk_X5_57 : LkV RX5 57 yX5_readLevel cX5_readLevel 6 none 2 := ⟨⟨q_531, q_79, q_528, q_530, q_4⟩, ⟨by decide, by decide, by decide +kernel⟩⟩
theorem lk_X5_65 : LkV RX5 65 yX5_readOperand cX5_readOperand 3 none 1 := ⟨⟨q_535, q_79, q_532, q_534, q_5⟩, ⟨by decide, by decide, by decide +kernel⟩⟩
theorem lk_X5_48 : LkV RX5 48 yX5_fail cX5_fail 1 none 0 := ⟨⟨q_561, q_79, q_558, q_560, q_10⟩, ⟨by decide, by decide, by decide +kernel⟩⟩
theorem lk_X5_79 : LkS RX5 79 yX5_nameOf cX5_nameOf 1 (some .int) 1 := ⟨⟨q_553, q_79, q_551, q_552⟩, ⟨by decide, by decide, by decide +kernel⟩⟩
theorem lk_X5_82 : LkV RX5 82 yX5_readOpened cX5_readOpened 3 none 2 := ⟨⟨q_557, q_79, q_554, q_556, q_9⟩, ⟨by decide, by decide, by decide +kernel⟩⟩
theorem lk_X5_76 : LkV RX5 76 yX5_readNumber cX5_readNumber 3 none 0 := ⟨⟨q_546, q_79, q_543, q_545, q_7⟩, ⟨by decide, by decide, by decide +kernel⟩⟩
theorem lk_X5_41 : LkV RX5 41 yX5_readLine cX5_readLine 1 none 0 := ⟨⟨q_527, q_79, q_524, q_526, q_3⟩, ⟨by decide, by decide, by decide +kernel⟩⟩
theorem lk_X6_22 : LkV RX6 22 yX6_isBody cX6_isBody 2 (some .boolean) 1 := ⟨⟨q_1026, q_82, q_1023, q_1024, q_1025⟩, ⟨by decide, by decide, by decide +kernel⟩⟩
theorem lk_X6_43 : LkV RX6 43 yX6_run cX6_run 9 (some .int) 4 := ⟨⟨q_1035, q_82, q_1032, q_1034, q_29⟩, ⟨by decide, by decide, by decide +kernel⟩⟩
theorem lk_X6_47 : LkS RX6 47 yX6_kindWith cX6_kindWith 4 (some .int) 2 := ⟨⟨q_1038, q_82, q_1036, q_1037⟩, ⟨by decide, by decide, by decide +kernel⟩⟩
theorem lk_X6_54 : LkV RX6 54 yX6_note cX6_note 2 none 1 := ⟨⟨q_1046, q_82, q_1043, q_1045, q_30⟩, ⟨by decide, by decide, by decide +kernel⟩⟩
theorem lk_X6_39 : LkV RX6 39 yX6_own cX6_own 4 (some .int) 3 := ⟨⟨q_1031, q_82, q_1028, q_1030, q_28⟩, ⟨by decide, by decide, by decide +kernel⟩⟩
theorem lk_X6_32 : LkN RX6 32 yX10_within cX10_within 3 (some .boolean) 3 := ⟨⟨q_411, q_77, by decide +kernel, q_410⟩, ⟨by decide, by decide, by decide +kernel⟩⟩
theorem lk_J7_13 : LkS RJ7 13 yJ7_rangeCheck_23922 cJ7_rangeCheck_23922 3 none 3 := ⟨⟨q_1078, q_81, q_1076, q_1077⟩, ⟨by decide, by decide, by decide +kernel⟩⟩
theorem lk_X7_31 : LkS RX7 31 yJ7_fill_bad5a cJ7_fill_bad5a 6 none 4 := ⟨⟨q_1075, q_81, q_1073, q_1074⟩, ⟨by decide, by decide, by decide +kernel⟩⟩
theorem lk_X7_34 : LkV RX7 34 yX7_refusalOfRow cX7_refusalOfRow 3 (some .int) 2 := ⟨⟨q_451, q_80, q_1125, q_449, q_450⟩, ⟨by decide, by decide, by decide +kernel⟩⟩
theorem lk_X7_38 : LkV RX7 38 yX7_holdsRow cX7_holdsRow 2 (some .boolean) 1 := ⟨⟨q_1090, q_80, q_1087, q_1089, q_31⟩, ⟨by decide, by decide, by decide +kernel⟩⟩
theorem lk_X7_42 : LkV RX7 42 yX7_hasPlaces cX7_hasPlaces 4 (some .boolean) 3 := ⟨⟨q_459, q_80, q_1091, q_457, q_458⟩, ⟨by decide, by decide, by decide +kernel⟩⟩
theorem lk_X7_46 : LkS RX7 46 yX7_lowestBits cX7_lowestBits 3 (some .long) 2 := ⟨⟨q_1098, q_80, q_1096, q_1097⟩, ⟨by decide, by decide, by decide +kernel⟩⟩
theorem lk_X8_46 : LkV RX8 46 yX8_isOne cX8_isOne 2 (some .boolean) 1 := ⟨⟨q_427, q_78, q_424, q_425, q_426⟩, ⟨by decide, by decide, by decide +kernel⟩⟩
theorem lk_X8_50 : LkN RX8 50 yX10_isDay cX10_isDay 1 (some .boolean) 1 := ⟨⟨q_430, q_77, by decide +kernel, q_429⟩, ⟨by decide, by decide, by decide +kernel⟩⟩
theorem lk_X8_57 : LkV RX8 57 yX8_isPromise cX8_isPromise 2 (some .boolean) 1 := ⟨⟨q_475, q_78, q_472, q_473, q_474⟩, ⟨by decide, by decide, by decide +kernel⟩⟩
theorem lk_X9_49 : LkN RX9 49 yX10_isIn cX10_isIn 2 (some .boolean) 2 := ⟨⟨q_748, q_77, by decide +kernel, q_747⟩, ⟨by decide, by decide, by decide +kernel⟩⟩
theorem lk_X9_56 : LkS RX9 56 yJ9_min_7cf53 cJ9_min_7cf53 2 (some .int) 2 := ⟨⟨q_639, q_91, q_799, q_638⟩, ⟨by decide, by decide, by decide +kernel⟩⟩
theorem lk_X9_65 : LkS RX9 65 yJ9_max_7cf53 cJ9_max_7cf53 2 (some .int) 2 := ⟨⟨q_632, q_91, q_800, q_631⟩, ⟨by decide, by decide, by decide +kernel⟩⟩
theorem lk_X9_23 : LkV RX9 23 yX9_isSet cX9_isSet 2 (some .boolean) 1 := ⟨⟨q_789, q_86, q_786, q_788, q_21⟩, ⟨by decide, by decide, by decide +kernel⟩⟩
theorem lk_X9_37 : LkV RX9 37 yX9_eachLessOneFits cX9_eachLessOneFits 3 (some .boolean) 1 := ⟨⟨q_793, q_86, q_790, q_792, q_22⟩, ⟨by decide, by decide, by decide +kernel⟩⟩
theorem lk_X9_40 : LkV RX9 40 yX9_hasDaysForAll cX9_hasDaysForAll 6 (some .boolean) 1 := ⟨⟨q_798, q_86, q_795, q_797, q_23⟩, ⟨by decide, by decide, by decide +kernel⟩⟩
theorem lk_X9_19 : LkV RX9 19 yX9_fillFits cX9_fillFits 3 none 1 := ⟨⟨q_785, q_86, q_782, q_784, q_20⟩, ⟨by decide, by decide, by decide +kernel⟩⟩
theorem lk_X9_27 : LkS RX9 27 yJ6_bitCount_0f7a4 cJ6_bitCount_0f7a4 1 (some .int) 1 := ⟨⟨q_713, q_92, q_809, q_712⟩, ⟨by decide, by decide, by decide +kernel⟩⟩
theorem lk_X9_33 : LkV RX9 33 yX9_isClash cX9_isClash 3 (some .boolean) 2 := ⟨⟨q_821, q_86, q_818, q_820, q_24⟩, ⟨by decide, by decide, by decide +kernel⟩⟩
theorem lk_X10_91 : LkV RX10 91 yX8_addOne cX8_addOne 3 (some .int) 2 := ⟨⟨q_415, q_78, q_412, q_413, q_414⟩, ⟨by decide, by decide, by decide +kernel⟩⟩
theorem lk_X10_95 : LkV RX10 95 yX8_canPromise cX8_canPromise 5 (some .boolean) 4 := ⟨⟨q_423, q_78, q_420, q_421, q_422⟩, ⟨by decide, by decide, by decide +kernel⟩⟩
theorem lk_X10_99 : LkV RX10 99 yX8_isFull cX8_isFull 1 (some .boolean) 0 := ⟨⟨q_435, q_78, q_432, q_433, q_434⟩, ⟨by decide, by decide, by decide +kernel⟩⟩
theorem lk_X10_103 : LkV RX10 103 yX8_addPromise cX8_addPromise 5 (some .int) 4 := ⟨⟨q_439, q_78, q_436, q_437, q_438⟩, ⟨by decide, by decide, by decide +kernel⟩⟩
theorem lk_X10_118 : LkV RX10 118 yX7_hasPlaces cX7_hasPlaces 4 (some .boolean) 3 := ⟨⟨q_459, q_80, q_456, q_457, q_458⟩, ⟨by decide, by decide, by decide +kernel⟩⟩
theorem lk_X10_121 : LkV RX10 121 yX7_elementAt cX7_elementAt 3 (some .long) 2 := ⟨⟨q_463, q_80, q_460, q_461, q_462⟩, ⟨by decide, by decide, by decide +kernel⟩⟩
theorem lk_X10_107 : LkV RX10 107 yX7_isShelf cX7_isShelf 2 (some .boolean) 1 := ⟨⟨q_447, q_80, q_444, q_445, q_446⟩, ⟨by decide, by decide, by decide +kernel⟩⟩
theorem lk_X10_111 : LkV RX10 111 yX7_refusalOfRow cX7_refusalOfRow 3 (some .int) 2 := ⟨⟨q_451, q_80, q_448, q_449, q_450⟩, ⟨by decide, by decide, by decide +kernel⟩⟩
theorem lk_X10_114 : LkV RX10 114 yX10_promisesFromRow cX10_promisesFromRow 10 (some .int) 3 := ⟨⟨q_455, q_77, q_452, q_454, q_0⟩, ⟨by decide, by decide, by decide +kernel⟩⟩
theorem lk_X10_125 : LkV RX10 125 yX8_has cX8_has 3 (some .boolean) 2 := ⟨⟨q_471, q_78, q_468, q_469, q_470⟩, ⟨by decide, by decide, by decide +kernel⟩⟩
theorem lk_X10_129 : LkV RX10 129 yX8_canBecome cX8_canBecome 4 (some .boolean) 3 := ⟨⟨q_479, q_78, q_476, q_477, q_478⟩, ⟨by decide, by decide, by decide +kernel⟩⟩
theorem lk_X10_133 : LkV RX10 133 yX8_numberOf cX8_numberOf 3 (some .int) 2 := ⟨⟨q_484, q_78, q_481, q_482, q_483⟩, ⟨by decide, by decide, by decide +kernel⟩⟩
theorem lk_X10_136 : LkV RX10 136 yX0_add cX0_add 5 none 4 := ⟨⟨q_492, q_83, q_489, q_490, q_491⟩, ⟨by decide, by decide, by decide +kernel⟩⟩
theorem lk_X10_140 : LkV RX10 140 yX8_become cX8_become 4 none 3 := ⟨⟨q_503, q_78, q_500, q_501, q_502⟩, ⟨by decide, by decide, by decide +kernel⟩⟩
theorem lk_X10_147 : LkV RX10 147 yX5_take cX5_take 2 (some .int) 1 := ⟨⟨q_515, q_79, q_512, q_513, q_514⟩, ⟨by decide, by decide, by decide +kernel⟩⟩
theorem lk_X10_151 : LkV RX10 151 yX5_read cX5_read 2 (some .int) 0 := ⟨⟨q_523, q_79, q_520, q_521, q_522⟩, ⟨by decide, by decide, by decide +kernel⟩⟩
theorem lk_X10_155 : LkV RX10 155 yX8_isOne cX8_isOne 2 (some .boolean) 1 := ⟨⟨q_427, q_78, q_570, q_425, q_426⟩, ⟨by decide, by decide, by decide +kernel⟩⟩
theorem lk_X10_158 : LkS RX10 158 yX10_isDay cX10_isDay 1 (some .boolean) 1 := ⟨⟨q_430, q_77, q_571, q_429⟩, ⟨by decide, by decide, by decide +kernel⟩⟩
theorem lk_X10_161 : LkV RX10 161 yX8_lengthOn cX8_lengthOn 5 (some .int) 2 := ⟨⟨q_575, q_78, q_572, q_573, q_574⟩, ⟨by decide, by decide, by decide +kernel⟩⟩
theorem lk_X10_164 : LkV RX10 164 yX8_ridesOn cX8_ridesOn 3 (some .boolean) 2 := ⟨⟨q_587, q_78, q_584, q_585, q_586⟩, ⟨by decide, by decide, by decide +kernel⟩⟩
theorem lk_X10_167 : LkV RX10 167 yX1_ofOne cX1_ofOne 5 (some .int) 2 := ⟨⟨q_596, q_87, q_593, q_594, q_595⟩, ⟨by decide, by decide, by decide +kernel⟩⟩
theorem lk_X10_170 : LkV RX10 170 yX1_debtOf cX1_debtOf 5 (some .int) 2 := ⟨⟨q_645, q_87, q_642, q_643, q_644⟩, ⟨by decide, by decide, by decide +kernel⟩⟩
theorem lk_X10_173 : LkV RX10 173 yX8_isPromise cX8_isPromise 2 (some .boolean) 1 := ⟨⟨q_475, q_78, q_650, q_473, q_474⟩, ⟨by decide, by decide, by decide +kernel⟩⟩
theorem lk_X10_176 : LkV RX10 176 yX1_ofPromise cX1_ofPromise 6 (some .int) 2 := ⟨⟨q_601, q_87, q_651, q_599, q_600⟩, ⟨by decide, by decide, by decide +kernel⟩⟩
theorem lk_X10_182 : LkV RX10 182 yX2_ridesWithin cX2_ridesWithin 4 (some .int) 3 := ⟨⟨q_674, q_84, q_671, q_672, q_673⟩, ⟨by decide, by decide, by decide +kernel⟩⟩
theorem lk_X10_179 : LkV RX10 179 yX2_firstRideFrom cX2_firstRideFrom 4 (some .int) 2 := ⟨⟨q_659, q_84, q_656, q_657, q_658⟩, ⟨by decide, by decide, by decide +kernel⟩⟩
theorem lk_X10_185 : LkS RX10 185 yX10_isEither cX10_isEither 1 (some .boolean) 1 := ⟨⟨q_685, q_77, q_683, q_684⟩, ⟨by decide, by decide, by decide +kernel⟩⟩
theorem lk_X10_188 : LkV RX10 188 yX2_longestRideStart cX2_longestRideStart 6 (some .int) 1 := ⟨⟨q_689, q_84, q_686, q_687, q_688⟩, ⟨by decide, by decide, by decide +kernel⟩⟩
theorem lk_X10_191 : LkV RX10 191 yX2_rideFrom cX2_rideFrom 4 (some .int) 2 := ⟨⟨q_693, q_84, q_690, q_691, q_692⟩, ⟨by decide, by decide, by decide +kernel⟩⟩
theorem lk_X10_194 : LkV RX10 194 yX8_ridersOn cX8_ridersOn 4 (some .int) 1 := ⟨⟨q_701, q_78, q_698, q_699, q_700⟩, ⟨by decide, by decide, by decide +kernel⟩⟩
theorem lk_X10_197 : LkV RX10 197 yX2_fullestDay cX2_fullestDay 3 (some .int) 0 := ⟨⟨q_710, q_84, q_707, q_708, q_709⟩, ⟨by decide, by decide, by decide +kernel⟩⟩
theorem lk_X10_200 : LkS RX10 200 yJ6_bitCount_0f7a4 cJ6_bitCount_0f7a4 1 (some .int) 1 := ⟨⟨q_713, q_92, q_711, q_712⟩, ⟨by decide, by decide, by decide +kernel⟩⟩
theorem lk_X10_205 : LkV RX10 205 yX4_fewestSet cX4_fewestSet 8 (some .int) 2 := ⟨⟨q_724, q_85, q_721, q_722, q_723⟩, ⟨by decide, by decide, by decide +kernel⟩⟩
theorem lk_X10_208 : LkV RX10 208 yX4_lightestSet cX4_lightestSet 8 (some .int) 2 := ⟨⟨q_758, q_85, q_755, q_756, q_757⟩, ⟨by decide, by decide, by decide +kernel⟩⟩
theorem lk_X10_211 : LkV RX10 211 yX8_linksOf cX8_linksOf 4 (some .int) 1 := ⟨⟨q_745, q_78, q_764, q_743, q_744⟩, ⟨by decide, by decide, by decide +kernel⟩⟩
theorem lk_X10_214 : LkV RX10 214 yX4_howManySets cX4_howManySets 7 (some .int) 2 := ⟨⟨q_772, q_85, q_769, q_770, q_771⟩, ⟨by decide, by decide, by decide +kernel⟩⟩
theorem lk_X10_217 : LkV RX10 217 yX8_promisesOf cX8_promisesOf 4 (some .int) 1 := ⟨⟨q_732, q_78, q_777, q_730, q_731⟩, ⟨by decide, by decide, by decide +kernel⟩⟩
theorem lk_X10_220 : LkV RX10 220 yX9_canAll cX9_canAll 2 (some .boolean) 1 := ⟨⟨q_781, q_86, q_778, q_779, q_780⟩, ⟨by decide, by decide, by decide +kernel⟩⟩
theorem lk_X10_223 : LkV RX10 223 yX9_greatestSet cX9_greatestSet 4 (some .int) 1 := ⟨⟨q_808, q_86, q_805, q_806, q_807⟩, ⟨by decide, by decide, by decide +kernel⟩⟩
theorem lk_X10_229 : LkV RX10 229 yX9_leastClash cX9_leastClash 3 (some .int) 1 := ⟨⟨q_825, q_86, q_822, q_823, q_824⟩, ⟨by decide, by decide, by decide +kernel⟩⟩
theorem lk_X10_226 : LkV RX10 226 yX9_howManyClashes cX9_howManyClashes 4 (some .int) 1 := ⟨⟨q_817, q_86, q_814, q_815, q_816⟩, ⟨by decide, by decide, by decide +kernel⟩⟩
theorem lk_X10_236 : LkV RX10 236 yX8_isTied cX8_isTied 2 (some .boolean) 1 := ⟨⟨q_614, q_78, q_830, q_612, q_613⟩, ⟨by decide, by decide, by decide +kernel⟩⟩
theorem lk_X10_239 : LkV RX10 239 yX2_ridersIfHanded cX2_ridersIfHanded 8 (some .int) 3 := ⟨⟨q_834, q_84, q_831, q_832, q_833⟩, ⟨by decide, by decide, by decide +kernel⟩⟩
theorem lk_X10_242 : LkV RX10 242 yX2_bestHanding cX2_bestHanding 7 (some .int) 1 := ⟨⟨q_844, q_84, q_841, q_842, q_843⟩, ⟨by decide, by decide, by decide +kernel⟩⟩
theorem lk_X10_245 : LkV RX10 245 yX1_firstWrongDay cX1_firstWrongDay 4 (some .int) 2 := ⟨⟨q_856, q_87, q_853, q_854, q_855⟩, ⟨by decide, by decide, by decide +kernel⟩⟩
theorem lk_X10_248 : LkV RX10 248 yX1_compareOpenAndKept cX1_compareOpenAndKept 6 none 3 := ⟨⟨q_867, q_87, q_864, q_865, q_866⟩, ⟨by decide, by decide, by decide +kernel⟩⟩
theorem lk_X10_254 : LkV RX10 254 yX1_leastKept cX1_leastKept 3 (some .int) 1 := ⟨⟨q_879, q_87, q_876, q_877, q_878⟩, ⟨by decide, by decide, by decide +kernel⟩⟩
theorem lk_X10_251 : LkV RX10 251 yX1_howManyKepts cX1_howManyKepts 4 (some .int) 1 := ⟨⟨q_871, q_87, q_868, q_869, q_870⟩, ⟨by decide, by decide, by decide +kernel⟩⟩
theorem lk_X10_257 : LkV RX10 257 yX1_ownersOf cX1_ownersOf 4 (some .int) 1 := ⟨⟨q_887, q_87, q_884, q_885, q_886⟩, ⟨by decide, by decide, by decide +kernel⟩⟩
theorem lk_X10_263 : LkV RX10 263 yX4_winsByTurns cX4_winsByTurns 4 (some .boolean) 3 := ⟨⟨q_909, q_85, q_906, q_907, q_908⟩, ⟨by decide, by decide, by decide +kernel⟩⟩
theorem lk_X10_260 : LkV RX10 260 yX4_bestFirstTurn cX4_bestFirstTurn 7 (some .int) 3 := ⟨⟨q_896, q_85, q_893, q_894, q_895⟩, ⟨by decide, by decide, by decide +kernel⟩⟩
theorem lk_X10_266 : LkV RX10 266 yX1_loudestDay cX1_loudestDay 5 (some .int) 0 := ⟨⟨q_917, q_87, q_914, q_915, q_916⟩, ⟨by decide, by decide, by decide +kernel⟩⟩
theorem lk_X10_269 : LkV RX10 269 yX1_ofAll cX1_ofAll 4 (some .int) 1 := ⟨⟨q_921, q_87, q_922, q_919, q_920⟩, ⟨by decide, by decide, by decide +kernel⟩⟩
theorem lk_X10_272 : LkV RX10 272 yX2_drawnRides cX2_drawnRides 8 (some .int) 4 := ⟨⟨q_930, q_84, q_927, q_928, q_929⟩, ⟨by decide, by decide, by decide +kernel⟩⟩
theorem lk_X10_275 : LkV RX10 275 yX3_now cX3_now 1 (some .int) 0 := ⟨⟨q_943, q_88, q_940, q_941, q_942⟩, ⟨by decide, by decide, by decide +kernel⟩⟩
theorem lk_X10_278 : LkV RX10 278 yX3_endDay cX3_endDay 1 (some .int) 0 := ⟨⟨q_947, q_88, q_944, q_945, q_946⟩, ⟨by decide, by decide, by decide +kernel⟩⟩
theorem lk_X10_281 : LkV RX10 281 yX3_makePromise cX3_makePromise 4 (some .int) 3 := ⟨⟨q_957, q_88, q_954, q_955, q_956⟩, ⟨by decide, by decide, by decide +kernel⟩⟩
theorem lk_X10_284 : LkV RX10 284 yX8_isOpen cX8_isOpen 3 (some .boolean) 2 := ⟨⟨q_583, q_78, q_963, q_581, q_582⟩, ⟨by decide, by decide, by decide +kernel⟩⟩
theorem lk_X10_287 : LkV RX10 287 yX3_keepPromise cX3_keepPromise 2 (some .int) 1 := ⟨⟨q_967, q_88, q_964, q_965, q_966⟩, ⟨by decide, by decide, by decide +kernel⟩⟩
theorem lk_X10_293 : LkV RX10 293 yX3_keepImage cX3_keepImage 1 (some .int) 0 := ⟨⟨q_980, q_88, q_977, q_978, q_979⟩, ⟨by decide, by decide, by decide +kernel⟩⟩
theorem lk_X10_300 : LkV RX10 300 yX3_layBack cX3_layBack 1 (some .int) 0 := ⟨⟨q_989, q_88, q_986, q_987, q_988⟩, ⟨by decide, by decide, by decide +kernel⟩⟩
theorem lk_X10_306 : LkV RX10 306 yX0_stepBack cX0_stepBack 2 none 1 := ⟨⟨q_997, q_83, q_994, q_995, q_996⟩, ⟨by decide, by decide, by decide +kernel⟩⟩
theorem lk_X10_312 : LkV RX10 312 yX0_stepForward cX0_stepForward 2 none 1 := ⟨⟨q_1006, q_83, q_1003, q_1004, q_1005⟩, ⟨by decide, by decide, by decide +kernel⟩⟩
theorem lk_X10_318 : LkV RX10 318 yX6_add cX6_add 2 (some .int) 1 := ⟨⟨q_1014, q_82, q_1011, q_1012, q_1013⟩, ⟨by decide, by decide, by decide +kernel⟩⟩
theorem lk_X10_320 : LkV RX10 320 yX6_perform cX6_perform 4 (some .int) 3 := ⟨⟨q_1022, q_82, q_1019, q_1020, q_1021⟩, ⟨by decide, by decide, by decide +kernel⟩⟩
theorem lk_X10_326 : LkS RX10 326 yJ9_min_7cf53 cJ9_min_7cf53 2 (some .int) 2 := ⟨⟨q_639, q_91, q_1051, q_638⟩, ⟨by decide, by decide, by decide +kernel⟩⟩
theorem lk_X10_340 : LkV RX10 340 yX7_holdLink cX7_holdLink 3 (some .int) 2 := ⟨⟨q_1064, q_80, q_1061, q_1062, q_1063⟩, ⟨by decide, by decide, by decide +kernel⟩⟩
theorem lk_X10_337 : LkV RX10 337 yX7_clear cX7_clear 2 (some .int) 1 := ⟨⟨q_1060, q_80, q_1057, q_1058, q_1059⟩, ⟨by decide, by decide, by decide +kernel⟩⟩
theorem lk_X10_334 : LkV RX10 334 yX6_isBody cX6_isBody 2 (some .boolean) 1 := ⟨⟨q_1026, q_82, q_1056, q_1024, q_1025⟩, ⟨by decide, by decide, by decide +kernel⟩⟩
theorem lk_X10_343 : LkV RX10 343 yX7_holdRow cX7_holdRow 4 (some .int) 3 := ⟨⟨q_1072, q_80, q_1069, q_1070, q_1071⟩, ⟨by decide, by decide, by decide +kernel⟩⟩
theorem lk_X10_346 : LkV RX10 346 yX7_refusalOfPlace cX7_refusalOfPlace 3 (some .int) 2 := ⟨⟨q_1086, q_80, q_1083, q_1084, q_1085⟩, ⟨by decide, by decide, by decide +kernel⟩⟩
theorem lk_X10_349 : LkV RX10 349 yX7_putAt cX7_putAt 5 (some .int) 3 := ⟨⟨q_1095, q_80, q_1092, q_1093, q_1094⟩, ⟨by decide, by decide, by decide +kernel⟩⟩
theorem lk_X10_357 : LkV RX10 357 yX7_refusalOfPair cX7_refusalOfPair 3 (some .int) 2 := ⟨⟨q_1111, q_80, q_1108, q_1109, q_1110⟩, ⟨by decide, by decide, by decide +kernel⟩⟩
theorem lk_X10_360 : LkV RX10 360 yX7_move cX7_move 6 (some .int) 5 := ⟨⟨q_1115, q_80, q_1112, q_1113, q_1114⟩, ⟨by decide, by decide, by decide +kernel⟩⟩
theorem lk_X10_364 : LkV RX10 364 yX7_refusalOfLink cX7_refusalOfLink 2 (some .int) 1 := ⟨⟨q_1124, q_80, q_1121, q_1122, q_1123⟩, ⟨by decide, by decide, by decide +kernel⟩⟩
theorem lk_X10_370 : LkV RX10 370 yX6_kindOf cX6_kindOf 2 (some .int) 1 := ⟨⟨q_1129, q_82, q_1126, q_1127, q_1128⟩, ⟨by decide, by decide, by decide +kernel⟩⟩
theorem lk_X10_373 : LkS RX10 373 yX6_isUnder cX6_isUnder 4 (some .boolean) 2 := ⟨⟨q_1132, q_82, q_1130, q_1131⟩, ⟨by decide, by decide, by decide +kernel⟩⟩
theorem lk_X11_84 : LkS RX11 84 yX11_within cX11_within 6 (some .boolean) 3 := ⟨⟨q_1276, q_89, q_1274, q_1275⟩, ⟨by decide, by decide, by decide +kernel⟩⟩
theorem lk_X11_97 : LkV RX11 97 yX11_isOne cX11_isOne 3 (some .boolean) 1 := ⟨⟨q_1289, q_89, q_1286, q_1288, q_33⟩, ⟨by decide, by decide, by decide +kernel⟩⟩
theorem lk_X11_101 : LkS RX11 101 yX11_isDay cX11_isDay 2 (some .boolean) 1 := ⟨⟨q_1292, q_89, q_1290, q_1291⟩, ⟨by decide, by decide, by decide +kernel⟩⟩
theorem lk_X11_106 : LkV RX11 106 yX11_mayCome cX11_mayCome 9 (some .boolean) 4 := ⟨⟨q_1285, q_89, q_1282, q_1284, q_32⟩, ⟨by decide, by decide, by decide +kernel⟩⟩
theorem lk_X11_110 : LkV RX11 110 yX11_adds cX11_adds 5 (some .int) 4 := ⟨⟨q_1298, q_89, q_1295, q_1297, q_34⟩, ⟨by decide, by decide, by decide +kernel⟩⟩
theorem lk_X11_114 : LkS RX11 114 yX11_isShelf cX11_isShelf 1 (some .boolean) 1 := ⟨⟨q_1305, q_89, q_1303, q_1304⟩, ⟨by decide, by decide, by decide +kernel⟩⟩
theorem lk_X11_126 : LkV RX11 126 yX11_isPromise cX11_isPromise 3 (some .boolean) 1 := ⟨⟨q_1322, q_89, q_1319, q_1321, q_36⟩, ⟨by decide, by decide, by decide +kernel⟩⟩
theorem lk_X11_131 : LkV RX11 131 yX11_placeOf cX11_placeOf 3 (some .int) 2 := ⟨⟨q_1315, q_89, q_1312, q_1314, q_35⟩, ⟨by decide, by decide, by decide +kernel⟩⟩
theorem lk_X11_135 : LkV RX11 135 yX11_mayBecome cX11_mayBecome 4 (some .boolean) 3 := ⟨⟨q_1326, q_89, q_1323, q_1325, q_37⟩, ⟨by decide, by decide, by decide +kernel⟩⟩
theorem lk_X11_139 : LkV RX11 139 yX11_becomes cX11_becomes 5 (some .int) 2 := ⟨⟨q_1331, q_89, q_1328, q_1330, q_38⟩, ⟨by decide, by decide, by decide +kernel⟩⟩
theorem lk_X11_160 : LkV RX11 160 yX11_byteAt cX11_byteAt 1 (some .int) 0 := ⟨⟨q_1377, q_89, q_1374, q_1376, q_46⟩, ⟨by decide, by decide, by decide +kernel⟩⟩
theorem lk_X11_170 : LkV RX11 170 yX11_compared cX11_compared 4 (some .int) 0 := ⟨⟨q_1361, q_89, q_1358, q_1360, q_42⟩, ⟨by decide, by decide, by decide +kernel⟩⟩
theorem lk_X11_167 : LkV RX11 167 yX11_takes cX11_takes 2 (some .boolean) 1 := ⟨⟨q_1385, q_89, q_1382, q_1384, q_48⟩, ⟨by decide, by decide, by decide +kernel⟩⟩
theorem lk_X11_173 : LkV RX11 173 yX11_sums cX11_sums 4 (some .int) 0 := ⟨⟨q_1365, q_89, q_1362, q_1364, q_43⟩, ⟨by decide, by decide, by decide +kernel⟩⟩
theorem lk_X11_164 : LkV RX11 164 yX11_both cX11_both 3 (some .int) 0 := ⟨⟨q_1357, q_89, q_1354, q_1356, q_41⟩, ⟨by decide, by decide, by decide +kernel⟩⟩
theorem lk_X11_179 : LkV RX11 179 yX11_one cX11_one 5 (some .int) 0 := ⟨⟨q_1373, q_89, q_1370, q_1372, q_45⟩, ⟨by decide, by decide, by decide +kernel⟩⟩
theorem lk_X11_185 : LkV RX11 185 yX11_wrong cX11_wrong 1 (some .int) 0 := ⟨⟨q_1381, q_89, q_1378, q_1380, q_47⟩, ⟨by decide, by decide, by decide +kernel⟩⟩
theorem lk_X11_188 : LkV RX11 188 yX11_either cX11_either 3 (some .int) 0 := ⟨⟨q_1353, q_89, q_1350, q_1352, q_40⟩, ⟨by decide, by decide, by decide +kernel⟩⟩
theorem lk_X11_191 : LkS RX11 191 yX11_nameOf cX11_nameOf 1 (some .int) 1 := ⟨⟨q_1388, q_89, q_1386, q_1387⟩, ⟨by decide, by decide, by decide +kernel⟩⟩
theorem lk_X11_176 : LkV RX11 176 yX11_product cX11_product 4 (some .int) 0 := ⟨⟨q_1369, q_89, q_1366, q_1368, q_44⟩, ⟨by decide, by decide, by decide +kernel⟩⟩
theorem lk_X11_195 : LkV RX11 195 yX11_workOut cX11_workOut 8 (some .int) 2 := ⟨⟨q_1349, q_89, q_1346, q_1348, q_39⟩, ⟨by decide, by decide, by decide +kernel⟩⟩
theorem lk_X11_198 : LkV RX11 198 yX11_isOf cX11_isOf 3 (some .boolean) 2 := ⟨⟨q_1400, q_89, q_1397, q_1399, q_50⟩, ⟨by decide, by decide, by decide +kernel⟩⟩
theorem lk_X11_202 : LkV RX11 202 yX11_isOpen cX11_isOpen 3 (some .boolean) 2 := ⟨⟨q_1404, q_89, q_1401, q_1403, q_51⟩, ⟨by decide, by decide, by decide +kernel⟩⟩
theorem lk_X11_205 : LkV RX11 205 yX11_chainOf cX11_chainOf 5 (some .int) 2 := ⟨⟨q_1396, q_89, q_1393, q_1395, q_49⟩, ⟨by decide, by decide, by decide +kernel⟩⟩
theorem lk_X11_208 : LkV RX11 208 yX11_goesRound cX11_goesRound 3 (some .boolean) 2 := ⟨⟨q_1412, q_89, q_1409, q_1411, q_53⟩, ⟨by decide, by decide, by decide +kernel⟩⟩
theorem lk_X11_211 : LkV RX11 211 yX11_creakOf cX11_creakOf 5 (some .int) 2 := ⟨⟨q_1420, q_89, q_1417, q_1419, q_55⟩, ⟨by decide, by decide, by decide +kernel⟩⟩
theorem lk_X11_214 : LkV RX11 214 yX11_doesRide cX11_doesRide 3 (some .boolean) 2 := ⟨⟨q_1408, q_89, q_1405, q_1407, q_52⟩, ⟨by decide, by decide, by decide +kernel⟩⟩
theorem lk_X11_217 : LkV RX11 217 yX11_creaksOf cX11_creaksOf 5 (some .int) 2 := ⟨⟨q_1416, q_89, q_1413, q_1415, q_54⟩, ⟨by decide, by decide, by decide +kernel⟩⟩
theorem lk_X11_220 : LkV RX11 220 yX11_debtOf cX11_debtOf 5 (some .int) 2 := ⟨⟨q_1424, q_89, q_1421, q_1423, q_56⟩, ⟨by decide, by decide, by decide +kernel⟩⟩
theorem lk_X11_223 : LkV RX11 223 yX11_ridersOn cX11_ridersOn 4 (some .int) 1 := ⟨⟨q_1444, q_89, q_1441, q_1443, q_57⟩, ⟨by decide, by decide, by decide +kernel⟩⟩
theorem lk_X11_226 : LkS RX11 226 yX11_bitsOf cX11_bitsOf 3 (some .int) 1 := ⟨⟨q_1451, q_89, q_1449, q_1450⟩, ⟨by decide, by decide, by decide +kernel⟩⟩
theorem lk_X11_229 : LkS RX11 229 yX11_isIn cX11_isIn 2 (some .boolean) 2 := ⟨⟨q_1470, q_89, q_1468, q_1469⟩, ⟨by decide, by decide, by decide +kernel⟩⟩
theorem lk_X11_232 : LkV RX11 232 yX11_ownOpen cX11_ownOpen 5 (some .int) 2 := ⟨⟨q_1463, q_89, q_1460, q_1462, q_59⟩, ⟨by decide, by decide, by decide +kernel⟩⟩
theorem lk_X11_235 : LkV RX11 235 yX11_linksOf cX11_linksOf 4 (some .int) 1 := ⟨⟨q_1467, q_89, q_1464, q_1466, q_60⟩, ⟨by decide, by decide, by decide +kernel⟩⟩
theorem lk_X11_238 : LkV RX11 238 yX11_lets cX11_lets 4 (some .boolean) 3 := ⟨⟨q_1459, q_89, q_1456, q_1458, q_58⟩, ⟨by decide, by decide, by decide +kernel⟩⟩
theorem lk_X11_241 : LkV RX11 241 yX11_allOf cX11_allOf 4 (some .int) 1 := ⟨⟨q_1486, q_89, q_1483, q_1485, q_61⟩, ⟨by decide, by decide, by decide +kernel⟩⟩
theorem lk_X11_244 : LkV RX11 244 yX11_areAbleTo cX11_areAbleTo 5 (some .boolean) 1 := ⟨⟨q_1490, q_89, q_1487, q_1489, q_62⟩, ⟨by decide, by decide, by decide +kernel⟩⟩
theorem lk_X11_247 : LkV RX11 247 yX11_isClash cX11_isClash 3 (some .boolean) 1 := ⟨⟨q_1502, q_89, q_1499, q_1501, q_63⟩, ⟨by decide, by decide, by decide +kernel⟩⟩
theorem lk_X11_250 : LkV RX11 250 yX11_ridersBy cX11_ridersBy 6 (some .int) 3 := ⟨⟨q_1510, q_89, q_1507, q_1509, q_64⟩, ⟨by decide, by decide, by decide +kernel⟩⟩
theorem lk_X11_254 : LkV RX11 254 yX11_shortsIs cX11_shortsIs 2 (some .int) 1 := ⟨⟨q_1522, q_89, q_1519, q_1521, q_65⟩, ⟨by decide, by decide, by decide +kernel⟩⟩
theorem lk_X11_257 : LkV RX11 257 yX11_firstFalse cX11_firstFalse 4 (some .int) 2 := ⟨⟨q_1526, q_89, q_1523, q_1525, q_66⟩, ⟨by decide, by decide, by decide +kernel⟩⟩
theorem lk_X11_260 : LkV RX11 260 yX11_winsFrom cX11_winsFrom 7 (some .boolean) 5 := ⟨⟨q_1542, q_89, q_1539, q_1541, q_67⟩, ⟨by decide, by decide, by decide +kernel⟩⟩
theorem lk_X11_286 : LkV RX11 286 yX11_runs cX11_runs 2 none 1 := ⟨⟨q_1596, q_89, q_1593, q_1595, q_70⟩, ⟨by decide, by decide, by decide +kernel⟩⟩
theorem lk_X11_290 : LkV RX11 290 yX11_holdsAs cX11_holdsAs 3 (some .int) 2 := ⟨⟨q_1592, q_89, q_1589, q_1591, q_69⟩, ⟨by decide, by decide, by decide +kernel⟩⟩
theorem lk_X11_296 : LkV RX11 296 yX11_ridesAs cX11_ridesAs 4 (some .int) 2 := ⟨⟨q_1600, q_89, q_1597, q_1599, q_71⟩, ⟨by decide, by decide, by decide +kernel⟩⟩
theorem lk_X11_302 : LkV RX11 302 yX11_creaksAs cX11_creaksAs 4 (some .int) 2 := ⟨⟨q_1604, q_89, q_1601, q_1603, q_72⟩, ⟨by decide, by decide, by decide +kernel⟩⟩
theorem lk_X11_305 : LkV RX11 305 yX11_tellsAs cX11_tellsAs 4 (some .int) 2 := ⟨⟨q_1608, q_89, q_1605, q_1607, q_73⟩, ⟨by decide, by decide, by decide +kernel⟩⟩
theorem lk_X11_308 : LkV RX11 308 yX11_isBody cX11_isBody 2 (some .boolean) 1 := ⟨⟨q_1588, q_89, q_1585, q_1587, q_68⟩, ⟨by decide, by decide, by decide +kernel⟩⟩
theorem lk_X11_315 : LkV RX11 315 yX11_refusal cX11_refusal 3 (some .int) 2 := ⟨⟨q_1629, q_89, q_1626, q_1628, q_74⟩, ⟨by decide, by decide, by decide +kernel⟩⟩
theorem lk_X11_318 : LkS RX11 318 yX11_asSort cX11_asSort 3 (some .long) 2 := ⟨⟨q_1632, q_89, q_1630, q_1631⟩, ⟨by decide, by decide, by decide +kernel⟩⟩
theorem lk_X11_326 : LkV RX11 326 yX11_kindOf cX11_kindOf 2 (some .int) 1 := ⟨⟨q_1649, q_89, q_1646, q_1648, q_75⟩, ⟨by decide, by decide, by decide +kernel⟩⟩
theorem lk_X11_329 : LkS RX11 329 yX11_above cX11_above 1 (some .int) 1 := ⟨⟨q_1652, q_89, q_1650, q_1651⟩, ⟨by decide, by decide, by decide +kernel⟩⟩
