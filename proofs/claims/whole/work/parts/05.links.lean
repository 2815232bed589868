theorem kb_m100 : (Int8.ofInt (-100)).toInt32 = -100 := by decide
theorem kb_m14 : (Int8.ofInt (-14)).toInt32 = -14 := by decide
theorem kb_m13 : (Int8.ofInt (-13)).toInt32 = -13 := by decide
theorem kb_m12 : (Int8.ofInt (-12)).toInt32 = -12 := by decide
theorem kb_m11 : (Int8.ofInt (-11)).toInt32 = -11 := by decide
theorem kb_m9 : (Int8.ofInt (-9)).toInt32 = -9 := by decide
theorem kb_m5 : (Int8.ofInt (-5)).toInt32 = -5 := by decide
theorem kb_m3 : (Int8.ofInt (-3)).toInt32 = -3 := by decide
theorem kb_m2 : (Int8.ofInt (-2)).toInt32 = -2 := by decide
theorem kb_6 : (Int8.ofInt (6)).toInt32 = 6 := by decide
theorem kb_7 : (Int8.ofInt (7)).toInt32 = 7 := by decide
theorem kb_8 : (Int8.ofInt (8)).toInt32 = 8 := by decide
theorem kb_9 : (Int8.ofInt (9)).toInt32 = 9 := by decide
theorem kb_10 : (Int8.ofInt (10)).toInt32 = 10 := by decide
theorem kb_11 : (Int8.ofInt (11)).toInt32 = 11 := by decide
theorem kb_12 : (Int8.ofInt (12)).toInt32 = 12 := by decide
theorem kb_16 : (Int8.ofInt (16)).toInt32 = 16 := by decide
theorem kb_18 : (Int8.ofInt (18)).toInt32 = 18 := by decide
theorem kb_20 : (Int8.ofInt (20)).toInt32 = 20 := by decide
theorem kb_24 : (Int8.ofInt (24)).toInt32 = 24 := by decide
theorem kb_28 : (Int8.ofInt (28)).toInt32 = 28 := by decide
theorem kb_30 : (Int8.ofInt (30)).toInt32 = 30 := by decide
theorem kb_32 : (Int8.ofInt (32)).toInt32 = 32 := by decide
theorem kb_33 : (Int8.ofInt (33)).toInt32 = 33 := by decide
theorem kb_37 : (Int8.ofInt (37)).toInt32 = 37 := by decide
theorem kb_38 : (Int8.ofInt (38)).toInt32 = 38 := by decide
theorem kb_39 : (Int8.ofInt (39)).toInt32 = 39 := by decide
theorem kb_40 : (Int8.ofInt (40)).toInt32 = 40 := by decide
theorem kb_41 : (Int8.ofInt (41)).toInt32 = 41 := by decide
theorem kb_42 : (Int8.ofInt (42)).toInt32 = 42 := by decide
theorem kb_43 : (Int8.ofInt (43)).toInt32 = 43 := by decide
theorem kb_45 : (Int8.ofInt (45)).toInt32 = 45 := by decide
theorem kb_47 : (Int8.ofInt (47)).toInt32 = 47 := by decide
theorem kb_48 : (Int8.ofInt (48)).toInt32 = 48 := by decide
theorem kb_50 : (Int8.ofInt (50)).toInt32 = 50 := by decide
theorem kb_51 : (Int8.ofInt (51)).toInt32 = 51 := by decide
theorem kb_57 : (Int8.ofInt (57)).toInt32 = 57 := by decide
theorem kb_59 : (Int8.ofInt (59)).toInt32 = 59 := by decide
theorem kb_60 : (Int8.ofInt (60)).toInt32 = 60 := by decide
theorem kb_61 : (Int8.ofInt (61)).toInt32 = 61 := by decide
theorem kb_62 : (Int8.ofInt (62)).toInt32 = 62 := by decide
theorem kb_63 : (Int8.ofInt (63)).toInt32 = 63 := by decide
theorem kb_70 : (Int8.ofInt (70)).toInt32 = 70 := by decide
theorem kb_80 : (Int8.ofInt (80)).toInt32 = 80 := by decide
theorem kb_81 : (Int8.ofInt (81)).toInt32 = 81 := by decide
theorem kb_99 : (Int8.ofInt (99)).toInt32 = 99 := by decide
theorem kb_100 : (Int8.ofInt (100)).toInt32 = 100 := by decide
theorem kb_120 : (Int8.ofInt (120)).toInt32 = 120 := by decide
theorem kb_124 : (Int8.ofInt (124)).toInt32 = 124 := by decide
theorem kb_126 : (Int8.ofInt (126)).toInt32 = 126 := by decide
theorem kc_m1 : Int32.ofInt (-1) = -1 := by decide
theorem kc_0 : Int32.ofInt (0) = 0 := by decide
theorem kc_1 : Int32.ofInt (1) = 1 := by decide
theorem kc_2 : Int32.ofInt (2) = 2 := by decide
theorem kc_3 : Int32.ofInt (3) = 3 := by decide
theorem kc_4 : Int32.ofInt (4) = 4 := by decide
theorem kc_5 : Int32.ofInt (5) = 5 := by decide
theorem ki_1 {x v : Int32} (h : x + (1) = v) : x + Int32.ofInt (1) = v := h
theorem ki_2 {x v : Int32} (h : x + (2) = v) : x + Int32.ofInt (2) = v := h
theorem ki_4 {x v : Int32} (h : x + (4) = v) : x + Int32.ofInt (4) = v := h
theorem ki_8 {x v : Int32} (h : x + (8) = v) : x + Int32.ofInt (8) = v := h
theorem ki_16 {x v : Int32} (h : x + (16) = v) : x + Int32.ofInt (16) = v := h
theorem ks_255 : (Int16.ofInt (255)).toInt32 = 255 := by decide
theorem ks_256 : (Int16.ofInt (256)).toInt32 = 256 := by decide
theorem ks_12345 : (Int16.ofInt (12345)).toInt32 = 12345 := by decide
theorem q_0 : .selects RX10 yX10_promisesFromRow yX10_promisesFromRow ∈ gW := gW_in (i := 0) (by decide +kernel) (by decide +kernel)
theorem q_1 : .selects RX8 yX8_rowOf yX8_rowOf ∈ gW := gW_in (i := 1) (by decide +kernel) (by decide +kernel)
theorem q_2 : .selects RX0 yX0_dropOldest yX0_dropOldest ∈ gW := gW_in (i := 2) (by decide +kernel) (by decide +kernel)
theorem q_3 : .selects RX5 yX5_readLine yX5_readLine ∈ gW := gW_in (i := 3) (by decide +kernel) (by decide +kernel)
theorem q_4 : .selects RX5 yX5_readLevel yX5_readLevel ∈ gW := gW_in (i := 4) (by decide +kernel) (by decide +kernel)
theorem q_5 : .selects RX5 yX5_readPart yX5_readPart ∈ gW := gW_in (i := 5) (by decide +kernel) (by decide +kernel)
theorem q_6 : .selects RX5 yX5_readOperand yX5_readOperand ∈ gW := gW_in (i := 6) (by decide +kernel) (by decide +kernel)
theorem q_7 : .selects RX5 yX5_next yX5_next ∈ gW := gW_in (i := 7) (by decide +kernel) (by decide +kernel)
theorem q_8 : .selects RX5 yX5_readNumber yX5_readNumber ∈ gW := gW_in (i := 8) (by decide +kernel) (by decide +kernel)
theorem q_9 : .selects RX5 yX5_write yX5_write ∈ gW := gW_in (i := 9) (by decide +kernel) (by decide +kernel)
theorem q_10 : .selects RX5 yX5_readOpened yX5_readOpened ∈ gW := gW_in (i := 10) (by decide +kernel) (by decide +kernel)
theorem q_11 : .selects RX5 yX5_fail yX5_fail ∈ gW := gW_in (i := 11) (by decide +kernel) (by decide +kernel)
theorem q_12 : .selects RX5 yX5_tell yX5_tell ∈ gW := gW_in (i := 12) (by decide +kernel) (by decide +kernel)
theorem q_13 : .selects RX5 yX5_lineEndFrom yX5_lineEndFrom ∈ gW := gW_in (i := 13) (by decide +kernel) (by decide +kernel)
theorem q_14 : .selects RX5 yX5_result yX5_result ∈ gW := gW_in (i := 14) (by decide +kernel) (by decide +kernel)
theorem q_15 : .selects RX2 yX2_layOut yX2_layOut ∈ gW := gW_in (i := 15) (by decide +kernel) (by decide +kernel)
theorem q_16 : .selects RX2 yX2_ridesLaidOut yX2_ridesLaidOut ∈ gW := gW_in (i := 16) (by decide +kernel) (by decide +kernel)
theorem q_17 : .selects RX2 yX2_ridesLaidOutWithin yX2_ridesLaidOutWithin ∈ gW := gW_in (i := 17) (by decide +kernel) (by decide +kernel)
theorem q_18 : .selects RX4 yX4_mayKeep yX4_mayKeep ∈ gW := gW_in (i := 18) (by decide +kernel) (by decide +kernel)
theorem q_19 : .selects RX4 yX4_letsRide yX4_letsRide ∈ gW := gW_in (i := 19) (by decide +kernel) (by decide +kernel)
theorem q_20 : .selects RX4 yX4_weightOf yX4_weightOf ∈ gW := gW_in (i := 20) (by decide +kernel) (by decide +kernel)
theorem q_21 : .selects RX9 yX9_fillFits yX9_fillFits ∈ gW := gW_in (i := 21) (by decide +kernel) (by decide +kernel)
theorem q_22 : .selects RX9 yX9_isSet yX9_isSet ∈ gW := gW_in (i := 22) (by decide +kernel) (by decide +kernel)
theorem q_23 : .selects RX9 yX9_eachLessOneFits yX9_eachLessOneFits ∈ gW := gW_in (i := 23) (by decide +kernel) (by decide +kernel)
theorem q_24 : .selects RX9 yX9_hasDaysForAll yX9_hasDaysForAll ∈ gW := gW_in (i := 24) (by decide +kernel) (by decide +kernel)
theorem q_25 : .selects RX9 yX9_isClash yX9_isClash ∈ gW := gW_in (i := 25) (by decide +kernel) (by decide +kernel)
theorem q_26 : .selects RX1 yX1_isSoIfKeptOn yX1_isSoIfKeptOn ∈ gW := gW_in (i := 26) (by decide +kernel) (by decide +kernel)
theorem q_27 : .selects RX2 yX2_drawLife yX2_drawLife ∈ gW := gW_in (i := 27) (by decide +kernel) (by decide +kernel)
theorem q_28 : .selects RX6 yX6_own yX6_own ∈ gW := gW_in (i := 28) (by decide +kernel) (by decide +kernel)
theorem q_29 : .selects RX6 yX6_run yX6_run ∈ gW := gW_in (i := 29) (by decide +kernel) (by decide +kernel)
theorem q_30 : .selects RX6 yX6_note yX6_note ∈ gW := gW_in (i := 30) (by decide +kernel) (by decide +kernel)
theorem q_31 : .selects RX6 yX6_fromAbove yX6_fromAbove ∈ gW := gW_in (i := 31) (by decide +kernel) (by decide +kernel)
theorem q_32 : .selects RX7 yX7_holdsRow yX7_holdsRow ∈ gW := gW_in (i := 32) (by decide +kernel) (by decide +kernel)
theorem q_33 : .selects RX11 yX11_mayCome yX11_mayCome ∈ gW := gW_in (i := 33) (by decide +kernel) (by decide +kernel)
theorem q_34 : .selects RX11 yX11_isOne yX11_isOne ∈ gW := gW_in (i := 34) (by decide +kernel) (by decide +kernel)
theorem q_35 : .selects RX11 yX11_adds yX11_adds ∈ gW := gW_in (i := 35) (by decide +kernel) (by decide +kernel)
theorem q_36 : .selects RX11 yX11_placeOf yX11_placeOf ∈ gW := gW_in (i := 36) (by decide +kernel) (by decide +kernel)
theorem q_37 : .selects RX11 yX11_isPromise yX11_isPromise ∈ gW := gW_in (i := 37) (by decide +kernel) (by decide +kernel)
theorem q_38 : .selects RX11 yX11_mayBecome yX11_mayBecome ∈ gW := gW_in (i := 38) (by decide +kernel) (by decide +kernel)
theorem q_39 : .selects RX11 yX11_becomes yX11_becomes ∈ gW := gW_in (i := 39) (by decide +kernel) (by decide +kernel)
theorem q_40 : .selects RX11 yX11_workOut yX11_workOut ∈ gW := gW_in (i := 40) (by decide +kernel) (by decide +kernel)
theorem q_41 : .selects RX11 yX11_either yX11_either ∈ gW := gW_in (i := 41) (by decide +kernel) (by decide +kernel)
theorem q_42 : .selects RX11 yX11_both yX11_both ∈ gW := gW_in (i := 42) (by decide +kernel) (by decide +kernel)
theorem q_43 : .selects RX11 yX11_compared yX11_compared ∈ gW := gW_in (i := 43) (by decide +kernel) (by decide +kernel)
theorem q_44 : .selects RX11 yX11_sums yX11_sums ∈ gW := gW_in (i := 44) (by decide +kernel) (by decide +kernel)
theorem q_45 : .selects RX11 yX11_product yX11_product ∈ gW := gW_in (i := 45) (by decide +kernel) (by decide +kernel)
theorem q_46 : .selects RX11 yX11_one yX11_one ∈ gW := gW_in (i := 46) (by decide +kernel) (by decide +kernel)
theorem q_47 : .selects RX11 yX11_byteAt yX11_byteAt ∈ gW := gW_in (i := 47) (by decide +kernel) (by decide +kernel)
theorem q_48 : .selects RX11 yX11_wrong yX11_wrong ∈ gW := gW_in (i := 48) (by decide +kernel) (by decide +kernel)
theorem q_49 : .selects RX11 yX11_takes yX11_takes ∈ gW := gW_in (i := 49) (by decide +kernel) (by decide +kernel)
theorem q_50 : .selects RX11 yX11_chainOf yX11_chainOf ∈ gW := gW_in (i := 50) (by decide +kernel) (by decide +kernel)
theorem q_51 : .selects RX11 yX11_isOf yX11_isOf ∈ gW := gW_in (i := 51) (by decide +kernel) (by decide +kernel)
theorem q_52 : .selects RX11 yX11_isOpen yX11_isOpen ∈ gW := gW_in (i := 52) (by decide +kernel) (by decide +kernel)
theorem q_53 : .selects RX11 yX11_doesRide yX11_doesRide ∈ gW := gW_in (i := 53) (by decide +kernel) (by decide +kernel)
theorem q_54 : .selects RX11 yX11_goesRound yX11_goesRound ∈ gW := gW_in (i := 54) (by decide +kernel) (by decide +kernel)
theorem q_55 : .selects RX11 yX11_creaksOf yX11_creaksOf ∈ gW := gW_in (i := 55) (by decide +kernel) (by decide +kernel)
theorem q_56 : .selects RX11 yX11_creakOf yX11_creakOf ∈ gW := gW_in (i := 56) (by decide +kernel) (by decide +kernel)
theorem q_57 : .selects RX11 yX11_debtOf yX11_debtOf ∈ gW := gW_in (i := 57) (by decide +kernel) (by decide +kernel)
theorem q_58 : .selects RX11 yX11_ridersOn yX11_ridersOn ∈ gW := gW_in (i := 58) (by decide +kernel) (by decide +kernel)
theorem q_59 : .selects RX11 yX11_lets yX11_lets ∈ gW := gW_in (i := 59) (by decide +kernel) (by decide +kernel)
theorem q_60 : .selects RX11 yX11_ownOpen yX11_ownOpen ∈ gW := gW_in (i := 60) (by decide +kernel) (by decide +kernel)
theorem q_61 : .selects RX11 yX11_linksOf yX11_linksOf ∈ gW := gW_in (i := 61) (by decide +kernel) (by decide +kernel)
theorem q_62 : .selects RX11 yX11_allOf yX11_allOf ∈ gW := gW_in (i := 62) (by decide +kernel) (by decide +kernel)
theorem q_63 : .selects RX11 yX11_areAbleTo yX11_areAbleTo ∈ gW := gW_in (i := 63) (by decide +kernel) (by decide +kernel)
theorem q_64 : .selects RX11 yX11_isClash yX11_isClash ∈ gW := gW_in (i := 64) (by decide +kernel) (by decide +kernel)
theorem q_65 : .selects RX11 yX11_ridersBy yX11_ridersBy ∈ gW := gW_in (i := 65) (by decide +kernel) (by decide +kernel)
theorem q_66 : .selects RX11 yX11_shortsIs yX11_shortsIs ∈ gW := gW_in (i := 66) (by decide +kernel) (by decide +kernel)
theorem q_67 : .selects RX11 yX11_firstFalse yX11_firstFalse ∈ gW := gW_in (i := 67) (by decide +kernel) (by decide +kernel)
theorem q_68 : .selects RX11 yX11_winsFrom yX11_winsFrom ∈ gW := gW_in (i := 68) (by decide +kernel) (by decide +kernel)
theorem q_69 : .selects RX11 yX11_isBody yX11_isBody ∈ gW := gW_in (i := 69) (by decide +kernel) (by decide +kernel)
theorem q_70 : .selects RX11 yX11_holdsAs yX11_holdsAs ∈ gW := gW_in (i := 70) (by decide +kernel) (by decide +kernel)
theorem q_71 : .selects RX11 yX11_runs yX11_runs ∈ gW := gW_in (i := 71) (by decide +kernel) (by decide +kernel)
theorem q_72 : .selects RX11 yX11_ridesAs yX11_ridesAs ∈ gW := gW_in (i := 72) (by decide +kernel) (by decide +kernel)
theorem q_73 : .selects RX11 yX11_creaksAs yX11_creaksAs ∈ gW := gW_in (i := 73) (by decide +kernel) (by decide +kernel)
theorem q_74 : .selects RX11 yX11_tellsAs yX11_tellsAs ∈ gW := gW_in (i := 74) (by decide +kernel) (by decide +kernel)
theorem q_75 : .selects RX11 yX11_refusal yX11_refusal ∈ gW := gW_in (i := 75) (by decide +kernel) (by decide +kernel)
theorem q_76 : .selects RX11 yX11_kindOf yX11_kindOf ∈ gW := gW_in (i := 76) (by decide +kernel) (by decide +kernel)
theorem q_78 : .initialized RX10 ∈ gW := gW_in (i := 78) (by decide +kernel) (by decide +kernel)
theorem q_79 : .initialized RX8 ∈ gW := gW_in (i := 79) (by decide +kernel) (by decide +kernel)
theorem q_80 : .initialized RX5 ∈ gW := gW_in (i := 80) (by decide +kernel) (by decide +kernel)
theorem q_81 : .initialized RX7 ∈ gW := gW_in (i := 81) (by decide +kernel) (by decide +kernel)
theorem q_82 : .initialized RJ7 ∈ gW := gW_in (i := 82) (by decide +kernel) (by decide +kernel)
theorem q_83 : .initialized RX6 ∈ gW := gW_in (i := 83) (by decide +kernel) (by decide +kernel)
theorem q_84 : .initialized RX0 ∈ gW := gW_in (i := 84) (by decide +kernel) (by decide +kernel)
theorem q_85 : .initialized RX2 ∈ gW := gW_in (i := 85) (by decide +kernel) (by decide +kernel)
theorem q_86 : .initialized RX4 ∈ gW := gW_in (i := 86) (by decide +kernel) (by decide +kernel)
theorem q_87 : .initialized RX9 ∈ gW := gW_in (i := 87) (by decide +kernel) (by decide +kernel)
theorem q_88 : .initialized RX1 ∈ gW := gW_in (i := 88) (by decide +kernel) (by decide +kernel)
theorem q_89 : .initialized RX3 ∈ gW := gW_in (i := 89) (by decide +kernel) (by decide +kernel)
theorem q_90 : .initialized RX11 ∈ gW := gW_in (i := 90) (by decide +kernel) (by decide +kernel)
theorem q_92 : .initialized RJ9 ∈ gW := gW_in (i := 92) (by decide +kernel) (by decide +kernel)
theorem q_93 : .initialized RJ6 ∈ gW := gW_in (i := 93) (by decide +kernel) (by decide +kernel)
theorem q_108 : .fieldLink RX8 9 "ChainsHold$Smith" "base" "[I" ∈ gW := gW_in (i := 108) (by decide +kernel) (by decide +kernel)
theorem q_109 : .fieldLink RX2 31 "ChainsHold$Smith" "base" "[I" ∈ gW := gW_in (i := 109) (by decide +kernel) (by decide +kernel)
theorem q_110 : .fieldLink RX8 15 "ChainsHold$Smith" "round" "[I" ∈ gW := gW_in (i := 110) (by decide +kernel) (by decide +kernel)
theorem q_111 : .fieldLink RX1 58 "ChainsHold$Smith" "round" "[I" ∈ gW := gW_in (i := 111) (by decide +kernel) (by decide +kernel)
theorem q_112 : .fieldLink RX8 18 "ChainsHold$Smith" "slack" "[I" ∈ gW := gW_in (i := 112) (by decide +kernel) (by decide +kernel)
theorem q_113 : .fieldLink RX8 21 "ChainsHold$Smith" "whose" "[I" ∈ gW := gW_in (i := 113) (by decide +kernel) (by decide +kernel)
theorem q_114 : .fieldLink RX1 51 "ChainsHold$Smith" "whose" "[I" ∈ gW := gW_in (i := 114) (by decide +kernel) (by decide +kernel)
theorem q_115 : .fieldLink RX2 82 "ChainsHold$Smith" "whose" "[I" ∈ gW := gW_in (i := 115) (by decide +kernel) (by decide +kernel)
theorem q_116 : .fieldLink RX10 232 "ChainsHold$Smith" "whose" "[I" ∈ gW := gW_in (i := 116) (by decide +kernel) (by decide +kernel)
theorem q_117 : .fieldLink RX8 24 "ChainsHold$Smith" "made" "[I" ∈ gW := gW_in (i := 117) (by decide +kernel) (by decide +kernel)
theorem q_118 : .fieldLink RX2 44 "ChainsHold$Smith" "made" "[I" ∈ gW := gW_in (i := 118) (by decide +kernel) (by decide +kernel)
theorem q_119 : .fieldLink RX9 52 "ChainsHold$Smith" "made" "[I" ∈ gW := gW_in (i := 119) (by decide +kernel) (by decide +kernel)
theorem q_120 : .fieldLink RX8 27 "ChainsHold$Smith" "due" "[I" ∈ gW := gW_in (i := 120) (by decide +kernel) (by decide +kernel)
theorem q_121 : .fieldLink RX1 38 "ChainsHold$Smith" "due" "[I" ∈ gW := gW_in (i := 121) (by decide +kernel) (by decide +kernel)
theorem q_122 : .fieldLink RX9 62 "ChainsHold$Smith" "due" "[I" ∈ gW := gW_in (i := 122) (by decide +kernel) (by decide +kernel)
theorem q_123 : .fieldLink RX8 30 "ChainsHold$Smith" "links" "[I" ∈ gW := gW_in (i := 123) (by decide +kernel) (by decide +kernel)
theorem q_124 : .fieldLink RX1 42 "ChainsHold$Smith" "links" "[I" ∈ gW := gW_in (i := 124) (by decide +kernel) (by decide +kernel)
theorem q_125 : .fieldLink RX2 47 "ChainsHold$Smith" "links" "[I" ∈ gW := gW_in (i := 125) (by decide +kernel) (by decide +kernel)
theorem q_126 : .fieldLink RX4 62 "ChainsHold$Smith" "links" "[I" ∈ gW := gW_in (i := 126) (by decide +kernel) (by decide +kernel)
theorem q_127 : .fieldLink RX9 68 "ChainsHold$Smith" "links" "[I" ∈ gW := gW_in (i := 127) (by decide +kernel) (by decide +kernel)
theorem q_128 : .fieldLink RX8 33 "ChainsHold$Smith" "kept" "[I" ∈ gW := gW_in (i := 128) (by decide +kernel) (by decide +kernel)
theorem q_129 : .fieldLink RX2 56 "ChainsHold$Smith" "kept" "[I" ∈ gW := gW_in (i := 129) (by decide +kernel) (by decide +kernel)
theorem q_130 : .fieldLink RX3 40 "ChainsHold$Smith" "kept" "[I" ∈ gW := gW_in (i := 130) (by decide +kernel) (by decide +kernel)
theorem q_131 : .fieldLink RX1 110 "ChainsHold$Smith" "kept" "[I" ∈ gW := gW_in (i := 131) (by decide +kernel) (by decide +kernel)
theorem q_132 : .fieldLink RX8 36 "ChainsHold$Smith" "with" "[I" ∈ gW := gW_in (i := 132) (by decide +kernel) (by decide +kernel)
theorem q_133 : .fieldLink RX8 39 "ChainsHold$Smith" "people" "I" ∈ gW := gW_in (i := 133) (by decide +kernel) (by decide +kernel)
theorem q_134 : .fieldLink RX10 87 "ChainsHold$Smith" "people" "I" ∈ gW := gW_in (i := 134) (by decide +kernel) (by decide +kernel)
theorem q_135 : .fieldLink RX1 104 "ChainsHold$Smith" "people" "I" ∈ gW := gW_in (i := 135) (by decide +kernel) (by decide +kernel)
theorem q_136 : .fieldLink RX2 67 "ChainsHold$Smith" "people" "I" ∈ gW := gW_in (i := 136) (by decide +kernel) (by decide +kernel)
theorem q_137 : .fieldLink RX2 36 "ChainsHold$Smith" "promises" "I" ∈ gW := gW_in (i := 137) (by decide +kernel) (by decide +kernel)
theorem q_138 : .fieldLink RX8 43 "ChainsHold$Smith" "promises" "I" ∈ gW := gW_in (i := 138) (by decide +kernel) (by decide +kernel)
theorem q_139 : .fieldLink RX1 77 "ChainsHold$Smith" "promises" "I" ∈ gW := gW_in (i := 139) (by decide +kernel) (by decide +kernel)
theorem q_140 : .fieldLink RX3 52 "ChainsHold$Smith" "promises" "I" ∈ gW := gW_in (i := 140) (by decide +kernel) (by decide +kernel)
theorem q_141 : .fieldLink RX9 43 "ChainsHold$Smith" "promises" "I" ∈ gW := gW_in (i := 141) (by decide +kernel) (by decide +kernel)
theorem q_142 : .fieldLink RX4 55 "ChainsHold$Smith" "promises" "I" ∈ gW := gW_in (i := 142) (by decide +kernel) (by decide +kernel)
theorem q_143 : .fieldLink RX10 376 "ChainsHold$Smith" "promises" "I" ∈ gW := gW_in (i := 143) (by decide +kernel) (by decide +kernel)
theorem q_174 : .fieldLink RX5 25 "ChainsHold$Law" "fed" "I" ∈ gW := gW_in (i := 174) (by decide +kernel) (by decide +kernel)
theorem q_175 : .fieldLink RX10 144 "ChainsHold$Law" "fed" "I" ∈ gW := gW_in (i := 175) (by decide +kernel) (by decide +kernel)
theorem q_176 : .fieldLink RX5 9 "ChainsHold$Law" "tape" "[I" ∈ gW := gW_in (i := 176) (by decide +kernel) (by decide +kernel)
theorem q_177 : .fieldLink RX5 13 "ChainsHold$Law" "signs" "[I" ∈ gW := gW_in (i := 177) (by decide +kernel) (by decide +kernel)
theorem q_178 : .fieldLink RX5 16 "ChainsHold$Law" "draft" "[I" ∈ gW := gW_in (i := 178) (by decide +kernel) (by decide +kernel)
theorem q_179 : .fieldLink RX5 19 "ChainsHold$Law" "stack" "[I" ∈ gW := gW_in (i := 179) (by decide +kernel) (by decide +kernel)
theorem q_180 : .fieldLink RX5 22 "ChainsHold$Law" "told" "[I" ∈ gW := gW_in (i := 180) (by decide +kernel) (by decide +kernel)
theorem q_181 : .fieldLink RX5 29 "ChainsHold$Law" "length" "I" ∈ gW := gW_in (i := 181) (by decide +kernel) (by decide +kernel)
theorem q_182 : .fieldLink RX5 35 "ChainsHold$Law" "drafted" "I" ∈ gW := gW_in (i := 182) (by decide +kernel) (by decide +kernel)
theorem q_183 : .fieldLink RX5 32 "ChainsHold$Law" "place" "I" ∈ gW := gW_in (i := 183) (by decide +kernel) (by decide +kernel)
theorem q_184 : .fieldLink RX5 38 "ChainsHold$Law" "fault" "I" ∈ gW := gW_in (i := 184) (by decide +kernel) (by decide +kernel)
theorem q_213 : .static yJ7_fill_53178 ∈ gW := gW_in (i := 213) (by decide +kernel) (by decide +kernel)
theorem q_214 : .code yJ7_fill_53178 cJ7_fill_53178 4 none ∈ gW := gW_in (i := 214) (by decide +kernel) (by decide +kernel)
theorem q_215 : .fieldLink RX7 11 "ChainsHold$Shelves" "sizes" "[I" ∈ gW := gW_in (i := 215) (by decide +kernel) (by decide +kernel)
theorem q_216 : .fieldLink RX1 91 "ChainsHold$Shelves" "sizes" "[I" ∈ gW := gW_in (i := 216) (by decide +kernel) (by decide +kernel)
theorem q_217 : .fieldLink RX7 15 "ChainsHold$Shelves" "bodies" "[I" ∈ gW := gW_in (i := 217) (by decide +kernel) (by decide +kernel)
theorem q_218 : .fieldLink RX10 367 "ChainsHold$Shelves" "bodies" "[I" ∈ gW := gW_in (i := 218) (by decide +kernel) (by decide +kernel)
theorem q_219 : .fieldLink RX7 18 "ChainsHold$Shelves" "holds" "[I" ∈ gW := gW_in (i := 219) (by decide +kernel) (by decide +kernel)
theorem q_220 : .fieldLink RX7 21 "ChainsHold$Shelves" "elements" "[J" ∈ gW := gW_in (i := 220) (by decide +kernel) (by decide +kernel)
theorem q_237 : .fieldLink RX6 18 "ChainsHold$Links" "size" "I" ∈ gW := gW_in (i := 237) (by decide +kernel) (by decide +kernel)
theorem q_238 : .fieldLink RX10 315 "ChainsHold$Links" "size" "I" ∈ gW := gW_in (i := 238) (by decide +kernel) (by decide +kernel)
theorem q_239 : .fieldLink RX6 29 "ChainsHold$Links" "ran" "I" ∈ gW := gW_in (i := 239) (by decide +kernel) (by decide +kernel)
theorem q_240 : .fieldLink RX10 323 "ChainsHold$Links" "ran" "I" ∈ gW := gW_in (i := 240) (by decide +kernel) (by decide +kernel)
theorem q_241 : .fieldLink RX6 11 "ChainsHold$Links" "traced" "[I" ∈ gW := gW_in (i := 241) (by decide +kernel) (by decide +kernel)
theorem q_242 : .fieldLink RX10 331 "ChainsHold$Links" "traced" "[I" ∈ gW := gW_in (i := 242) (by decide +kernel) (by decide +kernel)
theorem q_243 : .fieldLink RX6 15 "ChainsHold$Links" "kinds" "[I" ∈ gW := gW_in (i := 243) (by decide +kernel) (by decide +kernel)
theorem q_244 : .fieldLink RX6 36 "ChainsHold$Links" "acting" "I" ∈ gW := gW_in (i := 244) (by decide +kernel) (by decide +kernel)
theorem q_262 : .fieldLink RX0 22 "ChainsHold$Changes" "standing" "I" ∈ gW := gW_in (i := 262) (by decide +kernel) (by decide +kernel)
theorem q_263 : .fieldLink RX10 303 "ChainsHold$Changes" "standing" "I" ∈ gW := gW_in (i := 263) (by decide +kernel) (by decide +kernel)
theorem q_264 : .fieldLink RX0 29 "ChainsHold$Changes" "all" "I" ∈ gW := gW_in (i := 264) (by decide +kernel) (by decide +kernel)
theorem q_265 : .fieldLink RX10 309 "ChainsHold$Changes" "all" "I" ∈ gW := gW_in (i := 265) (by decide +kernel) (by decide +kernel)
theorem q_266 : .fieldLink RX0 9 "ChainsHold$Changes" "numbers" "[I" ∈ gW := gW_in (i := 266) (by decide +kernel) (by decide +kernel)
theorem q_267 : .fieldLink RX0 13 "ChainsHold$Changes" "whats" "[I" ∈ gW := gW_in (i := 267) (by decide +kernel) (by decide +kernel)
theorem q_268 : .fieldLink RX0 16 "ChainsHold$Changes" "befores" "[I" ∈ gW := gW_in (i := 268) (by decide +kernel) (by decide +kernel)
theorem q_269 : .fieldLink RX0 19 "ChainsHold$Changes" "afters" "[I" ∈ gW := gW_in (i := 269) (by decide +kernel) (by decide +kernel)
theorem q_289 : .fieldLink RX2 21 "ChainsHold$Days" "smith" "LChainsHold$Smith;" ∈ gW := gW_in (i := 289) (by decide +kernel) (by decide +kernel)
theorem q_290 : .fieldLink RX2 9 "ChainsHold$Days" "lengths" "[I" ∈ gW := gW_in (i := 290) (by decide +kernel) (by decide +kernel)
theorem q_291 : .fieldLink RX2 15 "ChainsHold$Days" "riders" "[I" ∈ gW := gW_in (i := 291) (by decide +kernel) (by decide +kernel)
theorem q_292 : .fieldLink RX2 18 "ChainsHold$Days" "drawnKepts" "[I" ∈ gW := gW_in (i := 292) (by decide +kernel) (by decide +kernel)
theorem q_308 : .fieldLink RX4 9 "ChainsHold$Keeping" "smith" "LChainsHold$Smith;" ∈ gW := gW_in (i := 308) (by decide +kernel) (by decide +kernel)
theorem q_318 : .fieldLink RX9 15 "ChainsHold$Work" "smith" "LChainsHold$Smith;" ∈ gW := gW_in (i := 318) (by decide +kernel) (by decide +kernel)
theorem q_319 : .fieldLink RX9 9 "ChainsHold$Work" "fits" "[Z" ∈ gW := gW_in (i := 319) (by decide +kernel) (by decide +kernel)
theorem q_332 : .fieldLink RX1 20 "ChainsHold$Creaks" "smith" "LChainsHold$Smith;" ∈ gW := gW_in (i := 332) (by decide +kernel) (by decide +kernel)
theorem q_333 : .fieldLink RX1 24 "ChainsHold$Creaks" "law" "LChainsHold$Law;" ∈ gW := gW_in (i := 333) (by decide +kernel) (by decide +kernel)
theorem q_334 : .fieldLink RX1 28 "ChainsHold$Creaks" "shelves" "LChainsHold$Shelves;" ∈ gW := gW_in (i := 334) (by decide +kernel) (by decide +kernel)
theorem q_335 : .fieldLink RX1 11 "ChainsHold$Creaks" "soIfOpen" "[Z" ∈ gW := gW_in (i := 335) (by decide +kernel) (by decide +kernel)
theorem q_336 : .fieldLink RX1 17 "ChainsHold$Creaks" "soIfKept" "[Z" ∈ gW := gW_in (i := 336) (by decide +kernel) (by decide +kernel)
theorem q_354 : .fieldLink RX3 11 "ChainsHold$Deeds" "led" "[I" ∈ gW := gW_in (i := 354) (by decide +kernel) (by decide +kernel)
theorem q_355 : .fieldLink RX10 290 "ChainsHold$Deeds" "led" "[I" ∈ gW := gW_in (i := 355) (by decide +kernel) (by decide +kernel)
theorem q_356 : .fieldLink RX3 59 "ChainsHold$Deeds" "hasImage" "Z" ∈ gW := gW_in (i := 356) (by decide +kernel) (by decide +kernel)
theorem q_357 : .fieldLink RX10 296 "ChainsHold$Deeds" "hasImage" "Z" ∈ gW := gW_in (i := 357) (by decide +kernel) (by decide +kernel)
theorem q_358 : .fieldLink RX3 21 "ChainsHold$Deeds" "smith" "LChainsHold$Smith;" ∈ gW := gW_in (i := 358) (by decide +kernel) (by decide +kernel)
theorem q_359 : .fieldLink RX3 15 "ChainsHold$Deeds" "imageLed" "[I" ∈ gW := gW_in (i := 359) (by decide +kernel) (by decide +kernel)
theorem q_360 : .fieldLink RX3 18 "ChainsHold$Deeds" "imageKept" "[I" ∈ gW := gW_in (i := 360) (by decide +kernel) (by decide +kernel)
theorem q_361 : .fieldLink RX3 56 "ChainsHold$Deeds" "imagePromises" "I" ∈ gW := gW_in (i := 361) (by decide +kernel) (by decide +kernel)
theorem q_375 : .fieldLink RX10 10 "ChainsHold" "smith" "LChainsHold$Smith;" ∈ gW := gW_in (i := 375) (by decide +kernel) (by decide +kernel)
theorem q_376 : .fieldLink RX10 19 "ChainsHold" "law" "LChainsHold$Law;" ∈ gW := gW_in (i := 376) (by decide +kernel) (by decide +kernel)
theorem q_377 : .fieldLink RX10 49 "ChainsHold" "days" "LChainsHold$Days;" ∈ gW := gW_in (i := 377) (by decide +kernel) (by decide +kernel)
theorem q_378 : .fieldLink RX10 56 "ChainsHold" "keeping" "LChainsHold$Keeping;" ∈ gW := gW_in (i := 378) (by decide +kernel) (by decide +kernel)
theorem q_379 : .fieldLink RX10 63 "ChainsHold" "work" "LChainsHold$Work;" ∈ gW := gW_in (i := 379) (by decide +kernel) (by decide +kernel)
theorem q_380 : .fieldLink RX10 72 "ChainsHold" "creaks" "LChainsHold$Creaks;" ∈ gW := gW_in (i := 380) (by decide +kernel) (by decide +kernel)
theorem q_381 : .fieldLink RX10 79 "ChainsHold" "deeds" "LChainsHold$Deeds;" ∈ gW := gW_in (i := 381) (by decide +kernel) (by decide +kernel)
theorem q_382 : .fieldLink RX10 40 "ChainsHold" "changes" "LChainsHold$Changes;" ∈ gW := gW_in (i := 382) (by decide +kernel) (by decide +kernel)
theorem q_383 : .fieldLink RX10 33 "ChainsHold" "links" "LChainsHold$Links;" ∈ gW := gW_in (i := 383) (by decide +kernel) (by decide +kernel)
theorem q_384 : .fieldLink RX10 26 "ChainsHold" "shelves" "LChainsHold$Shelves;" ∈ gW := gW_in (i := 384) (by decide +kernel) (by decide +kernel)
theorem q_410 : .methodLink RX10 83 yX10_within ∈ gW := gW_in (i := 410) (by decide +kernel) (by decide +kernel)
theorem q_411 : .static yX10_within ∈ gW := gW_in (i := 411) (by decide +kernel) (by decide +kernel)
theorem q_412 : .code yX10_within cX10_within 3 (some .boolean) ∈ gW := gW_in (i := 412) (by decide +kernel) (by decide +kernel)
theorem q_413 : .methodLink RX10 91 yX8_addOne ∈ gW := gW_in (i := 413) (by decide +kernel) (by decide +kernel)
theorem q_414 : .instanceMethod yX8_addOne ∈ gW := gW_in (i := 414) (by decide +kernel) (by decide +kernel)
theorem q_415 : .selects RX8 yX8_addOne yX8_addOne ∈ gW := gW_in (i := 415) (by decide +kernel) (by decide +kernel)
theorem q_416 : .code yX8_addOne cX8_addOne 3 (some .int) ∈ gW := gW_in (i := 416) (by decide +kernel) (by decide +kernel)
theorem q_421 : .methodLink RX10 95 yX8_canPromise ∈ gW := gW_in (i := 421) (by decide +kernel) (by decide +kernel)
theorem q_422 : .instanceMethod yX8_canPromise ∈ gW := gW_in (i := 422) (by decide +kernel) (by decide +kernel)
theorem q_423 : .selects RX8 yX8_canPromise yX8_canPromise ∈ gW := gW_in (i := 423) (by decide +kernel) (by decide +kernel)
theorem q_424 : .code yX8_canPromise cX8_canPromise 5 (some .boolean) ∈ gW := gW_in (i := 424) (by decide +kernel) (by decide +kernel)
theorem q_425 : .methodLink RX8 46 yX8_isOne ∈ gW := gW_in (i := 425) (by decide +kernel) (by decide +kernel)
theorem q_426 : .instanceMethod yX8_isOne ∈ gW := gW_in (i := 426) (by decide +kernel) (by decide +kernel)
theorem q_427 : .selects RX8 yX8_isOne yX8_isOne ∈ gW := gW_in (i := 427) (by decide +kernel) (by decide +kernel)
theorem q_428 : .code yX8_isOne cX8_isOne 2 (some .boolean) ∈ gW := gW_in (i := 428) (by decide +kernel) (by decide +kernel)
theorem q_430 : .static yX10_isDay ∈ gW := gW_in (i := 430) (by decide +kernel) (by decide +kernel)
theorem q_431 : .code yX10_isDay cX10_isDay 1 (some .boolean) ∈ gW := gW_in (i := 431) (by decide +kernel) (by decide +kernel)
theorem q_433 : .methodLink RX10 99 yX8_isFull ∈ gW := gW_in (i := 433) (by decide +kernel) (by decide +kernel)
theorem q_434 : .instanceMethod yX8_isFull ∈ gW := gW_in (i := 434) (by decide +kernel) (by decide +kernel)
theorem q_435 : .selects RX8 yX8_isFull yX8_isFull ∈ gW := gW_in (i := 435) (by decide +kernel) (by decide +kernel)
theorem q_436 : .code yX8_isFull cX8_isFull 1 (some .boolean) ∈ gW := gW_in (i := 436) (by decide +kernel) (by decide +kernel)
theorem q_437 : .methodLink RX10 103 yX8_addPromise ∈ gW := gW_in (i := 437) (by decide +kernel) (by decide +kernel)
theorem q_438 : .instanceMethod yX8_addPromise ∈ gW := gW_in (i := 438) (by decide +kernel) (by decide +kernel)
theorem q_439 : .selects RX8 yX8_addPromise yX8_addPromise ∈ gW := gW_in (i := 439) (by decide +kernel) (by decide +kernel)
theorem q_440 : .code yX8_addPromise cX8_addPromise 5 (some .int) ∈ gW := gW_in (i := 440) (by decide +kernel) (by decide +kernel)
theorem q_445 : .methodLink RX10 107 yX7_isShelf ∈ gW := gW_in (i := 445) (by decide +kernel) (by decide +kernel)
theorem q_446 : .instanceMethod yX7_isShelf ∈ gW := gW_in (i := 446) (by decide +kernel) (by decide +kernel)
theorem q_447 : .selects RX7 yX7_isShelf yX7_isShelf ∈ gW := gW_in (i := 447) (by decide +kernel) (by decide +kernel)
theorem q_448 : .code yX7_isShelf cX7_isShelf 2 (some .boolean) ∈ gW := gW_in (i := 448) (by decide +kernel) (by decide +kernel)
theorem q_449 : .methodLink RX10 111 yX7_refusalOfRow ∈ gW := gW_in (i := 449) (by decide +kernel) (by decide +kernel)
theorem q_450 : .instanceMethod yX7_refusalOfRow ∈ gW := gW_in (i := 450) (by decide +kernel) (by decide +kernel)
theorem q_451 : .selects RX7 yX7_refusalOfRow yX7_refusalOfRow ∈ gW := gW_in (i := 451) (by decide +kernel) (by decide +kernel)
theorem q_452 : .code yX7_refusalOfRow cX7_refusalOfRow 3 (some .int) ∈ gW := gW_in (i := 452) (by decide +kernel) (by decide +kernel)
theorem q_453 : .methodLink RX10 114 yX10_promisesFromRow ∈ gW := gW_in (i := 453) (by decide +kernel) (by decide +kernel)
theorem q_455 : .instanceMethod yX10_promisesFromRow ∈ gW := gW_in (i := 455) (by decide +kernel) (by decide +kernel)
theorem q_456 : .code yX10_promisesFromRow cX10_promisesFromRow 10 (some .int) ∈ gW := gW_in (i := 456) (by decide +kernel) (by decide +kernel)
theorem q_457 : .methodLink RX10 118 yX7_hasPlaces ∈ gW := gW_in (i := 457) (by decide +kernel) (by decide +kernel)
theorem q_458 : .instanceMethod yX7_hasPlaces ∈ gW := gW_in (i := 458) (by decide +kernel) (by decide +kernel)
theorem q_459 : .selects RX7 yX7_hasPlaces yX7_hasPlaces ∈ gW := gW_in (i := 459) (by decide +kernel) (by decide +kernel)
theorem q_460 : .code yX7_hasPlaces cX7_hasPlaces 4 (some .boolean) ∈ gW := gW_in (i := 460) (by decide +kernel) (by decide +kernel)
theorem q_461 : .methodLink RX10 121 yX7_elementAt ∈ gW := gW_in (i := 461) (by decide +kernel) (by decide +kernel)
theorem q_462 : .instanceMethod yX7_elementAt ∈ gW := gW_in (i := 462) (by decide +kernel) (by decide +kernel)
theorem q_463 : .selects RX7 yX7_elementAt yX7_elementAt ∈ gW := gW_in (i := 463) (by decide +kernel) (by decide +kernel)
theorem q_464 : .code yX7_elementAt cX7_elementAt 3 (some .long) ∈ gW := gW_in (i := 464) (by decide +kernel) (by decide +kernel)
theorem q_469 : .methodLink RX10 125 yX8_has ∈ gW := gW_in (i := 469) (by decide +kernel) (by decide +kernel)
theorem q_470 : .instanceMethod yX8_has ∈ gW := gW_in (i := 470) (by decide +kernel) (by decide +kernel)
theorem q_471 : .selects RX8 yX8_has yX8_has ∈ gW := gW_in (i := 471) (by decide +kernel) (by decide +kernel)
theorem q_472 : .code yX8_has cX8_has 3 (some .boolean) ∈ gW := gW_in (i := 472) (by decide +kernel) (by decide +kernel)
theorem q_473 : .methodLink RX8 57 yX8_isPromise ∈ gW := gW_in (i := 473) (by decide +kernel) (by decide +kernel)
theorem q_474 : .instanceMethod yX8_isPromise ∈ gW := gW_in (i := 474) (by decide +kernel) (by decide +kernel)
theorem q_475 : .selects RX8 yX8_isPromise yX8_isPromise ∈ gW := gW_in (i := 475) (by decide +kernel) (by decide +kernel)
theorem q_476 : .code yX8_isPromise cX8_isPromise 2 (some .boolean) ∈ gW := gW_in (i := 476) (by decide +kernel) (by decide +kernel)
theorem q_477 : .methodLink RX10 129 yX8_canBecome ∈ gW := gW_in (i := 477) (by decide +kernel) (by decide +kernel)
theorem q_478 : .instanceMethod yX8_canBecome ∈ gW := gW_in (i := 478) (by decide +kernel) (by decide +kernel)
theorem q_479 : .selects RX8 yX8_canBecome yX8_canBecome ∈ gW := gW_in (i := 479) (by decide +kernel) (by decide +kernel)
theorem q_480 : .code yX8_canBecome cX8_canBecome 4 (some .boolean) ∈ gW := gW_in (i := 480) (by decide +kernel) (by decide +kernel)
theorem q_481 : .constant RX10 132 (-2000000000) ∈ gW := gW_in (i := 481) (by decide +kernel) (by decide +kernel)
theorem q_482 : .methodLink RX10 133 yX8_numberOf ∈ gW := gW_in (i := 482) (by decide +kernel) (by decide +kernel)
theorem q_483 : .instanceMethod yX8_numberOf ∈ gW := gW_in (i := 483) (by decide +kernel) (by decide +kernel)
theorem q_484 : .selects RX8 yX8_numberOf yX8_numberOf ∈ gW := gW_in (i := 484) (by decide +kernel) (by decide +kernel)
theorem q_485 : .code yX8_numberOf cX8_numberOf 3 (some .int) ∈ gW := gW_in (i := 485) (by decide +kernel) (by decide +kernel)
theorem q_486 : .methodLink RX8 60 yX8_rowOf ∈ gW := gW_in (i := 486) (by decide +kernel) (by decide +kernel)
theorem q_488 : .instanceMethod yX8_rowOf ∈ gW := gW_in (i := 488) (by decide +kernel) (by decide +kernel)
theorem q_489 : .code yX8_rowOf cX8_rowOf 2 (some (.array .int)) ∈ gW := gW_in (i := 489) (by decide +kernel) (by decide +kernel)
theorem q_490 : .methodLink RX10 136 yX0_add ∈ gW := gW_in (i := 490) (by decide +kernel) (by decide +kernel)
theorem q_491 : .instanceMethod yX0_add ∈ gW := gW_in (i := 491) (by decide +kernel) (by decide +kernel)
theorem q_492 : .selects RX0 yX0_add yX0_add ∈ gW := gW_in (i := 492) (by decide +kernel) (by decide +kernel)
theorem q_493 : .code yX0_add cX0_add 5 none ∈ gW := gW_in (i := 493) (by decide +kernel) (by decide +kernel)
theorem q_494 : .methodLink RX0 26 yX0_dropOldest ∈ gW := gW_in (i := 494) (by decide +kernel) (by decide +kernel)
theorem q_496 : .instanceMethod yX0_dropOldest ∈ gW := gW_in (i := 496) (by decide +kernel) (by decide +kernel)
theorem q_497 : .code yX0_dropOldest cX0_dropOldest 1 none ∈ gW := gW_in (i := 497) (by decide +kernel) (by decide +kernel)
theorem q_498 : .methodLink RX0 32 arraycopyName ∈ gW := gW_in (i := 498) (by decide +kernel) (by decide +kernel)
theorem q_501 : .methodLink RX10 140 yX8_become ∈ gW := gW_in (i := 501) (by decide +kernel) (by decide +kernel)
theorem q_502 : .instanceMethod yX8_become ∈ gW := gW_in (i := 502) (by decide +kernel) (by decide +kernel)
theorem q_503 : .selects RX8 yX8_become yX8_become ∈ gW := gW_in (i := 503) (by decide +kernel) (by decide +kernel)
theorem q_504 : .code yX8_become cX8_become 4 none ∈ gW := gW_in (i := 504) (by decide +kernel) (by decide +kernel)
theorem q_513 : .methodLink RX10 147 yX5_take ∈ gW := gW_in (i := 513) (by decide +kernel) (by decide +kernel)
theorem q_514 : .instanceMethod yX5_take ∈ gW := gW_in (i := 514) (by decide +kernel) (by decide +kernel)
theorem q_515 : .selects RX5 yX5_take yX5_take ∈ gW := gW_in (i := 515) (by decide +kernel) (by decide +kernel)
theorem q_516 : .code yX5_take cX5_take 2 (some .int) ∈ gW := gW_in (i := 516) (by decide +kernel) (by decide +kernel)
theorem q_521 : .methodLink RX10 151 yX5_read ∈ gW := gW_in (i := 521) (by decide +kernel) (by decide +kernel)
theorem q_522 : .instanceMethod yX5_read ∈ gW := gW_in (i := 522) (by decide +kernel) (by decide +kernel)
theorem q_523 : .selects RX5 yX5_read yX5_read ∈ gW := gW_in (i := 523) (by decide +kernel) (by decide +kernel)
theorem q_524 : .code yX5_read cX5_read 2 (some .int) ∈ gW := gW_in (i := 524) (by decide +kernel) (by decide +kernel)
theorem q_525 : .methodLink RX5 41 yX5_readLine ∈ gW := gW_in (i := 525) (by decide +kernel) (by decide +kernel)
theorem q_527 : .instanceMethod yX5_readLine ∈ gW := gW_in (i := 527) (by decide +kernel) (by decide +kernel)
theorem q_528 : .code yX5_readLine cX5_readLine 1 none ∈ gW := gW_in (i := 528) (by decide +kernel) (by decide +kernel)
theorem q_529 : .methodLink RX5 57 yX5_readLevel ∈ gW := gW_in (i := 529) (by decide +kernel) (by decide +kernel)
theorem q_531 : .instanceMethod yX5_readLevel ∈ gW := gW_in (i := 531) (by decide +kernel) (by decide +kernel)
theorem q_532 : .code yX5_readLevel cX5_readLevel 6 none ∈ gW := gW_in (i := 532) (by decide +kernel) (by decide +kernel)
theorem q_533 : .methodLink RX5 65 yX5_readPart ∈ gW := gW_in (i := 533) (by decide +kernel) (by decide +kernel)
theorem q_535 : .instanceMethod yX5_readPart ∈ gW := gW_in (i := 535) (by decide +kernel) (by decide +kernel)
theorem q_536 : .code yX5_readPart cX5_readPart 3 none ∈ gW := gW_in (i := 536) (by decide +kernel) (by decide +kernel)
theorem q_537 : .methodLink RX5 72 yX5_readOperand ∈ gW := gW_in (i := 537) (by decide +kernel) (by decide +kernel)
theorem q_539 : .instanceMethod yX5_readOperand ∈ gW := gW_in (i := 539) (by decide +kernel) (by decide +kernel)
theorem q_540 : .code yX5_readOperand cX5_readOperand 3 none ∈ gW := gW_in (i := 540) (by decide +kernel) (by decide +kernel)
theorem q_541 : .methodLink RX5 44 yX5_next ∈ gW := gW_in (i := 541) (by decide +kernel) (by decide +kernel)
theorem q_543 : .instanceMethod yX5_next ∈ gW := gW_in (i := 543) (by decide +kernel) (by decide +kernel)
theorem q_544 : .code yX5_next cX5_next 1 (some .int) ∈ gW := gW_in (i := 544) (by decide +kernel) (by decide +kernel)
theorem q_545 : .methodLink RX5 75 yX5_isDigit ∈ gW := gW_in (i := 545) (by decide +kernel) (by decide +kernel)
theorem q_546 : .static yX5_isDigit ∈ gW := gW_in (i := 546) (by decide +kernel) (by decide +kernel)
theorem q_547 : .code yX5_isDigit cX5_isDigit 1 (some .boolean) ∈ gW := gW_in (i := 547) (by decide +kernel) (by decide +kernel)
theorem q_548 : .methodLink RX5 79 yX5_readNumber ∈ gW := gW_in (i := 548) (by decide +kernel) (by decide +kernel)
theorem q_550 : .instanceMethod yX5_readNumber ∈ gW := gW_in (i := 550) (by decide +kernel) (by decide +kernel)
theorem q_551 : .code yX5_readNumber cX5_readNumber 3 none ∈ gW := gW_in (i := 551) (by decide +kernel) (by decide +kernel)
theorem q_552 : .methodLink RX5 61 yX5_write ∈ gW := gW_in (i := 552) (by decide +kernel) (by decide +kernel)
theorem q_554 : .instanceMethod yX5_write ∈ gW := gW_in (i := 554) (by decide +kernel) (by decide +kernel)
theorem q_555 : .code yX5_write cX5_write 2 none ∈ gW := gW_in (i := 555) (by decide +kernel) (by decide +kernel)
theorem q_556 : .methodLink RX5 82 yX5_nameOf ∈ gW := gW_in (i := 556) (by decide +kernel) (by decide +kernel)
theorem q_557 : .static yX5_nameOf ∈ gW := gW_in (i := 557) (by decide +kernel) (by decide +kernel)
theorem q_558 : .code yX5_nameOf cX5_nameOf 1 (some .int) ∈ gW := gW_in (i := 558) (by decide +kernel) (by decide +kernel)
theorem q_559 : .methodLink RX5 85 yX5_readOpened ∈ gW := gW_in (i := 559) (by decide +kernel) (by decide +kernel)
theorem q_561 : .instanceMethod yX5_readOpened ∈ gW := gW_in (i := 561) (by decide +kernel) (by decide +kernel)
theorem q_562 : .code yX5_readOpened cX5_readOpened 3 none ∈ gW := gW_in (i := 562) (by decide +kernel) (by decide +kernel)
theorem q_563 : .methodLink RX5 48 yX5_fail ∈ gW := gW_in (i := 563) (by decide +kernel) (by decide +kernel)
theorem q_565 : .instanceMethod yX5_fail ∈ gW := gW_in (i := 565) (by decide +kernel) (by decide +kernel)
theorem q_566 : .code yX5_fail cX5_fail 1 none ∈ gW := gW_in (i := 566) (by decide +kernel) (by decide +kernel)
theorem q_567 : .methodLink RX5 68 yX5_levelOf ∈ gW := gW_in (i := 567) (by decide +kernel) (by decide +kernel)
theorem q_568 : .static yX5_levelOf ∈ gW := gW_in (i := 568) (by decide +kernel) (by decide +kernel)
theorem q_569 : .code yX5_levelOf cX5_levelOf 1 (some .int) ∈ gW := gW_in (i := 569) (by decide +kernel) (by decide +kernel)
theorem q_570 : .methodLink RX5 51 arraycopyName ∈ gW := gW_in (i := 570) (by decide +kernel) (by decide +kernel)
theorem q_575 : .methodLink RX10 155 yX8_isOne ∈ gW := gW_in (i := 575) (by decide +kernel) (by decide +kernel)
theorem q_576 : .methodLink RX10 158 yX10_isDay ∈ gW := gW_in (i := 576) (by decide +kernel) (by decide +kernel)
theorem q_577 : .methodLink RX10 161 yX8_lengthOn ∈ gW := gW_in (i := 577) (by decide +kernel) (by decide +kernel)
theorem q_578 : .instanceMethod yX8_lengthOn ∈ gW := gW_in (i := 578) (by decide +kernel) (by decide +kernel)
theorem q_579 : .selects RX8 yX8_lengthOn yX8_lengthOn ∈ gW := gW_in (i := 579) (by decide +kernel) (by decide +kernel)
theorem q_580 : .code yX8_lengthOn cX8_lengthOn 5 (some .int) ∈ gW := gW_in (i := 580) (by decide +kernel) (by decide +kernel)
theorem q_581 : .methodLink RX8 68 yX8_concerns ∈ gW := gW_in (i := 581) (by decide +kernel) (by decide +kernel)
theorem q_582 : .instanceMethod yX8_concerns ∈ gW := gW_in (i := 582) (by decide +kernel) (by decide +kernel)
theorem q_583 : .selects RX8 yX8_concerns yX8_concerns ∈ gW := gW_in (i := 583) (by decide +kernel) (by decide +kernel)
theorem q_584 : .code yX8_concerns cX8_concerns 3 (some .boolean) ∈ gW := gW_in (i := 584) (by decide +kernel) (by decide +kernel)
theorem q_585 : .methodLink RX8 64 yX8_isOpen ∈ gW := gW_in (i := 585) (by decide +kernel) (by decide +kernel)
theorem q_586 : .instanceMethod yX8_isOpen ∈ gW := gW_in (i := 586) (by decide +kernel) (by decide +kernel)
theorem q_587 : .selects RX8 yX8_isOpen yX8_isOpen ∈ gW := gW_in (i := 587) (by decide +kernel) (by decide +kernel)
theorem q_588 : .code yX8_isOpen cX8_isOpen 3 (some .boolean) ∈ gW := gW_in (i := 588) (by decide +kernel) (by decide +kernel)
theorem q_589 : .methodLink RX10 164 yX8_ridesOn ∈ gW := gW_in (i := 589) (by decide +kernel) (by decide +kernel)
theorem q_590 : .instanceMethod yX8_ridesOn ∈ gW := gW_in (i := 590) (by decide +kernel) (by decide +kernel)
theorem q_591 : .selects RX8 yX8_ridesOn yX8_ridesOn ∈ gW := gW_in (i := 591) (by decide +kernel) (by decide +kernel)
theorem q_592 : .code yX8_ridesOn cX8_ridesOn 3 (some .boolean) ∈ gW := gW_in (i := 592) (by decide +kernel) (by decide +kernel)
theorem q_593 : .methodLink RX8 71 yX8_lengthOn ∈ gW := gW_in (i := 593) (by decide +kernel) (by decide +kernel)
theorem q_594 : .methodLink RX8 75 yX8_goesRound ∈ gW := gW_in (i := 594) (by decide +kernel) (by decide +kernel)
theorem q_595 : .instanceMethod yX8_goesRound ∈ gW := gW_in (i := 595) (by decide +kernel) (by decide +kernel)
theorem q_596 : .selects RX8 yX8_goesRound yX8_goesRound ∈ gW := gW_in (i := 596) (by decide +kernel) (by decide +kernel)
theorem q_597 : .code yX8_goesRound cX8_goesRound 3 (some .boolean) ∈ gW := gW_in (i := 597) (by decide +kernel) (by decide +kernel)
theorem q_598 : .methodLink RX10 167 yX1_ofOne ∈ gW := gW_in (i := 598) (by decide +kernel) (by decide +kernel)
theorem q_599 : .instanceMethod yX1_ofOne ∈ gW := gW_in (i := 599) (by decide +kernel) (by decide +kernel)
theorem q_600 : .selects RX1 yX1_ofOne yX1_ofOne ∈ gW := gW_in (i := 600) (by decide +kernel) (by decide +kernel)
theorem q_601 : .code yX1_ofOne cX1_ofOne 5 (some .int) ∈ gW := gW_in (i := 601) (by decide +kernel) (by decide +kernel)
theorem q_602 : .methodLink RX1 81 yX8_concerns ∈ gW := gW_in (i := 602) (by decide +kernel) (by decide +kernel)
theorem q_603 : .methodLink RX1 84 yX1_ofPromise ∈ gW := gW_in (i := 603) (by decide +kernel) (by decide +kernel)
theorem q_604 : .instanceMethod yX1_ofPromise ∈ gW := gW_in (i := 604) (by decide +kernel) (by decide +kernel)
theorem q_605 : .selects RX1 yX1_ofPromise yX1_ofPromise ∈ gW := gW_in (i := 605) (by decide +kernel) (by decide +kernel)
theorem q_606 : .code yX1_ofPromise cX1_ofPromise 6 (some .int) ∈ gW := gW_in (i := 606) (by decide +kernel) (by decide +kernel)
theorem q_607 : .methodLink RX1 32 yX8_isOverDue ∈ gW := gW_in (i := 607) (by decide +kernel) (by decide +kernel)
theorem q_608 : .instanceMethod yX8_isOverDue ∈ gW := gW_in (i := 608) (by decide +kernel) (by decide +kernel)
theorem q_609 : .selects RX8 yX8_isOverDue yX8_isOverDue ∈ gW := gW_in (i := 609) (by decide +kernel) (by decide +kernel)
theorem q_610 : .code yX8_isOverDue cX8_isOverDue 3 (some .boolean) ∈ gW := gW_in (i := 610) (by decide +kernel) (by decide +kernel)
theorem q_611 : .methodLink RX1 45 yX5_hasText ∈ gW := gW_in (i := 611) (by decide +kernel) (by decide +kernel)
theorem q_612 : .instanceMethod yX5_hasText ∈ gW := gW_in (i := 612) (by decide +kernel) (by decide +kernel)
theorem q_613 : .selects RX5 yX5_hasText yX5_hasText ∈ gW := gW_in (i := 613) (by decide +kernel) (by decide +kernel)
theorem q_614 : .code yX5_hasText cX5_hasText 1 (some .boolean) ∈ gW := gW_in (i := 614) (by decide +kernel) (by decide +kernel)
theorem q_615 : .methodLink RX1 54 yX8_lengthOn ∈ gW := gW_in (i := 615) (by decide +kernel) (by decide +kernel)
theorem q_616 : .methodLink RX1 61 yX8_isTied ∈ gW := gW_in (i := 616) (by decide +kernel) (by decide +kernel)
theorem q_617 : .instanceMethod yX8_isTied ∈ gW := gW_in (i := 617) (by decide +kernel) (by decide +kernel)
theorem q_618 : .selects RX8 yX8_isTied yX8_isTied ∈ gW := gW_in (i := 618) (by decide +kernel) (by decide +kernel)
theorem q_619 : .code yX8_isTied cX8_isTied 2 (some .boolean) ∈ gW := gW_in (i := 619) (by decide +kernel) (by decide +kernel)
theorem q_620 : .methodLink RX1 65 yX5_valueFor ∈ gW := gW_in (i := 620) (by decide +kernel) (by decide +kernel)
theorem q_621 : .instanceMethod yX5_valueFor ∈ gW := gW_in (i := 621) (by decide +kernel) (by decide +kernel)
theorem q_622 : .selects RX5 yX5_valueFor yX5_valueFor ∈ gW := gW_in (i := 622) (by decide +kernel) (by decide +kernel)
theorem q_623 : .code yX5_valueFor cX5_valueFor 10 (some .int) ∈ gW := gW_in (i := 623) (by decide +kernel) (by decide +kernel)
theorem q_624 : .methodLink RX5 88 yX5_tell ∈ gW := gW_in (i := 624) (by decide +kernel) (by decide +kernel)
theorem q_626 : .instanceMethod yX5_tell ∈ gW := gW_in (i := 626) (by decide +kernel) (by decide +kernel)
theorem q_627 : .code yX5_tell cX5_tell 7 none ∈ gW := gW_in (i := 627) (by decide +kernel) (by decide +kernel)
theorem q_628 : .methodLink RX5 92 yX5_lineEndFrom ∈ gW := gW_in (i := 628) (by decide +kernel) (by decide +kernel)
theorem q_630 : .instanceMethod yX5_lineEndFrom ∈ gW := gW_in (i := 630) (by decide +kernel) (by decide +kernel)
theorem q_631 : .code yX5_lineEndFrom cX5_lineEndFrom 3 (some .int) ∈ gW := gW_in (i := 631) (by decide +kernel) (by decide +kernel)
theorem q_632 : .methodLink RX5 95 yX5_operandsOf ∈ gW := gW_in (i := 632) (by decide +kernel) (by decide +kernel)
theorem q_633 : .static yX5_operandsOf ∈ gW := gW_in (i := 633) (by decide +kernel) (by decide +kernel)
theorem q_634 : .code yX5_operandsOf cX5_operandsOf 1 (some .int) ∈ gW := gW_in (i := 634) (by decide +kernel) (by decide +kernel)
theorem q_635 : .methodLink RX5 98 yJ9_max_7cf53 ∈ gW := gW_in (i := 635) (by decide +kernel) (by decide +kernel)
theorem q_636 : .static yJ9_max_7cf53 ∈ gW := gW_in (i := 636) (by decide +kernel) (by decide +kernel)
theorem q_637 : .code yJ9_max_7cf53 cJ9_max_7cf53 2 (some .int) ∈ gW := gW_in (i := 637) (by decide +kernel) (by decide +kernel)
theorem q_638 : .methodLink RX5 104 yX5_result ∈ gW := gW_in (i := 638) (by decide +kernel) (by decide +kernel)
theorem q_640 : .instanceMethod yX5_result ∈ gW := gW_in (i := 640) (by decide +kernel) (by decide +kernel)
theorem q_641 : .code yX5_result cX5_result 4 (some .int) ∈ gW := gW_in (i := 641) (by decide +kernel) (by decide +kernel)
theorem q_642 : .methodLink RX5 108 yJ9_min_7cf53 ∈ gW := gW_in (i := 642) (by decide +kernel) (by decide +kernel)
theorem q_643 : .static yJ9_min_7cf53 ∈ gW := gW_in (i := 643) (by decide +kernel) (by decide +kernel)
theorem q_644 : .code yJ9_min_7cf53 cJ9_min_7cf53 2 (some .int) ∈ gW := gW_in (i := 644) (by decide +kernel) (by decide +kernel)
theorem q_645 : .methodLink RX1 69 yJ9_min_7cf53 ∈ gW := gW_in (i := 645) (by decide +kernel) (by decide +kernel)
theorem q_646 : .methodLink RX1 74 yJ9_max_7cf53 ∈ gW := gW_in (i := 646) (by decide +kernel) (by decide +kernel)
theorem q_647 : .methodLink RX10 170 yX1_debtOf ∈ gW := gW_in (i := 647) (by decide +kernel) (by decide +kernel)
theorem q_648 : .instanceMethod yX1_debtOf ∈ gW := gW_in (i := 648) (by decide +kernel) (by decide +kernel)
theorem q_649 : .selects RX1 yX1_debtOf yX1_debtOf ∈ gW := gW_in (i := 649) (by decide +kernel) (by decide +kernel)
theorem q_650 : .code yX1_debtOf cX1_debtOf 5 (some .int) ∈ gW := gW_in (i := 650) (by decide +kernel) (by decide +kernel)
theorem q_655 : .methodLink RX10 173 yX8_isPromise ∈ gW := gW_in (i := 655) (by decide +kernel) (by decide +kernel)
theorem q_656 : .methodLink RX10 176 yX1_ofPromise ∈ gW := gW_in (i := 656) (by decide +kernel) (by decide +kernel)
theorem q_661 : .methodLink RX10 179 yX2_firstRideFrom ∈ gW := gW_in (i := 661) (by decide +kernel) (by decide +kernel)
theorem q_662 : .instanceMethod yX2_firstRideFrom ∈ gW := gW_in (i := 662) (by decide +kernel) (by decide +kernel)
theorem q_663 : .selects RX2 yX2_firstRideFrom yX2_firstRideFrom ∈ gW := gW_in (i := 663) (by decide +kernel) (by decide +kernel)
theorem q_664 : .code yX2_firstRideFrom cX2_firstRideFrom 4 (some .int) ∈ gW := gW_in (i := 664) (by decide +kernel) (by decide +kernel)
theorem q_665 : .methodLink RX2 59 yX2_layOut ∈ gW := gW_in (i := 665) (by decide +kernel) (by decide +kernel)
theorem q_667 : .instanceMethod yX2_layOut ∈ gW := gW_in (i := 667) (by decide +kernel) (by decide +kernel)
theorem q_668 : .code yX2_layOut cX2_layOut 5 none ∈ gW := gW_in (i := 668) (by decide +kernel) (by decide +kernel)
theorem q_669 : .methodLink RX2 25 yJ7_fill_53178 ∈ gW := gW_in (i := 669) (by decide +kernel) (by decide +kernel)
theorem q_670 : .methodLink RX2 40 yX8_concerns ∈ gW := gW_in (i := 670) (by decide +kernel) (by decide +kernel)
theorem q_671 : .methodLink RX2 53 yX2_ridesLaidOut ∈ gW := gW_in (i := 671) (by decide +kernel) (by decide +kernel)
theorem q_673 : .instanceMethod yX2_ridesLaidOut ∈ gW := gW_in (i := 673) (by decide +kernel) (by decide +kernel)
theorem q_674 : .code yX2_ridesLaidOut cX2_ridesLaidOut 3 (some .boolean) ∈ gW := gW_in (i := 674) (by decide +kernel) (by decide +kernel)
theorem q_675 : .methodLink RX2 50 yX8_goesRound ∈ gW := gW_in (i := 675) (by decide +kernel) (by decide +kernel)
theorem q_676 : .methodLink RX10 182 yX2_ridesWithin ∈ gW := gW_in (i := 676) (by decide +kernel) (by decide +kernel)
theorem q_677 : .instanceMethod yX2_ridesWithin ∈ gW := gW_in (i := 677) (by decide +kernel) (by decide +kernel)
theorem q_678 : .selects RX2 yX2_ridesWithin yX2_ridesWithin ∈ gW := gW_in (i := 678) (by decide +kernel) (by decide +kernel)
theorem q_679 : .code yX2_ridesWithin cX2_ridesWithin 4 (some .int) ∈ gW := gW_in (i := 679) (by decide +kernel) (by decide +kernel)
theorem q_680 : .methodLink RX2 63 yX2_ridesLaidOutWithin ∈ gW := gW_in (i := 680) (by decide +kernel) (by decide +kernel)
theorem q_682 : .instanceMethod yX2_ridesLaidOutWithin ∈ gW := gW_in (i := 682) (by decide +kernel) (by decide +kernel)
theorem q_683 : .code yX2_ridesLaidOutWithin cX2_ridesLaidOutWithin 6 (some .int) ∈ gW := gW_in (i := 683) (by decide +kernel) (by decide +kernel)
theorem q_688 : .methodLink RX10 185 yX10_isEither ∈ gW := gW_in (i := 688) (by decide +kernel) (by decide +kernel)
theorem q_689 : .static yX10_isEither ∈ gW := gW_in (i := 689) (by decide +kernel) (by decide +kernel)
theorem q_690 : .code yX10_isEither cX10_isEither 1 (some .boolean) ∈ gW := gW_in (i := 690) (by decide +kernel) (by decide +kernel)
theorem q_691 : .methodLink RX10 188 yX2_longestRideStart ∈ gW := gW_in (i := 691) (by decide +kernel) (by decide +kernel)
theorem q_692 : .instanceMethod yX2_longestRideStart ∈ gW := gW_in (i := 692) (by decide +kernel) (by decide +kernel)
theorem q_693 : .selects RX2 yX2_longestRideStart yX2_longestRideStart ∈ gW := gW_in (i := 693) (by decide +kernel) (by decide +kernel)
theorem q_694 : .code yX2_longestRideStart cX2_longestRideStart 6 (some .int) ∈ gW := gW_in (i := 694) (by decide +kernel) (by decide +kernel)
theorem q_695 : .methodLink RX10 191 yX2_rideFrom ∈ gW := gW_in (i := 695) (by decide +kernel) (by decide +kernel)
theorem q_696 : .instanceMethod yX2_rideFrom ∈ gW := gW_in (i := 696) (by decide +kernel) (by decide +kernel)
theorem q_697 : .selects RX2 yX2_rideFrom yX2_rideFrom ∈ gW := gW_in (i := 697) (by decide +kernel) (by decide +kernel)
theorem q_698 : .code yX2_rideFrom cX2_rideFrom 4 (some .int) ∈ gW := gW_in (i := 698) (by decide +kernel) (by decide +kernel)
theorem q_703 : .methodLink RX10 194 yX8_ridersOn ∈ gW := gW_in (i := 703) (by decide +kernel) (by decide +kernel)
theorem q_704 : .instanceMethod yX8_ridersOn ∈ gW := gW_in (i := 704) (by decide +kernel) (by decide +kernel)
theorem q_705 : .selects RX8 yX8_ridersOn yX8_ridersOn ∈ gW := gW_in (i := 705) (by decide +kernel) (by decide +kernel)
theorem q_706 : .code yX8_ridersOn cX8_ridersOn 4 (some .int) ∈ gW := gW_in (i := 706) (by decide +kernel) (by decide +kernel)
theorem q_707 : .methodLink RX8 78 yX8_ridesOn ∈ gW := gW_in (i := 707) (by decide +kernel) (by decide +kernel)
theorem q_712 : .methodLink RX10 197 yX2_fullestDay ∈ gW := gW_in (i := 712) (by decide +kernel) (by decide +kernel)
theorem q_713 : .instanceMethod yX2_fullestDay ∈ gW := gW_in (i := 713) (by decide +kernel) (by decide +kernel)
theorem q_714 : .selects RX2 yX2_fullestDay yX2_fullestDay ∈ gW := gW_in (i := 714) (by decide +kernel) (by decide +kernel)
theorem q_715 : .code yX2_fullestDay cX2_fullestDay 3 (some .int) ∈ gW := gW_in (i := 715) (by decide +kernel) (by decide +kernel)
theorem q_716 : .methodLink RX10 200 yJ6_bitCount_0f7a4 ∈ gW := gW_in (i := 716) (by decide +kernel) (by decide +kernel)
theorem q_717 : .static yJ6_bitCount_0f7a4 ∈ gW := gW_in (i := 717) (by decide +kernel) (by decide +kernel)
theorem q_718 : .code yJ6_bitCount_0f7a4 cJ6_bitCount_0f7a4 1 (some .int) ∈ gW := gW_in (i := 718) (by decide +kernel) (by decide +kernel)
theorem q_719 : .constant RJ6 265 (1431655765) ∈ gW := gW_in (i := 719) (by decide +kernel) (by decide +kernel)
theorem q_720 : .constant RJ6 266 (858993459) ∈ gW := gW_in (i := 720) (by decide +kernel) (by decide +kernel)
theorem q_721 : .constant RJ6 267 (252645135) ∈ gW := gW_in (i := 721) (by decide +kernel) (by decide +kernel)
theorem q_726 : .methodLink RX10 205 yX4_fewestSet ∈ gW := gW_in (i := 726) (by decide +kernel) (by decide +kernel)
theorem q_727 : .instanceMethod yX4_fewestSet ∈ gW := gW_in (i := 727) (by decide +kernel) (by decide +kernel)
theorem q_728 : .selects RX4 yX4_fewestSet yX4_fewestSet ∈ gW := gW_in (i := 728) (by decide +kernel) (by decide +kernel)
theorem q_729 : .code yX4_fewestSet cX4_fewestSet 8 (some .int) ∈ gW := gW_in (i := 729) (by decide +kernel) (by decide +kernel)
theorem q_730 : .methodLink RX4 31 yX4_mayKeep ∈ gW := gW_in (i := 730) (by decide +kernel) (by decide +kernel)
theorem q_732 : .instanceMethod yX4_mayKeep ∈ gW := gW_in (i := 732) (by decide +kernel) (by decide +kernel)
theorem q_733 : .code yX4_mayKeep cX4_mayKeep 3 (some .int) ∈ gW := gW_in (i := 733) (by decide +kernel) (by decide +kernel)
theorem q_734 : .methodLink RX4 15 yX8_promisesOf ∈ gW := gW_in (i := 734) (by decide +kernel) (by decide +kernel)
theorem q_735 : .instanceMethod yX8_promisesOf ∈ gW := gW_in (i := 735) (by decide +kernel) (by decide +kernel)
theorem q_736 : .selects RX8 yX8_promisesOf yX8_promisesOf ∈ gW := gW_in (i := 736) (by decide +kernel) (by decide +kernel)
theorem q_737 : .code yX8_promisesOf cX8_promisesOf 4 (some .int) ∈ gW := gW_in (i := 737) (by decide +kernel) (by decide +kernel)
theorem q_738 : .methodLink RX4 21 yX8_openOnes ∈ gW := gW_in (i := 738) (by decide +kernel) (by decide +kernel)
theorem q_739 : .instanceMethod yX8_openOnes ∈ gW := gW_in (i := 739) (by decide +kernel) (by decide +kernel)
theorem q_740 : .selects RX8 yX8_openOnes yX8_openOnes ∈ gW := gW_in (i := 740) (by decide +kernel) (by decide +kernel)
theorem q_741 : .code yX8_openOnes cX8_openOnes 4 (some .int) ∈ gW := gW_in (i := 741) (by decide +kernel) (by decide +kernel)
theorem q_742 : .methodLink RX4 35 yX8_lengthOn ∈ gW := gW_in (i := 742) (by decide +kernel) (by decide +kernel)
theorem q_743 : .methodLink RX4 38 yX4_letsRide ∈ gW := gW_in (i := 743) (by decide +kernel) (by decide +kernel)
theorem q_745 : .instanceMethod yX4_letsRide ∈ gW := gW_in (i := 745) (by decide +kernel) (by decide +kernel)
theorem q_746 : .code yX4_letsRide cX4_letsRide 5 (some .boolean) ∈ gW := gW_in (i := 746) (by decide +kernel) (by decide +kernel)
theorem q_747 : .methodLink RX4 24 yX8_linksOf ∈ gW := gW_in (i := 747) (by decide +kernel) (by decide +kernel)
theorem q_748 : .instanceMethod yX8_linksOf ∈ gW := gW_in (i := 748) (by decide +kernel) (by decide +kernel)
theorem q_749 : .selects RX8 yX8_linksOf yX8_linksOf ∈ gW := gW_in (i := 749) (by decide +kernel) (by decide +kernel)
theorem q_750 : .code yX8_linksOf cX8_linksOf 4 (some .int) ∈ gW := gW_in (i := 750) (by decide +kernel) (by decide +kernel)
theorem q_752 : .static yX10_isIn ∈ gW := gW_in (i := 752) (by decide +kernel) (by decide +kernel)
theorem q_753 : .code yX10_isIn cX10_isIn 2 (some .boolean) ∈ gW := gW_in (i := 753) (by decide +kernel) (by decide +kernel)
theorem q_754 : .methodLink RX4 27 yX8_goesRound ∈ gW := gW_in (i := 754) (by decide +kernel) (by decide +kernel)
theorem q_755 : .methodLink RX4 42 yJ6_bitCount_0f7a4 ∈ gW := gW_in (i := 755) (by decide +kernel) (by decide +kernel)
theorem q_760 : .methodLink RX10 208 yX4_lightestSet ∈ gW := gW_in (i := 760) (by decide +kernel) (by decide +kernel)
theorem q_761 : .instanceMethod yX4_lightestSet ∈ gW := gW_in (i := 761) (by decide +kernel) (by decide +kernel)
theorem q_762 : .selects RX4 yX4_lightestSet yX4_lightestSet ∈ gW := gW_in (i := 762) (by decide +kernel) (by decide +kernel)
theorem q_763 : .code yX4_lightestSet cX4_lightestSet 8 (some .int) ∈ gW := gW_in (i := 763) (by decide +kernel) (by decide +kernel)
theorem q_764 : .constant RX4 47 (2147483647) ∈ gW := gW_in (i := 764) (by decide +kernel) (by decide +kernel)
theorem q_765 : .methodLink RX4 48 yX4_weightOf ∈ gW := gW_in (i := 765) (by decide +kernel) (by decide +kernel)
theorem q_767 : .instanceMethod yX4_weightOf ∈ gW := gW_in (i := 767) (by decide +kernel) (by decide +kernel)
theorem q_768 : .code yX4_weightOf cX4_weightOf 2 (some .int) ∈ gW := gW_in (i := 768) (by decide +kernel) (by decide +kernel)
theorem q_769 : .methodLink RX10 211 yX8_linksOf ∈ gW := gW_in (i := 769) (by decide +kernel) (by decide +kernel)
theorem q_774 : .methodLink RX10 214 yX4_howManySets ∈ gW := gW_in (i := 774) (by decide +kernel) (by decide +kernel)
theorem q_775 : .instanceMethod yX4_howManySets ∈ gW := gW_in (i := 775) (by decide +kernel) (by decide +kernel)
theorem q_776 : .selects RX4 yX4_howManySets yX4_howManySets ∈ gW := gW_in (i := 776) (by decide +kernel) (by decide +kernel)
theorem q_777 : .code yX4_howManySets cX4_howManySets 7 (some .int) ∈ gW := gW_in (i := 777) (by decide +kernel) (by decide +kernel)
theorem q_782 : .methodLink RX10 217 yX8_promisesOf ∈ gW := gW_in (i := 782) (by decide +kernel) (by decide +kernel)
theorem q_783 : .methodLink RX10 220 yX9_canAll ∈ gW := gW_in (i := 783) (by decide +kernel) (by decide +kernel)
theorem q_784 : .instanceMethod yX9_canAll ∈ gW := gW_in (i := 784) (by decide +kernel) (by decide +kernel)
theorem q_785 : .selects RX9 yX9_canAll yX9_canAll ∈ gW := gW_in (i := 785) (by decide +kernel) (by decide +kernel)
theorem q_786 : .code yX9_canAll cX9_canAll 2 (some .boolean) ∈ gW := gW_in (i := 786) (by decide +kernel) (by decide +kernel)
theorem q_787 : .methodLink RX9 19 yX9_fillFits ∈ gW := gW_in (i := 787) (by decide +kernel) (by decide +kernel)
theorem q_789 : .instanceMethod yX9_fillFits ∈ gW := gW_in (i := 789) (by decide +kernel) (by decide +kernel)
theorem q_790 : .code yX9_fillFits cX9_fillFits 3 none ∈ gW := gW_in (i := 790) (by decide +kernel) (by decide +kernel)
theorem q_791 : .methodLink RX9 23 yX9_isSet ∈ gW := gW_in (i := 791) (by decide +kernel) (by decide +kernel)
theorem q_793 : .instanceMethod yX9_isSet ∈ gW := gW_in (i := 793) (by decide +kernel) (by decide +kernel)
theorem q_794 : .code yX9_isSet cX9_isSet 2 (some .boolean) ∈ gW := gW_in (i := 794) (by decide +kernel) (by decide +kernel)
theorem q_795 : .methodLink RX9 37 yX9_eachLessOneFits ∈ gW := gW_in (i := 795) (by decide +kernel) (by decide +kernel)
theorem q_797 : .instanceMethod yX9_eachLessOneFits ∈ gW := gW_in (i := 797) (by decide +kernel) (by decide +kernel)
theorem q_798 : .code yX9_eachLessOneFits cX9_eachLessOneFits 3 (some .boolean) ∈ gW := gW_in (i := 798) (by decide +kernel) (by decide +kernel)
theorem q_800 : .methodLink RX9 40 yX9_hasDaysForAll ∈ gW := gW_in (i := 800) (by decide +kernel) (by decide +kernel)
theorem q_802 : .instanceMethod yX9_hasDaysForAll ∈ gW := gW_in (i := 802) (by decide +kernel) (by decide +kernel)
theorem q_803 : .code yX9_hasDaysForAll cX9_hasDaysForAll 6 (some .boolean) ∈ gW := gW_in (i := 803) (by decide +kernel) (by decide +kernel)
theorem q_804 : .methodLink RX9 56 yJ9_min_7cf53 ∈ gW := gW_in (i := 804) (by decide +kernel) (by decide +kernel)
theorem q_805 : .methodLink RX9 65 yJ9_max_7cf53 ∈ gW := gW_in (i := 805) (by decide +kernel) (by decide +kernel)
theorem q_810 : .methodLink RX10 223 yX9_greatestSet ∈ gW := gW_in (i := 810) (by decide +kernel) (by decide +kernel)
theorem q_811 : .instanceMethod yX9_greatestSet ∈ gW := gW_in (i := 811) (by decide +kernel) (by decide +kernel)
theorem q_812 : .selects RX9 yX9_greatestSet yX9_greatestSet ∈ gW := gW_in (i := 812) (by decide +kernel) (by decide +kernel)
theorem q_813 : .code yX9_greatestSet cX9_greatestSet 4 (some .int) ∈ gW := gW_in (i := 813) (by decide +kernel) (by decide +kernel)
theorem q_814 : .methodLink RX9 27 yJ6_bitCount_0f7a4 ∈ gW := gW_in (i := 814) (by decide +kernel) (by decide +kernel)
theorem q_819 : .methodLink RX10 226 yX9_howManyClashes ∈ gW := gW_in (i := 819) (by decide +kernel) (by decide +kernel)
theorem q_820 : .instanceMethod yX9_howManyClashes ∈ gW := gW_in (i := 820) (by decide +kernel) (by decide +kernel)
theorem q_821 : .selects RX9 yX9_howManyClashes yX9_howManyClashes ∈ gW := gW_in (i := 821) (by decide +kernel) (by decide +kernel)
theorem q_822 : .code yX9_howManyClashes cX9_howManyClashes 4 (some .int) ∈ gW := gW_in (i := 822) (by decide +kernel) (by decide +kernel)
theorem q_823 : .methodLink RX9 33 yX9_isClash ∈ gW := gW_in (i := 823) (by decide +kernel) (by decide +kernel)
theorem q_825 : .instanceMethod yX9_isClash ∈ gW := gW_in (i := 825) (by decide +kernel) (by decide +kernel)
theorem q_826 : .code yX9_isClash cX9_isClash 3 (some .boolean) ∈ gW := gW_in (i := 826) (by decide +kernel) (by decide +kernel)
theorem q_827 : .methodLink RX10 229 yX9_leastClash ∈ gW := gW_in (i := 827) (by decide +kernel) (by decide +kernel)
theorem q_828 : .instanceMethod yX9_leastClash ∈ gW := gW_in (i := 828) (by decide +kernel) (by decide +kernel)
theorem q_829 : .selects RX9 yX9_leastClash yX9_leastClash ∈ gW := gW_in (i := 829) (by decide +kernel) (by decide +kernel)
theorem q_830 : .code yX9_leastClash cX9_leastClash 3 (some .int) ∈ gW := gW_in (i := 830) (by decide +kernel) (by decide +kernel)
theorem q_835 : .methodLink RX10 236 yX8_isTied ∈ gW := gW_in (i := 835) (by decide +kernel) (by decide +kernel)
theorem q_836 : .methodLink RX10 239 yX2_ridersIfHanded ∈ gW := gW_in (i := 836) (by decide +kernel) (by decide +kernel)
theorem q_837 : .instanceMethod yX2_ridersIfHanded ∈ gW := gW_in (i := 837) (by decide +kernel) (by decide +kernel)
theorem q_838 : .selects RX2 yX2_ridersIfHanded yX2_ridersIfHanded ∈ gW := gW_in (i := 838) (by decide +kernel) (by decide +kernel)
theorem q_839 : .code yX2_ridersIfHanded cX2_ridersIfHanded 8 (some .int) ∈ gW := gW_in (i := 839) (by decide +kernel) (by decide +kernel)
theorem q_840 : .methodLink RX2 75 yX8_isOpen ∈ gW := gW_in (i := 840) (by decide +kernel) (by decide +kernel)
theorem q_841 : .methodLink RX2 78 yX8_lengthOn ∈ gW := gW_in (i := 841) (by decide +kernel) (by decide +kernel)
theorem q_846 : .methodLink RX10 242 yX2_bestHanding ∈ gW := gW_in (i := 846) (by decide +kernel) (by decide +kernel)
theorem q_847 : .instanceMethod yX2_bestHanding ∈ gW := gW_in (i := 847) (by decide +kernel) (by decide +kernel)
theorem q_848 : .selects RX2 yX2_bestHanding yX2_bestHanding ∈ gW := gW_in (i := 848) (by decide +kernel) (by decide +kernel)
theorem q_849 : .code yX2_bestHanding cX2_bestHanding 7 (some .int) ∈ gW := gW_in (i := 849) (by decide +kernel) (by decide +kernel)
theorem q_850 : .methodLink RX2 85 yX8_ridersOn ∈ gW := gW_in (i := 850) (by decide +kernel) (by decide +kernel)
theorem q_851 : .methodLink RX2 88 yJ6_bitCount_0f7a4 ∈ gW := gW_in (i := 851) (by decide +kernel) (by decide +kernel)
theorem q_852 : .methodLink RX2 93 yX8_isTied ∈ gW := gW_in (i := 852) (by decide +kernel) (by decide +kernel)
theorem q_853 : .methodLink RX2 97 yX2_ridersIfHanded ∈ gW := gW_in (i := 853) (by decide +kernel) (by decide +kernel)
theorem q_858 : .methodLink RX10 245 yX1_firstWrongDay ∈ gW := gW_in (i := 858) (by decide +kernel) (by decide +kernel)
theorem q_859 : .instanceMethod yX1_firstWrongDay ∈ gW := gW_in (i := 859) (by decide +kernel) (by decide +kernel)
theorem q_860 : .selects RX1 yX1_firstWrongDay yX1_firstWrongDay ∈ gW := gW_in (i := 860) (by decide +kernel) (by decide +kernel)
theorem q_861 : .code yX1_firstWrongDay cX1_firstWrongDay 4 (some .int) ∈ gW := gW_in (i := 861) (by decide +kernel) (by decide +kernel)
theorem q_863 : .methodLink RX1 97 yX7_elementAt ∈ gW := gW_in (i := 863) (by decide +kernel) (by decide +kernel)
theorem q_864 : .methodLink RX1 101 yX1_ofOne ∈ gW := gW_in (i := 864) (by decide +kernel) (by decide +kernel)
theorem q_869 : .methodLink RX10 248 yX1_compareOpenAndKept ∈ gW := gW_in (i := 869) (by decide +kernel) (by decide +kernel)
theorem q_870 : .instanceMethod yX1_compareOpenAndKept ∈ gW := gW_in (i := 870) (by decide +kernel) (by decide +kernel)
theorem q_871 : .selects RX1 yX1_compareOpenAndKept yX1_compareOpenAndKept ∈ gW := gW_in (i := 871) (by decide +kernel) (by decide +kernel)
theorem q_872 : .code yX1_compareOpenAndKept cX1_compareOpenAndKept 6 none ∈ gW := gW_in (i := 872) (by decide +kernel) (by decide +kernel)
theorem q_873 : .methodLink RX10 251 yX1_howManyKepts ∈ gW := gW_in (i := 873) (by decide +kernel) (by decide +kernel)
theorem q_874 : .instanceMethod yX1_howManyKepts ∈ gW := gW_in (i := 874) (by decide +kernel) (by decide +kernel)
theorem q_875 : .selects RX1 yX1_howManyKepts yX1_howManyKepts ∈ gW := gW_in (i := 875) (by decide +kernel) (by decide +kernel)
theorem q_876 : .code yX1_howManyKepts cX1_howManyKepts 4 (some .int) ∈ gW := gW_in (i := 876) (by decide +kernel) (by decide +kernel)
theorem q_877 : .methodLink RX1 113 yX1_isSoIfKeptOn ∈ gW := gW_in (i := 877) (by decide +kernel) (by decide +kernel)
theorem q_879 : .instanceMethod yX1_isSoIfKeptOn ∈ gW := gW_in (i := 879) (by decide +kernel) (by decide +kernel)
theorem q_880 : .code yX1_isSoIfKeptOn cX1_isSoIfKeptOn 5 (some .boolean) ∈ gW := gW_in (i := 880) (by decide +kernel) (by decide +kernel)
theorem q_881 : .methodLink RX10 254 yX1_leastKept ∈ gW := gW_in (i := 881) (by decide +kernel) (by decide +kernel)
theorem q_882 : .instanceMethod yX1_leastKept ∈ gW := gW_in (i := 882) (by decide +kernel) (by decide +kernel)
theorem q_883 : .selects RX1 yX1_leastKept yX1_leastKept ∈ gW := gW_in (i := 883) (by decide +kernel) (by decide +kernel)
theorem q_884 : .code yX1_leastKept cX1_leastKept 3 (some .int) ∈ gW := gW_in (i := 884) (by decide +kernel) (by decide +kernel)
theorem q_889 : .methodLink RX10 257 yX1_ownersOf ∈ gW := gW_in (i := 889) (by decide +kernel) (by decide +kernel)
theorem q_890 : .instanceMethod yX1_ownersOf ∈ gW := gW_in (i := 890) (by decide +kernel) (by decide +kernel)
theorem q_891 : .selects RX1 yX1_ownersOf yX1_ownersOf ∈ gW := gW_in (i := 891) (by decide +kernel) (by decide +kernel)
theorem q_892 : .code yX1_ownersOf cX1_ownersOf 4 (some .int) ∈ gW := gW_in (i := 892) (by decide +kernel) (by decide +kernel)
theorem q_893 : .methodLink RX1 107 yX1_firstWrongDay ∈ gW := gW_in (i := 893) (by decide +kernel) (by decide +kernel)
theorem q_898 : .methodLink RX10 260 yX4_bestFirstTurn ∈ gW := gW_in (i := 898) (by decide +kernel) (by decide +kernel)
theorem q_899 : .instanceMethod yX4_bestFirstTurn ∈ gW := gW_in (i := 899) (by decide +kernel) (by decide +kernel)
theorem q_900 : .selects RX4 yX4_bestFirstTurn yX4_bestFirstTurn ∈ gW := gW_in (i := 900) (by decide +kernel) (by decide +kernel)
theorem q_901 : .code yX4_bestFirstTurn cX4_bestFirstTurn 7 (some .int) ∈ gW := gW_in (i := 901) (by decide +kernel) (by decide +kernel)
theorem q_903 : .methodLink RX4 51 yX4_endsRiding ∈ gW := gW_in (i := 903) (by decide +kernel) (by decide +kernel)
theorem q_904 : .static yX4_endsRiding ∈ gW := gW_in (i := 904) (by decide +kernel) (by decide +kernel)
theorem q_905 : .code yX4_endsRiding cX4_endsRiding 10 (some .boolean) ∈ gW := gW_in (i := 905) (by decide +kernel) (by decide +kernel)
theorem q_906 : .methodLink RX4 66 yJ6_numberOfTrailingZeros_0f7a4 ∈ gW := gW_in (i := 906) (by decide +kernel) (by decide +kernel)
theorem q_907 : .static yJ6_numberOfTrailingZeros_0f7a4 ∈ gW := gW_in (i := 907) (by decide +kernel) (by decide +kernel)
theorem q_908 : .code yJ6_numberOfTrailingZeros_0f7a4 cJ6_numberOfTrailingZeros_0f7a4 2 (some .int) ∈ gW := gW_in (i := 908) (by decide +kernel) (by decide +kernel)
theorem q_909 : .constant RJ6 264 (65536) ∈ gW := gW_in (i := 909) (by decide +kernel) (by decide +kernel)
theorem q_910 : .methodLink RX10 263 yX4_winsByTurns ∈ gW := gW_in (i := 910) (by decide +kernel) (by decide +kernel)
theorem q_911 : .instanceMethod yX4_winsByTurns ∈ gW := gW_in (i := 911) (by decide +kernel) (by decide +kernel)
theorem q_912 : .selects RX4 yX4_winsByTurns yX4_winsByTurns ∈ gW := gW_in (i := 912) (by decide +kernel) (by decide +kernel)
theorem q_913 : .code yX4_winsByTurns cX4_winsByTurns 4 (some .boolean) ∈ gW := gW_in (i := 913) (by decide +kernel) (by decide +kernel)
theorem q_918 : .methodLink RX10 266 yX1_loudestDay ∈ gW := gW_in (i := 918) (by decide +kernel) (by decide +kernel)
theorem q_919 : .instanceMethod yX1_loudestDay ∈ gW := gW_in (i := 919) (by decide +kernel) (by decide +kernel)
theorem q_920 : .selects RX1 yX1_loudestDay yX1_loudestDay ∈ gW := gW_in (i := 920) (by decide +kernel) (by decide +kernel)
theorem q_921 : .code yX1_loudestDay cX1_loudestDay 5 (some .int) ∈ gW := gW_in (i := 921) (by decide +kernel) (by decide +kernel)
theorem q_922 : .methodLink RX1 87 yX1_ofAll ∈ gW := gW_in (i := 922) (by decide +kernel) (by decide +kernel)
theorem q_923 : .instanceMethod yX1_ofAll ∈ gW := gW_in (i := 923) (by decide +kernel) (by decide +kernel)
theorem q_924 : .selects RX1 yX1_ofAll yX1_ofAll ∈ gW := gW_in (i := 924) (by decide +kernel) (by decide +kernel)
theorem q_925 : .code yX1_ofAll cX1_ofAll 4 (some .int) ∈ gW := gW_in (i := 925) (by decide +kernel) (by decide +kernel)
theorem q_926 : .methodLink RX10 269 yX1_ofAll ∈ gW := gW_in (i := 926) (by decide +kernel) (by decide +kernel)
theorem q_931 : .methodLink RX10 272 yX2_drawnRides ∈ gW := gW_in (i := 931) (by decide +kernel) (by decide +kernel)
theorem q_932 : .instanceMethod yX2_drawnRides ∈ gW := gW_in (i := 932) (by decide +kernel) (by decide +kernel)
theorem q_933 : .selects RX2 yX2_drawnRides yX2_drawnRides ∈ gW := gW_in (i := 933) (by decide +kernel) (by decide +kernel)
theorem q_934 : .code yX2_drawnRides cX2_drawnRides 8 (some .int) ∈ gW := gW_in (i := 934) (by decide +kernel) (by decide +kernel)
theorem q_935 : .methodLink RX2 70 yX2_drawLife ∈ gW := gW_in (i := 935) (by decide +kernel) (by decide +kernel)
theorem q_937 : .instanceMethod yX2_drawLife ∈ gW := gW_in (i := 937) (by decide +kernel) (by decide +kernel)
theorem q_938 : .code yX2_drawLife cX2_drawLife 5 (some .int) ∈ gW := gW_in (i := 938) (by decide +kernel) (by decide +kernel)
theorem q_939 : .constant RX2 74 (1103515245) ∈ gW := gW_in (i := 939) (by decide +kernel) (by decide +kernel)
theorem q_944 : .methodLink RX10 275 yX3_now ∈ gW := gW_in (i := 944) (by decide +kernel) (by decide +kernel)
theorem q_945 : .instanceMethod yX3_now ∈ gW := gW_in (i := 945) (by decide +kernel) (by decide +kernel)
theorem q_946 : .selects RX3 yX3_now yX3_now ∈ gW := gW_in (i := 946) (by decide +kernel) (by decide +kernel)
theorem q_947 : .code yX3_now cX3_now 1 (some .int) ∈ gW := gW_in (i := 947) (by decide +kernel) (by decide +kernel)
theorem q_948 : .methodLink RX10 278 yX3_endDay ∈ gW := gW_in (i := 948) (by decide +kernel) (by decide +kernel)
theorem q_949 : .instanceMethod yX3_endDay ∈ gW := gW_in (i := 949) (by decide +kernel) (by decide +kernel)
theorem q_950 : .selects RX3 yX3_endDay yX3_endDay ∈ gW := gW_in (i := 950) (by decide +kernel) (by decide +kernel)
theorem q_951 : .code yX3_endDay cX3_endDay 1 (some .int) ∈ gW := gW_in (i := 951) (by decide +kernel) (by decide +kernel)
theorem q_952 : .methodLink RX3 25 yX8_ridersOn ∈ gW := gW_in (i := 952) (by decide +kernel) (by decide +kernel)
theorem q_953 : .methodLink RX3 31 yJ6_bitCount_0f7a4 ∈ gW := gW_in (i := 953) (by decide +kernel) (by decide +kernel)
theorem q_958 : .methodLink RX10 281 yX3_makePromise ∈ gW := gW_in (i := 958) (by decide +kernel) (by decide +kernel)
theorem q_959 : .instanceMethod yX3_makePromise ∈ gW := gW_in (i := 959) (by decide +kernel) (by decide +kernel)
theorem q_960 : .selects RX3 yX3_makePromise yX3_makePromise ∈ gW := gW_in (i := 960) (by decide +kernel) (by decide +kernel)
theorem q_961 : .code yX3_makePromise cX3_makePromise 4 (some .int) ∈ gW := gW_in (i := 961) (by decide +kernel) (by decide +kernel)
theorem q_962 : .methodLink RX3 36 yX8_addPromise ∈ gW := gW_in (i := 962) (by decide +kernel) (by decide +kernel)
theorem q_967 : .methodLink RX10 284 yX8_isOpen ∈ gW := gW_in (i := 967) (by decide +kernel) (by decide +kernel)
theorem q_968 : .methodLink RX10 287 yX3_keepPromise ∈ gW := gW_in (i := 968) (by decide +kernel) (by decide +kernel)
theorem q_969 : .instanceMethod yX3_keepPromise ∈ gW := gW_in (i := 969) (by decide +kernel) (by decide +kernel)
theorem q_970 : .selects RX3 yX3_keepPromise yX3_keepPromise ∈ gW := gW_in (i := 970) (by decide +kernel) (by decide +kernel)
theorem q_971 : .code yX3_keepPromise cX3_keepPromise 2 (some .int) ∈ gW := gW_in (i := 971) (by decide +kernel) (by decide +kernel)
theorem q_972 : .methodLink RX3 43 yX8_openOnes ∈ gW := gW_in (i := 972) (by decide +kernel) (by decide +kernel)
theorem q_981 : .methodLink RX10 293 yX3_keepImage ∈ gW := gW_in (i := 981) (by decide +kernel) (by decide +kernel)
theorem q_982 : .instanceMethod yX3_keepImage ∈ gW := gW_in (i := 982) (by decide +kernel) (by decide +kernel)
theorem q_983 : .selects RX3 yX3_keepImage yX3_keepImage ∈ gW := gW_in (i := 983) (by decide +kernel) (by decide +kernel)
theorem q_984 : .code yX3_keepImage cX3_keepImage 1 (some .int) ∈ gW := gW_in (i := 984) (by decide +kernel) (by decide +kernel)
theorem q_985 : .methodLink RX3 46 arraycopyName ∈ gW := gW_in (i := 985) (by decide +kernel) (by decide +kernel)
theorem q_990 : .methodLink RX10 300 yX3_layBack ∈ gW := gW_in (i := 990) (by decide +kernel) (by decide +kernel)
theorem q_991 : .instanceMethod yX3_layBack ∈ gW := gW_in (i := 991) (by decide +kernel) (by decide +kernel)
theorem q_992 : .selects RX3 yX3_layBack yX3_layBack ∈ gW := gW_in (i := 992) (by decide +kernel) (by decide +kernel)
theorem q_993 : .code yX3_layBack cX3_layBack 1 (some .int) ∈ gW := gW_in (i := 993) (by decide +kernel) (by decide +kernel)
theorem q_998 : .methodLink RX10 306 yX0_stepBack ∈ gW := gW_in (i := 998) (by decide +kernel) (by decide +kernel)
theorem q_999 : .instanceMethod yX0_stepBack ∈ gW := gW_in (i := 999) (by decide +kernel) (by decide +kernel)
theorem q_1000 : .selects RX0 yX0_stepBack yX0_stepBack ∈ gW := gW_in (i := 1000) (by decide +kernel) (by decide +kernel)
theorem q_1001 : .code yX0_stepBack cX0_stepBack 2 none ∈ gW := gW_in (i := 1001) (by decide +kernel) (by decide +kernel)
theorem q_1002 : .methodLink RX0 38 yX8_become ∈ gW := gW_in (i := 1002) (by decide +kernel) (by decide +kernel)
theorem q_1007 : .methodLink RX10 312 yX0_stepForward ∈ gW := gW_in (i := 1007) (by decide +kernel) (by decide +kernel)
theorem q_1008 : .instanceMethod yX0_stepForward ∈ gW := gW_in (i := 1008) (by decide +kernel) (by decide +kernel)
theorem q_1009 : .selects RX0 yX0_stepForward yX0_stepForward ∈ gW := gW_in (i := 1009) (by decide +kernel) (by decide +kernel)
theorem q_1010 : .code yX0_stepForward cX0_stepForward 2 none ∈ gW := gW_in (i := 1010) (by decide +kernel) (by decide +kernel)
theorem q_1015 : .methodLink RX10 318 yX6_add ∈ gW := gW_in (i := 1015) (by decide +kernel) (by decide +kernel)
theorem q_1016 : .instanceMethod yX6_add ∈ gW := gW_in (i := 1016) (by decide +kernel) (by decide +kernel)
theorem q_1017 : .selects RX6 yX6_add yX6_add ∈ gW := gW_in (i := 1017) (by decide +kernel) (by decide +kernel)
theorem q_1018 : .code yX6_add cX6_add 2 (some .int) ∈ gW := gW_in (i := 1018) (by decide +kernel) (by decide +kernel)
theorem q_1023 : .methodLink RX10 320 yX6_perform ∈ gW := gW_in (i := 1023) (by decide +kernel) (by decide +kernel)
theorem q_1024 : .instanceMethod yX6_perform ∈ gW := gW_in (i := 1024) (by decide +kernel) (by decide +kernel)
theorem q_1025 : .selects RX6 yX6_perform yX6_perform ∈ gW := gW_in (i := 1025) (by decide +kernel) (by decide +kernel)
theorem q_1026 : .code yX6_perform cX6_perform 4 (some .int) ∈ gW := gW_in (i := 1026) (by decide +kernel) (by decide +kernel)
theorem q_1027 : .methodLink RX6 22 yX6_isBody ∈ gW := gW_in (i := 1027) (by decide +kernel) (by decide +kernel)
theorem q_1028 : .instanceMethod yX6_isBody ∈ gW := gW_in (i := 1028) (by decide +kernel) (by decide +kernel)
theorem q_1029 : .selects RX6 yX6_isBody yX6_isBody ∈ gW := gW_in (i := 1029) (by decide +kernel) (by decide +kernel)
theorem q_1030 : .code yX6_isBody cX6_isBody 2 (some .boolean) ∈ gW := gW_in (i := 1030) (by decide +kernel) (by decide +kernel)
theorem q_1032 : .methodLink RX6 39 yX6_own ∈ gW := gW_in (i := 1032) (by decide +kernel) (by decide +kernel)
theorem q_1034 : .instanceMethod yX6_own ∈ gW := gW_in (i := 1034) (by decide +kernel) (by decide +kernel)
theorem q_1035 : .code yX6_own cX6_own 4 (some .int) ∈ gW := gW_in (i := 1035) (by decide +kernel) (by decide +kernel)
theorem q_1036 : .methodLink RX6 43 yX6_run ∈ gW := gW_in (i := 1036) (by decide +kernel) (by decide +kernel)
theorem q_1038 : .instanceMethod yX6_run ∈ gW := gW_in (i := 1038) (by decide +kernel) (by decide +kernel)
theorem q_1039 : .code yX6_run cX6_run 8 (some .int) ∈ gW := gW_in (i := 1039) (by decide +kernel) (by decide +kernel)
theorem q_1040 : .methodLink RX6 47 yX6_kindWith ∈ gW := gW_in (i := 1040) (by decide +kernel) (by decide +kernel)
theorem q_1041 : .static yX6_kindWith ∈ gW := gW_in (i := 1041) (by decide +kernel) (by decide +kernel)
theorem q_1042 : .code yX6_kindWith cX6_kindWith 4 (some .int) ∈ gW := gW_in (i := 1042) (by decide +kernel) (by decide +kernel)
theorem q_1043 : .fieldLink RX6 51 "ChainsHold$Links" "OWN_ACTS" "[I" ∈ gW := gW_in (i := 1043) (by decide +kernel) (by decide +kernel)
theorem q_1045 : .fieldLink RX6 26 "ChainsHold$Links" "ABOVE" "[I" ∈ gW := gW_in (i := 1045) (by decide +kernel) (by decide +kernel)
theorem q_1047 : .methodLink RX6 54 yX6_note ∈ gW := gW_in (i := 1047) (by decide +kernel) (by decide +kernel)
theorem q_1049 : .instanceMethod yX6_note ∈ gW := gW_in (i := 1049) (by decide +kernel) (by decide +kernel)
theorem q_1050 : .code yX6_note cX6_note 2 none ∈ gW := gW_in (i := 1050) (by decide +kernel) (by decide +kernel)
theorem q_1051 : .methodLink RX6 58 yX6_fromAbove ∈ gW := gW_in (i := 1051) (by decide +kernel) (by decide +kernel)
theorem q_1053 : .instanceMethod yX6_fromAbove ∈ gW := gW_in (i := 1053) (by decide +kernel) (by decide +kernel)
theorem q_1054 : .code yX6_fromAbove cX6_fromAbove 5 (some .int) ∈ gW := gW_in (i := 1054) (by decide +kernel) (by decide +kernel)
theorem q_1059 : .methodLink RX10 326 yJ9_min_7cf53 ∈ gW := gW_in (i := 1059) (by decide +kernel) (by decide +kernel)
theorem q_1064 : .methodLink RX10 334 yX6_isBody ∈ gW := gW_in (i := 1064) (by decide +kernel) (by decide +kernel)
theorem q_1065 : .methodLink RX10 337 yX7_clear ∈ gW := gW_in (i := 1065) (by decide +kernel) (by decide +kernel)
theorem q_1066 : .instanceMethod yX7_clear ∈ gW := gW_in (i := 1066) (by decide +kernel) (by decide +kernel)
theorem q_1067 : .selects RX7 yX7_clear yX7_clear ∈ gW := gW_in (i := 1067) (by decide +kernel) (by decide +kernel)
theorem q_1068 : .code yX7_clear cX7_clear 2 (some .int) ∈ gW := gW_in (i := 1068) (by decide +kernel) (by decide +kernel)
theorem q_1069 : .methodLink RX10 340 yX7_holdLink ∈ gW := gW_in (i := 1069) (by decide +kernel) (by decide +kernel)
theorem q_1070 : .instanceMethod yX7_holdLink ∈ gW := gW_in (i := 1070) (by decide +kernel) (by decide +kernel)
theorem q_1071 : .selects RX7 yX7_holdLink yX7_holdLink ∈ gW := gW_in (i := 1071) (by decide +kernel) (by decide +kernel)
theorem q_1072 : .code yX7_holdLink cX7_holdLink 3 (some .int) ∈ gW := gW_in (i := 1072) (by decide +kernel) (by decide +kernel)
theorem q_1077 : .methodLink RX10 343 yX7_holdRow ∈ gW := gW_in (i := 1077) (by decide +kernel) (by decide +kernel)
theorem q_1078 : .instanceMethod yX7_holdRow ∈ gW := gW_in (i := 1078) (by decide +kernel) (by decide +kernel)
theorem q_1079 : .selects RX7 yX7_holdRow yX7_holdRow ∈ gW := gW_in (i := 1079) (by decide +kernel) (by decide +kernel)
theorem q_1080 : .code yX7_holdRow cX7_holdRow 4 (some .int) ∈ gW := gW_in (i := 1080) (by decide +kernel) (by decide +kernel)
theorem q_1081 : .methodLink RX7 31 yJ7_fill_bad5a ∈ gW := gW_in (i := 1081) (by decide +kernel) (by decide +kernel)
theorem q_1082 : .static yJ7_fill_bad5a ∈ gW := gW_in (i := 1082) (by decide +kernel) (by decide +kernel)
theorem q_1083 : .code yJ7_fill_bad5a cJ7_fill_bad5a 6 none ∈ gW := gW_in (i := 1083) (by decide +kernel) (by decide +kernel)
theorem q_1084 : .methodLink RJ7 13 yJ7_rangeCheck_23922 ∈ gW := gW_in (i := 1084) (by decide +kernel) (by decide +kernel)
theorem q_1085 : .static yJ7_rangeCheck_23922 ∈ gW := gW_in (i := 1085) (by decide +kernel) (by decide +kernel)
theorem q_1086 : .code yJ7_rangeCheck_23922 cJ7_rangeCheck_23922 3 none ∈ gW := gW_in (i := 1086) (by decide +kernel) (by decide +kernel)
theorem q_1091 : .methodLink RX10 346 yX7_refusalOfPlace ∈ gW := gW_in (i := 1091) (by decide +kernel) (by decide +kernel)
theorem q_1092 : .instanceMethod yX7_refusalOfPlace ∈ gW := gW_in (i := 1092) (by decide +kernel) (by decide +kernel)
theorem q_1093 : .selects RX7 yX7_refusalOfPlace yX7_refusalOfPlace ∈ gW := gW_in (i := 1093) (by decide +kernel) (by decide +kernel)
theorem q_1094 : .code yX7_refusalOfPlace cX7_refusalOfPlace 3 (some .int) ∈ gW := gW_in (i := 1094) (by decide +kernel) (by decide +kernel)
theorem q_1095 : .methodLink RX7 38 yX7_holdsRow ∈ gW := gW_in (i := 1095) (by decide +kernel) (by decide +kernel)
theorem q_1097 : .instanceMethod yX7_holdsRow ∈ gW := gW_in (i := 1097) (by decide +kernel) (by decide +kernel)
theorem q_1098 : .code yX7_holdsRow cX7_holdsRow 2 (some .boolean) ∈ gW := gW_in (i := 1098) (by decide +kernel) (by decide +kernel)
theorem q_1099 : .methodLink RX7 42 yX7_hasPlaces ∈ gW := gW_in (i := 1099) (by decide +kernel) (by decide +kernel)
theorem q_1100 : .methodLink RX10 349 yX7_putAt ∈ gW := gW_in (i := 1100) (by decide +kernel) (by decide +kernel)
theorem q_1101 : .instanceMethod yX7_putAt ∈ gW := gW_in (i := 1101) (by decide +kernel) (by decide +kernel)
theorem q_1102 : .selects RX7 yX7_putAt yX7_putAt ∈ gW := gW_in (i := 1102) (by decide +kernel) (by decide +kernel)
theorem q_1103 : .code yX7_putAt cX7_putAt 5 (some .int) ∈ gW := gW_in (i := 1103) (by decide +kernel) (by decide +kernel)
theorem q_1104 : .methodLink RX7 46 yX7_lowestBits ∈ gW := gW_in (i := 1104) (by decide +kernel) (by decide +kernel)
theorem q_1105 : .static yX7_lowestBits ∈ gW := gW_in (i := 1105) (by decide +kernel) (by decide +kernel)
theorem q_1106 : .code yX7_lowestBits cX7_lowestBits 3 (some .long) ∈ gW := gW_in (i := 1106) (by decide +kernel) (by decide +kernel)
theorem q_1111 : .constantLong RX10 355 (-9223372036854775808) ∈ gW := gW_in (i := 1111) (by decide +kernel) (by decide +kernel)
theorem q_1116 : .methodLink RX10 357 yX7_refusalOfPair ∈ gW := gW_in (i := 1116) (by decide +kernel) (by decide +kernel)
theorem q_1117 : .instanceMethod yX7_refusalOfPair ∈ gW := gW_in (i := 1117) (by decide +kernel) (by decide +kernel)
theorem q_1118 : .selects RX7 yX7_refusalOfPair yX7_refusalOfPair ∈ gW := gW_in (i := 1118) (by decide +kernel) (by decide +kernel)
theorem q_1119 : .code yX7_refusalOfPair cX7_refusalOfPair 3 (some .int) ∈ gW := gW_in (i := 1119) (by decide +kernel) (by decide +kernel)
theorem q_1120 : .methodLink RX10 360 yX7_move ∈ gW := gW_in (i := 1120) (by decide +kernel) (by decide +kernel)
theorem q_1121 : .instanceMethod yX7_move ∈ gW := gW_in (i := 1121) (by decide +kernel) (by decide +kernel)
theorem q_1122 : .selects RX7 yX7_move yX7_move ∈ gW := gW_in (i := 1122) (by decide +kernel) (by decide +kernel)
theorem q_1123 : .code yX7_move cX7_move 6 (some .int) ∈ gW := gW_in (i := 1123) (by decide +kernel) (by decide +kernel)
theorem q_1124 : .methodLink RX7 50 arraycopyName ∈ gW := gW_in (i := 1124) (by decide +kernel) (by decide +kernel)
theorem q_1129 : .methodLink RX10 364 yX7_refusalOfLink ∈ gW := gW_in (i := 1129) (by decide +kernel) (by decide +kernel)
theorem q_1130 : .instanceMethod yX7_refusalOfLink ∈ gW := gW_in (i := 1130) (by decide +kernel) (by decide +kernel)
theorem q_1131 : .selects RX7 yX7_refusalOfLink yX7_refusalOfLink ∈ gW := gW_in (i := 1131) (by decide +kernel) (by decide +kernel)
theorem q_1132 : .code yX7_refusalOfLink cX7_refusalOfLink 2 (some .int) ∈ gW := gW_in (i := 1132) (by decide +kernel) (by decide +kernel)
theorem q_1133 : .methodLink RX7 34 yX7_refusalOfRow ∈ gW := gW_in (i := 1133) (by decide +kernel) (by decide +kernel)
theorem q_1134 : .methodLink RX10 370 yX6_kindOf ∈ gW := gW_in (i := 1134) (by decide +kernel) (by decide +kernel)
theorem q_1135 : .instanceMethod yX6_kindOf ∈ gW := gW_in (i := 1135) (by decide +kernel) (by decide +kernel)
theorem q_1136 : .selects RX6 yX6_kindOf yX6_kindOf ∈ gW := gW_in (i := 1136) (by decide +kernel) (by decide +kernel)
theorem q_1137 : .code yX6_kindOf cX6_kindOf 2 (some .int) ∈ gW := gW_in (i := 1137) (by decide +kernel) (by decide +kernel)
theorem q_1138 : .methodLink RX10 373 yX6_isUnder ∈ gW := gW_in (i := 1138) (by decide +kernel) (by decide +kernel)
theorem q_1139 : .static yX6_isUnder ∈ gW := gW_in (i := 1139) (by decide +kernel) (by decide +kernel)
theorem q_1140 : .code yX6_isUnder cX6_isUnder 4 (some .boolean) ∈ gW := gW_in (i := 1140) (by decide +kernel) (by decide +kernel)
theorem q_1151 : .fieldLink RX11 9 "ChainsHoldModel" "may" "[I" ∈ gW := gW_in (i := 1151) (by decide +kernel) (by decide +kernel)
theorem q_1152 : .fieldLink RX11 13 "ChainsHoldModel" "changeAt" "[I" ∈ gW := gW_in (i := 1152) (by decide +kernel) (by decide +kernel)
theorem q_1153 : .fieldLink RX11 16 "ChainsHoldModel" "changeWas" "[I" ∈ gW := gW_in (i := 1153) (by decide +kernel) (by decide +kernel)
theorem q_1154 : .fieldLink RX11 19 "ChainsHoldModel" "changeIs" "[I" ∈ gW := gW_in (i := 1154) (by decide +kernel) (by decide +kernel)
theorem q_1155 : .fieldLink RX11 78 "ChainsHoldModel" "keptMany" "I" ∈ gW := gW_in (i := 1155) (by decide +kernel) (by decide +kernel)
theorem q_1156 : .fieldLink RX11 75 "ChainsHoldModel" "done" "I" ∈ gW := gW_in (i := 1156) (by decide +kernel) (by decide +kernel)
theorem q_1157 : .fieldLink RX11 81 "ChainsHoldModel" "people" "I" ∈ gW := gW_in (i := 1157) (by decide +kernel) (by decide +kernel)
theorem q_1158 : .fieldLink RX11 88 "ChainsHoldModel" "promises" "I" ∈ gW := gW_in (i := 1158) (by decide +kernel) (by decide +kernel)
theorem q_1159 : .fieldLink RX11 22 "ChainsHoldModel" "owner" "[I" ∈ gW := gW_in (i := 1159) (by decide +kernel) (by decide +kernel)
theorem q_1160 : .fieldLink RX11 25 "ChainsHoldModel" "made" "[I" ∈ gW := gW_in (i := 1160) (by decide +kernel) (by decide +kernel)
theorem q_1161 : .fieldLink RX11 28 "ChainsHoldModel" "tape" "[I" ∈ gW := gW_in (i := 1161) (by decide +kernel) (by decide +kernel)
theorem q_1162 : .fieldLink RX11 145 "ChainsHoldModel" "tapeMany" "I" ∈ gW := gW_in (i := 1162) (by decide +kernel) (by decide +kernel)
theorem q_1163 : .fieldLink RX11 31 "ChainsHoldModel" "text" "[I" ∈ gW := gW_in (i := 1163) (by decide +kernel) (by decide +kernel)
theorem q_1164 : .fieldLink RX11 71 "ChainsHoldModel" "textMany" "I" ∈ gW := gW_in (i := 1164) (by decide +kernel) (by decide +kernel)
theorem q_1165 : .fieldLink RX11 154 "ChainsHoldModel" "base" "I" ∈ gW := gW_in (i := 1165) (by decide +kernel) (by decide +kernel)
theorem q_1166 : .fieldLink RX11 148 "ChainsHoldModel" "at" "I" ∈ gW := gW_in (i := 1166) (by decide +kernel) (by decide +kernel)
theorem q_1167 : .fieldLink RX11 151 "ChainsHoldModel" "ends" "I" ∈ gW := gW_in (i := 1167) (by decide +kernel) (by decide +kernel)
theorem q_1168 : .fieldLink RX11 157 "ChainsHoldModel" "fault" "I" ∈ gW := gW_in (i := 1168) (by decide +kernel) (by decide +kernel)
theorem q_1169 : .fieldLink RX11 182 "ChainsHoldModel" "opened" "I" ∈ gW := gW_in (i := 1169) (by decide +kernel) (by decide +kernel)
theorem q_1170 : .fieldLink RX11 34 "ChainsHoldModel" "names" "[I" ∈ gW := gW_in (i := 1170) (by decide +kernel) (by decide +kernel)
theorem q_1171 : .fieldLink RX11 37 "ChainsHoldModel" "left" "[I" ∈ gW := gW_in (i := 1171) (by decide +kernel) (by decide +kernel)
theorem q_1172 : .fieldLink RX11 40 "ChainsHoldModel" "hadKept" "[I" ∈ gW := gW_in (i := 1172) (by decide +kernel) (by decide +kernel)
theorem q_1173 : .fieldLink RX11 265 "ChainsHoldModel" "now" "I" ∈ gW := gW_in (i := 1173) (by decide +kernel) (by decide +kernel)
theorem q_1174 : .fieldLink RX11 43 "ChainsHoldModel" "ledNow" "[I" ∈ gW := gW_in (i := 1174) (by decide +kernel) (by decide +kernel)
theorem q_1175 : .fieldLink RX11 268 "ChainsHoldModel" "isKept" "Z" ∈ gW := gW_in (i := 1175) (by decide +kernel) (by decide +kernel)
theorem q_1176 : .fieldLink RX11 272 "ChainsHoldModel" "imagePromises" "I" ∈ gW := gW_in (i := 1176) (by decide +kernel) (by decide +kernel)
theorem q_1177 : .fieldLink RX11 275 "ChainsHoldModel" "imageNow" "I" ∈ gW := gW_in (i := 1177) (by decide +kernel) (by decide +kernel)
theorem q_1178 : .fieldLink RX11 46 "ChainsHoldModel" "imageKept" "[I" ∈ gW := gW_in (i := 1178) (by decide +kernel) (by decide +kernel)
theorem q_1179 : .fieldLink RX11 49 "ChainsHoldModel" "imageLed" "[I" ∈ gW := gW_in (i := 1179) (by decide +kernel) (by decide +kernel)
theorem q_1180 : .fieldLink RX11 278 "ChainsHoldModel" "bodies" "I" ∈ gW := gW_in (i := 1180) (by decide +kernel) (by decide +kernel)
theorem q_1181 : .fieldLink RX11 52 "ChainsHoldModel" "bodyKind" "[I" ∈ gW := gW_in (i := 1181) (by decide +kernel) (by decide +kernel)
theorem q_1182 : .fieldLink RX11 55 "ChainsHoldModel" "trace" "[I" ∈ gW := gW_in (i := 1182) (by decide +kernel) (by decide +kernel)
theorem q_1183 : .fieldLink RX11 283 "ChainsHoldModel" "ran" "I" ∈ gW := gW_in (i := 1183) (by decide +kernel) (by decide +kernel)
theorem q_1184 : .fieldLink RX11 299 "ChainsHoldModel" "ownKind" "I" ∈ gW := gW_in (i := 1184) (by decide +kernel) (by decide +kernel)
theorem q_1185 : .fieldLink RX11 293 "ChainsHoldModel" "ownNumber" "I" ∈ gW := gW_in (i := 1185) (by decide +kernel) (by decide +kernel)
theorem q_1186 : .fieldLink RX11 58 "ChainsHoldModel" "shelf" "[I" ∈ gW := gW_in (i := 1186) (by decide +kernel) (by decide +kernel)
theorem q_1187 : .fieldLink RX11 61 "ChainsHoldModel" "many" "[I" ∈ gW := gW_in (i := 1187) (by decide +kernel) (by decide +kernel)
theorem q_1188 : .fieldLink RX11 64 "ChainsHoldModel" "items" "[J" ∈ gW := gW_in (i := 1188) (by decide +kernel) (by decide +kernel)
theorem q_1189 : .fieldLink RX11 68 "ChainsHoldModel" "carried" "[J" ∈ gW := gW_in (i := 1189) (by decide +kernel) (by decide +kernel)
theorem q_1281 : .constantLong RX11 93 (30) ∈ gW := gW_in (i := 1281) (by decide +kernel) (by decide +kernel)
theorem q_1282 : .methodLink RX11 84 yX11_within ∈ gW := gW_in (i := 1282) (by decide +kernel) (by decide +kernel)
theorem q_1283 : .static yX11_within ∈ gW := gW_in (i := 1283) (by decide +kernel) (by decide +kernel)
theorem q_1284 : .code yX11_within cX11_within 6 (some .boolean) ∈ gW := gW_in (i := 1284) (by decide +kernel) (by decide +kernel)
theorem q_1285 : .constantLong RX11 95 (60) ∈ gW := gW_in (i := 1285) (by decide +kernel) (by decide +kernel)
theorem q_1290 : .methodLink RX11 106 yX11_mayCome ∈ gW := gW_in (i := 1290) (by decide +kernel) (by decide +kernel)
theorem q_1292 : .instanceMethod yX11_mayCome ∈ gW := gW_in (i := 1292) (by decide +kernel) (by decide +kernel)
theorem q_1293 : .code yX11_mayCome cX11_mayCome 9 (some .boolean) ∈ gW := gW_in (i := 1293) (by decide +kernel) (by decide +kernel)
theorem q_1294 : .methodLink RX11 97 yX11_isOne ∈ gW := gW_in (i := 1294) (by decide +kernel) (by decide +kernel)
theorem q_1296 : .instanceMethod yX11_isOne ∈ gW := gW_in (i := 1296) (by decide +kernel) (by decide +kernel)
theorem q_1297 : .code yX11_isOne cX11_isOne 3 (some .boolean) ∈ gW := gW_in (i := 1297) (by decide +kernel) (by decide +kernel)
theorem q_1298 : .methodLink RX11 101 yX11_isDay ∈ gW := gW_in (i := 1298) (by decide +kernel) (by decide +kernel)
theorem q_1299 : .static yX11_isDay ∈ gW := gW_in (i := 1299) (by decide +kernel) (by decide +kernel)
theorem q_1300 : .code yX11_isDay cX11_isDay 2 (some .boolean) ∈ gW := gW_in (i := 1300) (by decide +kernel) (by decide +kernel)
theorem q_1301 : .constantLong RX11 91 (99) ∈ gW := gW_in (i := 1301) (by decide +kernel) (by decide +kernel)
theorem q_1302 : .constantLong RX11 104 (9) ∈ gW := gW_in (i := 1302) (by decide +kernel) (by decide +kernel)
theorem q_1303 : .methodLink RX11 110 yX11_adds ∈ gW := gW_in (i := 1303) (by decide +kernel) (by decide +kernel)
theorem q_1305 : .instanceMethod yX11_adds ∈ gW := gW_in (i := 1305) (by decide +kernel) (by decide +kernel)
theorem q_1306 : .code yX11_adds cX11_adds 5 (some .int) ∈ gW := gW_in (i := 1306) (by decide +kernel) (by decide +kernel)
theorem q_1311 : .methodLink RX11 114 yX11_isShelf ∈ gW := gW_in (i := 1311) (by decide +kernel) (by decide +kernel)
theorem q_1312 : .static yX11_isShelf ∈ gW := gW_in (i := 1312) (by decide +kernel) (by decide +kernel)
theorem q_1313 : .code yX11_isShelf cX11_isShelf 1 (some .boolean) ∈ gW := gW_in (i := 1313) (by decide +kernel) (by decide +kernel)
theorem q_1314 : .constantLong RX11 311 (5) ∈ gW := gW_in (i := 1314) (by decide +kernel) (by decide +kernel)
theorem q_1315 : .constantLong RX11 118 (10) ∈ gW := gW_in (i := 1315) (by decide +kernel) (by decide +kernel)
theorem q_1320 : .methodLink RX11 131 yX11_placeOf ∈ gW := gW_in (i := 1320) (by decide +kernel) (by decide +kernel)
theorem q_1322 : .instanceMethod yX11_placeOf ∈ gW := gW_in (i := 1322) (by decide +kernel) (by decide +kernel)
theorem q_1323 : .code yX11_placeOf cX11_placeOf 3 (some .int) ∈ gW := gW_in (i := 1323) (by decide +kernel) (by decide +kernel)
theorem q_1324 : .constantLong RX11 120 (2) ∈ gW := gW_in (i := 1324) (by decide +kernel) (by decide +kernel)
theorem q_1325 : .constantLong RX11 122 (3) ∈ gW := gW_in (i := 1325) (by decide +kernel) (by decide +kernel)
theorem q_1326 : .constantLong RX11 124 (6) ∈ gW := gW_in (i := 1326) (by decide +kernel) (by decide +kernel)
theorem q_1327 : .methodLink RX11 126 yX11_isPromise ∈ gW := gW_in (i := 1327) (by decide +kernel) (by decide +kernel)
theorem q_1329 : .instanceMethod yX11_isPromise ∈ gW := gW_in (i := 1329) (by decide +kernel) (by decide +kernel)
theorem q_1330 : .code yX11_isPromise cX11_isPromise 3 (some .boolean) ∈ gW := gW_in (i := 1330) (by decide +kernel) (by decide +kernel)
theorem q_1331 : .methodLink RX11 135 yX11_mayBecome ∈ gW := gW_in (i := 1331) (by decide +kernel) (by decide +kernel)
theorem q_1333 : .instanceMethod yX11_mayBecome ∈ gW := gW_in (i := 1333) (by decide +kernel) (by decide +kernel)
theorem q_1334 : .code yX11_mayBecome cX11_mayBecome 4 (some .boolean) ∈ gW := gW_in (i := 1334) (by decide +kernel) (by decide +kernel)
theorem q_1335 : .constantLong RX11 129 (-1) ∈ gW := gW_in (i := 1335) (by decide +kernel) (by decide +kernel)
theorem q_1336 : .methodLink RX11 139 yX11_becomes ∈ gW := gW_in (i := 1336) (by decide +kernel) (by decide +kernel)
theorem q_1338 : .instanceMethod yX11_becomes ∈ gW := gW_in (i := 1338) (by decide +kernel) (by decide +kernel)
theorem q_1339 : .code yX11_becomes cX11_becomes 5 (some .int) ∈ gW := gW_in (i := 1339) (by decide +kernel) (by decide +kernel)
theorem q_1340 : .constant RX11 142 (-2000000000) ∈ gW := gW_in (i := 1340) (by decide +kernel) (by decide +kernel)
theorem q_1349 : .constantLong RX11 143 (255) ∈ gW := gW_in (i := 1349) (by decide +kernel) (by decide +kernel)
theorem q_1354 : .methodLink RX11 195 yX11_workOut ∈ gW := gW_in (i := 1354) (by decide +kernel) (by decide +kernel)
theorem q_1356 : .instanceMethod yX11_workOut ∈ gW := gW_in (i := 1356) (by decide +kernel) (by decide +kernel)
theorem q_1357 : .code yX11_workOut cX11_workOut 8 (some .int) ∈ gW := gW_in (i := 1357) (by decide +kernel) (by decide +kernel)
theorem q_1358 : .methodLink RX11 188 yX11_either ∈ gW := gW_in (i := 1358) (by decide +kernel) (by decide +kernel)
theorem q_1360 : .instanceMethod yX11_either ∈ gW := gW_in (i := 1360) (by decide +kernel) (by decide +kernel)
theorem q_1361 : .code yX11_either cX11_either 3 (some .int) ∈ gW := gW_in (i := 1361) (by decide +kernel) (by decide +kernel)
theorem q_1362 : .methodLink RX11 164 yX11_both ∈ gW := gW_in (i := 1362) (by decide +kernel) (by decide +kernel)
theorem q_1364 : .instanceMethod yX11_both ∈ gW := gW_in (i := 1364) (by decide +kernel) (by decide +kernel)
theorem q_1365 : .code yX11_both cX11_both 3 (some .int) ∈ gW := gW_in (i := 1365) (by decide +kernel) (by decide +kernel)
theorem q_1366 : .methodLink RX11 170 yX11_compared ∈ gW := gW_in (i := 1366) (by decide +kernel) (by decide +kernel)
theorem q_1368 : .instanceMethod yX11_compared ∈ gW := gW_in (i := 1368) (by decide +kernel) (by decide +kernel)
theorem q_1369 : .code yX11_compared cX11_compared 4 (some .int) ∈ gW := gW_in (i := 1369) (by decide +kernel) (by decide +kernel)
theorem q_1370 : .methodLink RX11 173 yX11_sums ∈ gW := gW_in (i := 1370) (by decide +kernel) (by decide +kernel)
theorem q_1372 : .instanceMethod yX11_sums ∈ gW := gW_in (i := 1372) (by decide +kernel) (by decide +kernel)
theorem q_1373 : .code yX11_sums cX11_sums 4 (some .int) ∈ gW := gW_in (i := 1373) (by decide +kernel) (by decide +kernel)
theorem q_1374 : .methodLink RX11 176 yX11_product ∈ gW := gW_in (i := 1374) (by decide +kernel) (by decide +kernel)
theorem q_1376 : .instanceMethod yX11_product ∈ gW := gW_in (i := 1376) (by decide +kernel) (by decide +kernel)
theorem q_1377 : .code yX11_product cX11_product 4 (some .int) ∈ gW := gW_in (i := 1377) (by decide +kernel) (by decide +kernel)
theorem q_1378 : .methodLink RX11 179 yX11_one ∈ gW := gW_in (i := 1378) (by decide +kernel) (by decide +kernel)
theorem q_1380 : .instanceMethod yX11_one ∈ gW := gW_in (i := 1380) (by decide +kernel) (by decide +kernel)
theorem q_1381 : .code yX11_one cX11_one 5 (some .int) ∈ gW := gW_in (i := 1381) (by decide +kernel) (by decide +kernel)
theorem q_1382 : .methodLink RX11 160 yX11_byteAt ∈ gW := gW_in (i := 1382) (by decide +kernel) (by decide +kernel)
theorem q_1384 : .instanceMethod yX11_byteAt ∈ gW := gW_in (i := 1384) (by decide +kernel) (by decide +kernel)
theorem q_1385 : .code yX11_byteAt cX11_byteAt 1 (some .int) ∈ gW := gW_in (i := 1385) (by decide +kernel) (by decide +kernel)
theorem q_1386 : .methodLink RX11 185 yX11_wrong ∈ gW := gW_in (i := 1386) (by decide +kernel) (by decide +kernel)
theorem q_1388 : .instanceMethod yX11_wrong ∈ gW := gW_in (i := 1388) (by decide +kernel) (by decide +kernel)
theorem q_1389 : .code yX11_wrong cX11_wrong 1 (some .int) ∈ gW := gW_in (i := 1389) (by decide +kernel) (by decide +kernel)
theorem q_1390 : .methodLink RX11 167 yX11_takes ∈ gW := gW_in (i := 1390) (by decide +kernel) (by decide +kernel)
theorem q_1392 : .instanceMethod yX11_takes ∈ gW := gW_in (i := 1392) (by decide +kernel) (by decide +kernel)
theorem q_1393 : .code yX11_takes cX11_takes 2 (some .boolean) ∈ gW := gW_in (i := 1393) (by decide +kernel) (by decide +kernel)
theorem q_1394 : .methodLink RX11 191 yX11_nameOf ∈ gW := gW_in (i := 1394) (by decide +kernel) (by decide +kernel)
theorem q_1395 : .static yX11_nameOf ∈ gW := gW_in (i := 1395) (by decide +kernel) (by decide +kernel)
theorem q_1396 : .code yX11_nameOf cX11_nameOf 1 (some .int) ∈ gW := gW_in (i := 1396) (by decide +kernel) (by decide +kernel)
theorem q_1401 : .methodLink RX11 205 yX11_chainOf ∈ gW := gW_in (i := 1401) (by decide +kernel) (by decide +kernel)
theorem q_1403 : .instanceMethod yX11_chainOf ∈ gW := gW_in (i := 1403) (by decide +kernel) (by decide +kernel)
theorem q_1404 : .code yX11_chainOf cX11_chainOf 5 (some .int) ∈ gW := gW_in (i := 1404) (by decide +kernel) (by decide +kernel)
theorem q_1405 : .methodLink RX11 198 yX11_isOf ∈ gW := gW_in (i := 1405) (by decide +kernel) (by decide +kernel)
theorem q_1407 : .instanceMethod yX11_isOf ∈ gW := gW_in (i := 1407) (by decide +kernel) (by decide +kernel)
theorem q_1408 : .code yX11_isOf cX11_isOf 3 (some .boolean) ∈ gW := gW_in (i := 1408) (by decide +kernel) (by decide +kernel)
theorem q_1409 : .methodLink RX11 202 yX11_isOpen ∈ gW := gW_in (i := 1409) (by decide +kernel) (by decide +kernel)
theorem q_1411 : .instanceMethod yX11_isOpen ∈ gW := gW_in (i := 1411) (by decide +kernel) (by decide +kernel)
theorem q_1412 : .code yX11_isOpen cX11_isOpen 3 (some .boolean) ∈ gW := gW_in (i := 1412) (by decide +kernel) (by decide +kernel)
theorem q_1413 : .methodLink RX11 214 yX11_doesRide ∈ gW := gW_in (i := 1413) (by decide +kernel) (by decide +kernel)
theorem q_1415 : .instanceMethod yX11_doesRide ∈ gW := gW_in (i := 1415) (by decide +kernel) (by decide +kernel)
theorem q_1416 : .code yX11_doesRide cX11_doesRide 3 (some .boolean) ∈ gW := gW_in (i := 1416) (by decide +kernel) (by decide +kernel)
theorem q_1417 : .methodLink RX11 208 yX11_goesRound ∈ gW := gW_in (i := 1417) (by decide +kernel) (by decide +kernel)
theorem q_1419 : .instanceMethod yX11_goesRound ∈ gW := gW_in (i := 1419) (by decide +kernel) (by decide +kernel)
theorem q_1420 : .code yX11_goesRound cX11_goesRound 3 (some .boolean) ∈ gW := gW_in (i := 1420) (by decide +kernel) (by decide +kernel)
theorem q_1421 : .methodLink RX11 217 yX11_creaksOf ∈ gW := gW_in (i := 1421) (by decide +kernel) (by decide +kernel)
theorem q_1423 : .instanceMethod yX11_creaksOf ∈ gW := gW_in (i := 1423) (by decide +kernel) (by decide +kernel)
theorem q_1424 : .code yX11_creaksOf cX11_creaksOf 5 (some .int) ∈ gW := gW_in (i := 1424) (by decide +kernel) (by decide +kernel)
theorem q_1425 : .methodLink RX11 211 yX11_creakOf ∈ gW := gW_in (i := 1425) (by decide +kernel) (by decide +kernel)
theorem q_1427 : .instanceMethod yX11_creakOf ∈ gW := gW_in (i := 1427) (by decide +kernel) (by decide +kernel)
theorem q_1428 : .code yX11_creakOf cX11_creakOf 5 (some .int) ∈ gW := gW_in (i := 1428) (by decide +kernel) (by decide +kernel)
theorem q_1429 : .methodLink RX11 220 yX11_debtOf ∈ gW := gW_in (i := 1429) (by decide +kernel) (by decide +kernel)
theorem q_1431 : .instanceMethod yX11_debtOf ∈ gW := gW_in (i := 1431) (by decide +kernel) (by decide +kernel)
theorem q_1432 : .code yX11_debtOf cX11_debtOf 5 (some .int) ∈ gW := gW_in (i := 1432) (by decide +kernel) (by decide +kernel)
theorem q_1449 : .methodLink RX11 223 yX11_ridersOn ∈ gW := gW_in (i := 1449) (by decide +kernel) (by decide +kernel)
theorem q_1451 : .instanceMethod yX11_ridersOn ∈ gW := gW_in (i := 1451) (by decide +kernel) (by decide +kernel)
theorem q_1452 : .code yX11_ridersOn cX11_ridersOn 4 (some .int) ∈ gW := gW_in (i := 1452) (by decide +kernel) (by decide +kernel)
theorem q_1457 : .methodLink RX11 226 yX11_bitsOf ∈ gW := gW_in (i := 1457) (by decide +kernel) (by decide +kernel)
theorem q_1458 : .static yX11_bitsOf ∈ gW := gW_in (i := 1458) (by decide +kernel) (by decide +kernel)
theorem q_1459 : .code yX11_bitsOf cX11_bitsOf 3 (some .int) ∈ gW := gW_in (i := 1459) (by decide +kernel) (by decide +kernel)
theorem q_1464 : .methodLink RX11 238 yX11_lets ∈ gW := gW_in (i := 1464) (by decide +kernel) (by decide +kernel)
theorem q_1466 : .instanceMethod yX11_lets ∈ gW := gW_in (i := 1466) (by decide +kernel) (by decide +kernel)
theorem q_1467 : .code yX11_lets cX11_lets 4 (some .boolean) ∈ gW := gW_in (i := 1467) (by decide +kernel) (by decide +kernel)
theorem q_1468 : .methodLink RX11 232 yX11_ownOpen ∈ gW := gW_in (i := 1468) (by decide +kernel) (by decide +kernel)
theorem q_1470 : .instanceMethod yX11_ownOpen ∈ gW := gW_in (i := 1470) (by decide +kernel) (by decide +kernel)
theorem q_1471 : .code yX11_ownOpen cX11_ownOpen 5 (some .int) ∈ gW := gW_in (i := 1471) (by decide +kernel) (by decide +kernel)
theorem q_1472 : .methodLink RX11 235 yX11_linksOf ∈ gW := gW_in (i := 1472) (by decide +kernel) (by decide +kernel)
theorem q_1474 : .instanceMethod yX11_linksOf ∈ gW := gW_in (i := 1474) (by decide +kernel) (by decide +kernel)
theorem q_1475 : .code yX11_linksOf cX11_linksOf 4 (some .int) ∈ gW := gW_in (i := 1475) (by decide +kernel) (by decide +kernel)
theorem q_1476 : .methodLink RX11 229 yX11_isIn ∈ gW := gW_in (i := 1476) (by decide +kernel) (by decide +kernel)
theorem q_1477 : .static yX11_isIn ∈ gW := gW_in (i := 1477) (by decide +kernel) (by decide +kernel)
theorem q_1478 : .code yX11_isIn cX11_isIn 2 (some .boolean) ∈ gW := gW_in (i := 1478) (by decide +kernel) (by decide +kernel)
theorem q_1491 : .methodLink RX11 241 yX11_allOf ∈ gW := gW_in (i := 1491) (by decide +kernel) (by decide +kernel)
theorem q_1493 : .instanceMethod yX11_allOf ∈ gW := gW_in (i := 1493) (by decide +kernel) (by decide +kernel)
theorem q_1494 : .code yX11_allOf cX11_allOf 4 (some .int) ∈ gW := gW_in (i := 1494) (by decide +kernel) (by decide +kernel)
theorem q_1495 : .methodLink RX11 244 yX11_areAbleTo ∈ gW := gW_in (i := 1495) (by decide +kernel) (by decide +kernel)
theorem q_1497 : .instanceMethod yX11_areAbleTo ∈ gW := gW_in (i := 1497) (by decide +kernel) (by decide +kernel)
theorem q_1498 : .code yX11_areAbleTo cX11_areAbleTo 5 (some .boolean) ∈ gW := gW_in (i := 1498) (by decide +kernel) (by decide +kernel)
theorem q_1507 : .methodLink RX11 247 yX11_isClash ∈ gW := gW_in (i := 1507) (by decide +kernel) (by decide +kernel)
theorem q_1509 : .instanceMethod yX11_isClash ∈ gW := gW_in (i := 1509) (by decide +kernel) (by decide +kernel)
theorem q_1510 : .code yX11_isClash cX11_isClash 3 (some .boolean) ∈ gW := gW_in (i := 1510) (by decide +kernel) (by decide +kernel)
theorem q_1515 : .methodLink RX11 250 yX11_ridersBy ∈ gW := gW_in (i := 1515) (by decide +kernel) (by decide +kernel)
theorem q_1517 : .instanceMethod yX11_ridersBy ∈ gW := gW_in (i := 1517) (by decide +kernel) (by decide +kernel)
theorem q_1518 : .code yX11_ridersBy cX11_ridersBy 6 (some .int) ∈ gW := gW_in (i := 1518) (by decide +kernel) (by decide +kernel)
theorem q_1527 : .methodLink RX11 254 yX11_shortsIs ∈ gW := gW_in (i := 1527) (by decide +kernel) (by decide +kernel)
theorem q_1529 : .instanceMethod yX11_shortsIs ∈ gW := gW_in (i := 1529) (by decide +kernel) (by decide +kernel)
theorem q_1530 : .code yX11_shortsIs cX11_shortsIs 2 (some .int) ∈ gW := gW_in (i := 1530) (by decide +kernel) (by decide +kernel)
theorem q_1531 : .methodLink RX11 257 yX11_firstFalse ∈ gW := gW_in (i := 1531) (by decide +kernel) (by decide +kernel)
theorem q_1533 : .instanceMethod yX11_firstFalse ∈ gW := gW_in (i := 1533) (by decide +kernel) (by decide +kernel)
theorem q_1534 : .code yX11_firstFalse cX11_firstFalse 4 (some .int) ∈ gW := gW_in (i := 1534) (by decide +kernel) (by decide +kernel)
theorem q_1547 : .methodLink RX11 260 yX11_winsFrom ∈ gW := gW_in (i := 1547) (by decide +kernel) (by decide +kernel)
theorem q_1549 : .instanceMethod yX11_winsFrom ∈ gW := gW_in (i := 1549) (by decide +kernel) (by decide +kernel)
theorem q_1550 : .code yX11_winsFrom cX11_winsFrom 7 (some .boolean) ∈ gW := gW_in (i := 1550) (by decide +kernel) (by decide +kernel)
theorem q_1559 : .constant RX11 264 (1103515245) ∈ gW := gW_in (i := 1559) (by decide +kernel) (by decide +kernel)
theorem q_1588 : .constantLong RX11 281 (7) ∈ gW := gW_in (i := 1588) (by decide +kernel) (by decide +kernel)
theorem q_1593 : .methodLink RX11 308 yX11_isBody ∈ gW := gW_in (i := 1593) (by decide +kernel) (by decide +kernel)
theorem q_1595 : .instanceMethod yX11_isBody ∈ gW := gW_in (i := 1595) (by decide +kernel) (by decide +kernel)
theorem q_1596 : .code yX11_isBody cX11_isBody 2 (some .boolean) ∈ gW := gW_in (i := 1596) (by decide +kernel) (by decide +kernel)
theorem q_1597 : .methodLink RX11 290 yX11_holdsAs ∈ gW := gW_in (i := 1597) (by decide +kernel) (by decide +kernel)
theorem q_1599 : .instanceMethod yX11_holdsAs ∈ gW := gW_in (i := 1599) (by decide +kernel) (by decide +kernel)
theorem q_1600 : .code yX11_holdsAs cX11_holdsAs 3 (some .int) ∈ gW := gW_in (i := 1600) (by decide +kernel) (by decide +kernel)
theorem q_1601 : .methodLink RX11 286 yX11_runs ∈ gW := gW_in (i := 1601) (by decide +kernel) (by decide +kernel)
theorem q_1603 : .instanceMethod yX11_runs ∈ gW := gW_in (i := 1603) (by decide +kernel) (by decide +kernel)
theorem q_1604 : .code yX11_runs cX11_runs 2 none ∈ gW := gW_in (i := 1604) (by decide +kernel) (by decide +kernel)
theorem q_1605 : .methodLink RX11 296 yX11_ridesAs ∈ gW := gW_in (i := 1605) (by decide +kernel) (by decide +kernel)
theorem q_1607 : .instanceMethod yX11_ridesAs ∈ gW := gW_in (i := 1607) (by decide +kernel) (by decide +kernel)
theorem q_1608 : .code yX11_ridesAs cX11_ridesAs 4 (some .int) ∈ gW := gW_in (i := 1608) (by decide +kernel) (by decide +kernel)
theorem q_1609 : .methodLink RX11 302 yX11_creaksAs ∈ gW := gW_in (i := 1609) (by decide +kernel) (by decide +kernel)
theorem q_1611 : .instanceMethod yX11_creaksAs ∈ gW := gW_in (i := 1611) (by decide +kernel) (by decide +kernel)
theorem q_1612 : .code yX11_creaksAs cX11_creaksAs 4 (some .int) ∈ gW := gW_in (i := 1612) (by decide +kernel) (by decide +kernel)
theorem q_1613 : .methodLink RX11 305 yX11_tellsAs ∈ gW := gW_in (i := 1613) (by decide +kernel) (by decide +kernel)
theorem q_1615 : .instanceMethod yX11_tellsAs ∈ gW := gW_in (i := 1615) (by decide +kernel) (by decide +kernel)
theorem q_1616 : .code yX11_tellsAs cX11_tellsAs 4 (some .int) ∈ gW := gW_in (i := 1616) (by decide +kernel) (by decide +kernel)
theorem q_1629 : .constantLong RX11 313 (4) ∈ gW := gW_in (i := 1629) (by decide +kernel) (by decide +kernel)
theorem q_1634 : .methodLink RX11 315 yX11_refusal ∈ gW := gW_in (i := 1634) (by decide +kernel) (by decide +kernel)
theorem q_1636 : .instanceMethod yX11_refusal ∈ gW := gW_in (i := 1636) (by decide +kernel) (by decide +kernel)
theorem q_1637 : .code yX11_refusal cX11_refusal 3 (some .int) ∈ gW := gW_in (i := 1637) (by decide +kernel) (by decide +kernel)
theorem q_1638 : .methodLink RX11 318 yX11_asSort ∈ gW := gW_in (i := 1638) (by decide +kernel) (by decide +kernel)
theorem q_1639 : .static yX11_asSort ∈ gW := gW_in (i := 1639) (by decide +kernel) (by decide +kernel)
theorem q_1640 : .code yX11_asSort cX11_asSort 3 (some .long) ∈ gW := gW_in (i := 1640) (by decide +kernel) (by decide +kernel)
theorem q_1645 : .constantLong RX11 324 (-9223372036854775808) ∈ gW := gW_in (i := 1645) (by decide +kernel) (by decide +kernel)
theorem q_1654 : .methodLink RX11 326 yX11_kindOf ∈ gW := gW_in (i := 1654) (by decide +kernel) (by decide +kernel)
theorem q_1656 : .instanceMethod yX11_kindOf ∈ gW := gW_in (i := 1656) (by decide +kernel) (by decide +kernel)
theorem q_1657 : .code yX11_kindOf cX11_kindOf 2 (some .int) ∈ gW := gW_in (i := 1657) (by decide +kernel) (by decide +kernel)
theorem q_1658 : .methodLink RX11 329 yX11_above ∈ gW := gW_in (i := 1658) (by decide +kernel) (by decide +kernel)
theorem q_1659 : .static yX11_above ∈ gW := gW_in (i := 1659) (by decide +kernel) (by decide +kernel)
theorem q_1660 : .code yX11_above cX11_above 1 (some .int) ∈ gW := gW_in (i := 1660) (by decide +kernel) (by decide +kernel)
theorem lk_X0_26 : LkV RX0 26 yX0_dropOldest cX0_dropOldest 1 none 0 := ⟨⟨q_497, q_84, q_494, q_496, q_2⟩, ⟨by decide, by decide, by decide +kernel⟩⟩
theorem lk_X8_60 : LkV RX8 60 yX8_rowOf cX8_rowOf 2 (some (.array .int)) 1 := ⟨⟨q_489, q_79, q_486, q_488, q_1⟩, ⟨by decide, by decide, by decide +kernel⟩⟩
theorem lk_X0_38 : LkV RX0 38 yX8_become cX8_become 4 none 3 := ⟨⟨q_504, q_79, q_1002, q_502, q_503⟩, ⟨by decide, by decide, by decide +kernel⟩⟩
theorem lk_X5_68 : LkS RX5 68 yX5_levelOf cX5_levelOf 1 (some .int) 1 := ⟨⟨q_569, q_80, q_567, q_568⟩, ⟨by decide, by decide, by decide +kernel⟩⟩
theorem lk_X5_88 : LkV RX5 88 yX5_tell cX5_tell 7 none 6 := ⟨⟨q_627, q_80, q_624, q_626, q_12⟩, ⟨by decide, by decide, by decide +kernel⟩⟩
theorem lk_X5_95 : LkS RX5 95 yX5_operandsOf cX5_operandsOf 1 (some .int) 1 := ⟨⟨q_634, q_80, q_632, q_633⟩, ⟨by decide, by decide, by decide +kernel⟩⟩
theorem lk_X5_98 : LkS RX5 98 yJ9_max_7cf53 cJ9_max_7cf53 2 (some .int) 2 := ⟨⟨q_637, q_92, q_635, q_636⟩, ⟨by decide, by decide, by decide +kernel⟩⟩
theorem lk_X5_104 : LkV RX5 104 yX5_result cX5_result 4 (some .int) 3 := ⟨⟨q_641, q_80, q_638, q_640, q_14⟩, ⟨by decide, by decide, by decide +kernel⟩⟩
theorem lk_X5_108 : LkS RX5 108 yJ9_min_7cf53 cJ9_min_7cf53 2 (some .int) 2 := ⟨⟨q_644, q_92, q_642, q_643⟩, ⟨by decide, by decide, by decide +kernel⟩⟩
theorem lk_X5_92 : LkV RX5 92 yX5_lineEndFrom cX5_lineEndFrom 3 (some .int) 1 := ⟨⟨q_631, q_80, q_628, q_630, q_13⟩, ⟨by decide, by decide, by decide +kernel⟩⟩
theorem lk_X8_64 : LkV RX8 64 yX8_isOpen cX8_isOpen 3 (some .boolean) 2 := ⟨⟨q_588, q_79, q_585, q_586, q_587⟩, ⟨by decide, by decide, by decide +kernel⟩⟩
theorem lk_X8_68 : LkV RX8 68 yX8_concerns cX8_concerns 3 (some .boolean) 2 := ⟨⟨q_584, q_79, q_581, q_582, q_583⟩, ⟨by decide, by decide, by decide +kernel⟩⟩
theorem lk_X1_32 : LkV RX1 32 yX8_isOverDue cX8_isOverDue 3 (some .boolean) 2 := ⟨⟨q_610, q_79, q_607, q_608, q_609⟩, ⟨by decide, by decide, by decide +kernel⟩⟩
theorem lk_X1_45 : LkV RX1 45 yX5_hasText cX5_hasText 1 (some .boolean) 0 := ⟨⟨q_614, q_80, q_611, q_612, q_613⟩, ⟨by decide, by decide, by decide +kernel⟩⟩
theorem lk_X1_69 : LkS RX1 69 yJ9_min_7cf53 cJ9_min_7cf53 2 (some .int) 2 := ⟨⟨q_644, q_92, q_645, q_643⟩, ⟨by decide, by decide, by decide +kernel⟩⟩
theorem lk_X1_74 : LkS RX1 74 yJ9_max_7cf53 cJ9_max_7cf53 2 (some .int) 2 := ⟨⟨q_637, q_92, q_646, q_636⟩, ⟨by decide, by decide, by decide +kernel⟩⟩
theorem lk_X1_54 : LkV RX1 54 yX8_lengthOn cX8_lengthOn 5 (some .int) 2 := ⟨⟨q_580, q_79, q_615, q_578, q_579⟩, ⟨by decide, by decide, by decide +kernel⟩⟩
theorem lk_X1_61 : LkV RX1 61 yX8_isTied cX8_isTied 2 (some .boolean) 1 := ⟨⟨q_619, q_79, q_616, q_617, q_618⟩, ⟨by decide, by decide, by decide +kernel⟩⟩
theorem lk_X1_65 : LkV RX1 65 yX5_valueFor cX5_valueFor 10 (some .int) 6 := ⟨⟨q_623, q_80, q_620, q_621, q_622⟩, ⟨by decide, by decide, by decide +kernel⟩⟩
theorem lk_X1_81 : LkV RX1 81 yX8_concerns cX8_concerns 3 (some .boolean) 2 := ⟨⟨q_584, q_79, q_602, q_582, q_583⟩, ⟨by decide, by decide, by decide +kernel⟩⟩
theorem lk_X1_84 : LkV RX1 84 yX1_ofPromise cX1_ofPromise 6 (some .int) 2 := ⟨⟨q_606, q_88, q_603, q_604, q_605⟩, ⟨by decide, by decide, by decide +kernel⟩⟩
theorem lk_X1_87 : LkV RX1 87 yX1_ofAll cX1_ofAll 4 (some .int) 1 := ⟨⟨q_925, q_88, q_922, q_923, q_924⟩, ⟨by decide, by decide, by decide +kernel⟩⟩
theorem lk_X10_83 : LkS RX10 83 yX10_within cX10_within 3 (some .boolean) 3 := ⟨⟨q_412, q_78, q_410, q_411⟩, ⟨by decide, by decide, by decide +kernel⟩⟩
theorem lk_X1_94 : LkN RX1 94 yX10_isDay cX10_isDay 1 (some .boolean) 1 := ⟨⟨q_431, q_78, by decide +kernel, q_430⟩, ⟨by decide, by decide, by decide +kernel⟩⟩
theorem lk_X1_97 : LkV RX1 97 yX7_elementAt cX7_elementAt 3 (some .long) 2 := ⟨⟨q_464, q_81, q_863, q_462, q_463⟩, ⟨by decide, by decide, by decide +kernel⟩⟩
theorem lk_X1_101 : LkV RX1 101 yX1_ofOne cX1_ofOne 5 (some .int) 2 := ⟨⟨q_601, q_88, q_864, q_599, q_600⟩, ⟨by decide, by decide, by decide +kernel⟩⟩
theorem lk_X1_107 : LkV RX1 107 yX1_firstWrongDay cX1_firstWrongDay 4 (some .int) 2 := ⟨⟨q_861, q_88, q_893, q_859, q_860⟩, ⟨by decide, by decide, by decide +kernel⟩⟩
theorem lk_X1_113 : LkV RX1 113 yX1_isSoIfKeptOn cX1_isSoIfKeptOn 5 (some .boolean) 2 := ⟨⟨q_880, q_88, q_877, q_879, q_26⟩, ⟨by decide, by decide, by decide +kernel⟩⟩
theorem lk_X2_25 : LkS RX2 25 yJ7_fill_53178 cJ7_fill_53178 4 none 2 := ⟨⟨q_214, q_82, q_669, q_213⟩, ⟨by decide, by decide, by decide +kernel⟩⟩
theorem lk_X2_40 : LkV RX2 40 yX8_concerns cX8_concerns 3 (some .boolean) 2 := ⟨⟨q_584, q_79, q_670, q_582, q_583⟩, ⟨by decide, by decide, by decide +kernel⟩⟩
theorem lk_X8_53 : LkN RX8 53 yX10_within cX10_within 3 (some .boolean) 3 := ⟨⟨q_412, q_78, by decide +kernel, q_411⟩, ⟨by decide, by decide, by decide +kernel⟩⟩
theorem lk_X2_50 : LkV RX2 50 yX8_goesRound cX8_goesRound 3 (some .boolean) 2 := ⟨⟨q_597, q_79, q_675, q_595, q_596⟩, ⟨by decide, by decide, by decide +kernel⟩⟩
theorem lk_X2_53 : LkV RX2 53 yX2_ridesLaidOut cX2_ridesLaidOut 3 (some .boolean) 2 := ⟨⟨q_674, q_85, q_671, q_673, q_16⟩, ⟨by decide, by decide, by decide +kernel⟩⟩
theorem lk_X2_59 : LkV RX2 59 yX2_layOut cX2_layOut 5 none 2 := ⟨⟨q_668, q_85, q_665, q_667, q_15⟩, ⟨by decide, by decide, by decide +kernel⟩⟩
theorem lk_X2_63 : LkV RX2 63 yX2_ridesLaidOutWithin cX2_ridesLaidOutWithin 6 (some .int) 3 := ⟨⟨q_683, q_85, q_680, q_682, q_17⟩, ⟨by decide, by decide, by decide +kernel⟩⟩
theorem lk_X2_70 : LkV RX2 70 yX2_drawLife cX2_drawLife 5 (some .int) 1 := ⟨⟨q_938, q_85, q_935, q_937, q_27⟩, ⟨by decide, by decide, by decide +kernel⟩⟩
theorem lk_X2_75 : LkV RX2 75 yX8_isOpen cX8_isOpen 3 (some .boolean) 2 := ⟨⟨q_588, q_79, q_840, q_586, q_587⟩, ⟨by decide, by decide, by decide +kernel⟩⟩
theorem lk_X2_78 : LkV RX2 78 yX8_lengthOn cX8_lengthOn 5 (some .int) 2 := ⟨⟨q_580, q_79, q_841, q_578, q_579⟩, ⟨by decide, by decide, by decide +kernel⟩⟩
theorem lk_X8_71 : LkV RX8 71 yX8_lengthOn cX8_lengthOn 5 (some .int) 2 := ⟨⟨q_580, q_79, q_593, q_578, q_579⟩, ⟨by decide, by decide, by decide +kernel⟩⟩
theorem lk_X8_75 : LkV RX8 75 yX8_goesRound cX8_goesRound 3 (some .boolean) 2 := ⟨⟨q_597, q_79, q_594, q_595, q_596⟩, ⟨by decide, by decide, by decide +kernel⟩⟩
theorem lk_X8_78 : LkV RX8 78 yX8_ridesOn cX8_ridesOn 3 (some .boolean) 2 := ⟨⟨q_592, q_79, q_707, q_590, q_591⟩, ⟨by decide, by decide, by decide +kernel⟩⟩
theorem lk_X2_85 : LkV RX2 85 yX8_ridersOn cX8_ridersOn 4 (some .int) 1 := ⟨⟨q_706, q_79, q_850, q_704, q_705⟩, ⟨by decide, by decide, by decide +kernel⟩⟩
theorem lk_X2_88 : LkS RX2 88 yJ6_bitCount_0f7a4 cJ6_bitCount_0f7a4 1 (some .int) 1 := ⟨⟨q_718, q_93, q_851, q_717⟩, ⟨by decide, by decide, by decide +kernel⟩⟩
theorem lk_X2_93 : LkV RX2 93 yX8_isTied cX8_isTied 2 (some .boolean) 1 := ⟨⟨q_619, q_79, q_852, q_617, q_618⟩, ⟨by decide, by decide, by decide +kernel⟩⟩
theorem lk_X2_97 : LkV RX2 97 yX2_ridersIfHanded cX2_ridersIfHanded 8 (some .int) 3 := ⟨⟨q_839, q_85, q_853, q_837, q_838⟩, ⟨by decide, by decide, by decide +kernel⟩⟩
theorem lk_X3_25 : LkV RX3 25 yX8_ridersOn cX8_ridersOn 4 (some .int) 1 := ⟨⟨q_706, q_79, q_952, q_704, q_705⟩, ⟨by decide, by decide, by decide +kernel⟩⟩
theorem lk_X3_31 : LkS RX3 31 yJ6_bitCount_0f7a4 cJ6_bitCount_0f7a4 1 (some .int) 1 := ⟨⟨q_718, q_93, q_953, q_717⟩, ⟨by decide, by decide, by decide +kernel⟩⟩
theorem lk_X3_36 : LkV RX3 36 yX8_addPromise cX8_addPromise 5 (some .int) 4 := ⟨⟨q_440, q_79, q_962, q_438, q_439⟩, ⟨by decide, by decide, by decide +kernel⟩⟩
theorem lk_X3_43 : LkV RX3 43 yX8_openOnes cX8_openOnes 4 (some .int) 1 := ⟨⟨q_741, q_79, q_972, q_739, q_740⟩, ⟨by decide, by decide, by decide +kernel⟩⟩
theorem lk_X4_15 : LkV RX4 15 yX8_promisesOf cX8_promisesOf 4 (some .int) 1 := ⟨⟨q_737, q_79, q_734, q_735, q_736⟩, ⟨by decide, by decide, by decide +kernel⟩⟩
theorem lk_X4_21 : LkV RX4 21 yX8_openOnes cX8_openOnes 4 (some .int) 1 := ⟨⟨q_741, q_79, q_738, q_739, q_740⟩, ⟨by decide, by decide, by decide +kernel⟩⟩
theorem lk_X8_81 : LkN RX8 81 yX10_isIn cX10_isIn 2 (some .boolean) 2 := ⟨⟨q_753, q_78, by decide +kernel, q_752⟩, ⟨by decide, by decide, by decide +kernel⟩⟩
theorem lk_X4_24 : LkV RX4 24 yX8_linksOf cX8_linksOf 4 (some .int) 1 := ⟨⟨q_750, q_79, q_747, q_748, q_749⟩, ⟨by decide, by decide, by decide +kernel⟩⟩
theorem lk_X4_27 : LkV RX4 27 yX8_goesRound cX8_goesRound 3 (some .boolean) 2 := ⟨⟨q_597, q_79, q_754, q_595, q_596⟩, ⟨by decide, by decide, by decide +kernel⟩⟩
theorem lk_X4_31 : LkV RX4 31 yX4_mayKeep cX4_mayKeep 3 (some .int) 2 := ⟨⟨q_733, q_86, q_730, q_732, q_18⟩, ⟨by decide, by decide, by decide +kernel⟩⟩
theorem lk_X4_35 : LkV RX4 35 yX8_lengthOn cX8_lengthOn 5 (some .int) 2 := ⟨⟨q_580, q_79, q_742, q_578, q_579⟩, ⟨by decide, by decide, by decide +kernel⟩⟩
theorem lk_X4_38 : LkV RX4 38 yX4_letsRide cX4_letsRide 5 (some .boolean) 4 := ⟨⟨q_746, q_86, q_743, q_745, q_19⟩, ⟨by decide, by decide, by decide +kernel⟩⟩
theorem lk_X4_42 : LkS RX4 42 yJ6_bitCount_0f7a4 cJ6_bitCount_0f7a4 1 (some .int) 1 := ⟨⟨q_718, q_93, q_755, q_717⟩, ⟨by decide, by decide, by decide +kernel⟩⟩
theorem lk_X4_48 : LkV RX4 48 yX4_weightOf cX4_weightOf 2 (some .int) 1 := ⟨⟨q_768, q_86, q_765, q_767, q_20⟩, ⟨by decide, by decide, by decide +kernel⟩⟩
theorem lk_X4_51 : LkS RX4 51 yX4_endsRiding cX4_endsRiding 10 (some .boolean) 6 := ⟨⟨q_905, q_86, q_903, q_904⟩, ⟨by decide, by decide, by decide +kernel⟩⟩
theorem lk_X4_59 : LkN RX4 59 yX10_isIn cX10_isIn 2 (some .boolean) 2 := ⟨⟨q_753, q_78, by decide +kernel, q_752⟩, ⟨by decide, by decide, by decide +kernel⟩⟩
theorem lk_X4_66 : LkS RX4 66 yJ6_numberOfTrailingZeros_0f7a4 cJ6_numberOfTrailingZeros_0f7a4 2 (some .int) 1 := ⟨⟨q_908, q_93, q_906, q_907⟩, ⟨by decide, by decide, by decide +kernel⟩⟩
theorem lk_X5_61 : LkV RX5 61 yX5_write cX5_write 2 none 1 := ⟨⟨q_555, q_80, q_552, q_554, q_9⟩, ⟨by decide, by decide, by decide +kernel⟩⟩
theorem lk_X5_44 : LkV RX5 44 yX5_next cX5_next 1 (some .int) 0 := ⟨⟨q_544, q_80, q_541, q_543, q_7⟩, ⟨by decide, by decide, by decide +kernel⟩⟩
theorem lk_X5_75 : LkS RX5 75 yX5_isDigit cX5_isDigit 1 (some .boolean) 1 := ⟨⟨q_547, q_80, q_545, q_546⟩, ⟨by decide, by decide, by decide +kernel⟩⟩
theorem lk_X5_65 : LkV RX5 65 yX5_readPart cX5_readPart 3 none 2 := ⟨⟨q_536, q_80, q_533, q_535, q_5⟩, ⟨by decide, by decide, by decide +kernel⟩⟩
theorem lk_X5_72 : LkV RX5 72 yX5_readOperand cX5_readOperand 3 none 1 := ⟨⟨q_540, q_80, q_537, q_539, q_6⟩, ⟨by decide, by decide, by decide +kernel⟩⟩
theorem lk_X5_57 : LkV RX5 57 yX5_readLevel cX5_readLevel 6 none 2 := ⟨⟨q_532, q_80, q_529, q_531, q_4⟩, ⟨by decide, by decide, by decide +kernel⟩⟩
theorem lk_X5_48 : LkV RX5 48 yX5_fail cX5_fail 1 none 0 := ⟨⟨q_566, q_80, q_563, q_565, q_11⟩, ⟨by decide, by decide, by decide +kernel⟩⟩
theorem lk_X5_82 : LkS RX5 82 yX5_nameOf cX5_nameOf 1 (some .int) 1 := ⟨⟨q_558, q_80, q_556, q_557⟩, ⟨by decide, by decide, by decide +kernel⟩⟩
theorem lk_X5_85 : LkV RX5 85 yX5_readOpened cX5_readOpened 3 none 2 := ⟨⟨q_562, q_80, q_559, q_561, q_10⟩, ⟨by decide, by decide, by decide +kernel⟩⟩
theorem lk_X5_79 : LkV RX5 79 yX5_readNumber cX5_readNumber 3 none 0 := ⟨⟨q_551, q_80, q_548, q_550, q_8⟩, ⟨by decide, by decide, by decide +kernel⟩⟩
theorem lk_X5_41 : LkV RX5 41 yX5_readLine cX5_readLine 1 none 0 := ⟨⟨q_528, q_80, q_525, q_527, q_3⟩, ⟨by decide, by decide, by decide +kernel⟩⟩
theorem lk_X6_22 : LkV RX6 22 yX6_isBody cX6_isBody 2 (some .boolean) 1 := ⟨⟨q_1030, q_83, q_1027, q_1028, q_1029⟩, ⟨by decide, by decide, by decide +kernel⟩⟩
theorem lk_X6_43 : LkV RX6 43 yX6_run cX6_run 8 (some .int) 4 := ⟨⟨q_1039, q_83, q_1036, q_1038, q_29⟩, ⟨by decide, by decide, by decide +kernel⟩⟩
theorem lk_X6_47 : LkS RX6 47 yX6_kindWith cX6_kindWith 4 (some .int) 2 := ⟨⟨q_1042, q_83, q_1040, q_1041⟩, ⟨by decide, by decide, by decide +kernel⟩⟩
theorem lk_X6_54 : LkV RX6 54 yX6_note cX6_note 2 none 1 := ⟨⟨q_1050, q_83, q_1047, q_1049, q_30⟩, ⟨by decide, by decide, by decide +kernel⟩⟩
theorem lk_X6_39 : LkV RX6 39 yX6_own cX6_own 4 (some .int) 3 := ⟨⟨q_1035, q_83, q_1032, q_1034, q_28⟩, ⟨by decide, by decide, by decide +kernel⟩⟩
theorem lk_X6_58 : LkV RX6 58 yX6_fromAbove cX6_fromAbove 5 (some .int) 4 := ⟨⟨q_1054, q_83, q_1051, q_1053, q_31⟩, ⟨by decide, by decide, by decide +kernel⟩⟩
theorem lk_X6_32 : LkN RX6 32 yX10_within cX10_within 3 (some .boolean) 3 := ⟨⟨q_412, q_78, by decide +kernel, q_411⟩, ⟨by decide, by decide, by decide +kernel⟩⟩
theorem lk_J7_13 : LkS RJ7 13 yJ7_rangeCheck_23922 cJ7_rangeCheck_23922 3 none 3 := ⟨⟨q_1086, q_82, q_1084, q_1085⟩, ⟨by decide, by decide, by decide +kernel⟩⟩
theorem lk_X7_31 : LkS RX7 31 yJ7_fill_bad5a cJ7_fill_bad5a 6 none 4 := ⟨⟨q_1083, q_82, q_1081, q_1082⟩, ⟨by decide, by decide, by decide +kernel⟩⟩
theorem lk_X7_34 : LkV RX7 34 yX7_refusalOfRow cX7_refusalOfRow 3 (some .int) 2 := ⟨⟨q_452, q_81, q_1133, q_450, q_451⟩, ⟨by decide, by decide, by decide +kernel⟩⟩
theorem lk_X7_38 : LkV RX7 38 yX7_holdsRow cX7_holdsRow 2 (some .boolean) 1 := ⟨⟨q_1098, q_81, q_1095, q_1097, q_32⟩, ⟨by decide, by decide, by decide +kernel⟩⟩
theorem lk_X7_42 : LkV RX7 42 yX7_hasPlaces cX7_hasPlaces 4 (some .boolean) 3 := ⟨⟨q_460, q_81, q_1099, q_458, q_459⟩, ⟨by decide, by decide, by decide +kernel⟩⟩
theorem lk_X7_46 : LkS RX7 46 yX7_lowestBits cX7_lowestBits 3 (some .long) 2 := ⟨⟨q_1106, q_81, q_1104, q_1105⟩, ⟨by decide, by decide, by decide +kernel⟩⟩
theorem lk_X8_46 : LkV RX8 46 yX8_isOne cX8_isOne 2 (some .boolean) 1 := ⟨⟨q_428, q_79, q_425, q_426, q_427⟩, ⟨by decide, by decide, by decide +kernel⟩⟩
theorem lk_X8_50 : LkN RX8 50 yX10_isDay cX10_isDay 1 (some .boolean) 1 := ⟨⟨q_431, q_78, by decide +kernel, q_430⟩, ⟨by decide, by decide, by decide +kernel⟩⟩
theorem lk_X8_57 : LkV RX8 57 yX8_isPromise cX8_isPromise 2 (some .boolean) 1 := ⟨⟨q_476, q_79, q_473, q_474, q_475⟩, ⟨by decide, by decide, by decide +kernel⟩⟩
theorem lk_X9_49 : LkN RX9 49 yX10_isIn cX10_isIn 2 (some .boolean) 2 := ⟨⟨q_753, q_78, by decide +kernel, q_752⟩, ⟨by decide, by decide, by decide +kernel⟩⟩
theorem lk_X9_56 : LkS RX9 56 yJ9_min_7cf53 cJ9_min_7cf53 2 (some .int) 2 := ⟨⟨q_644, q_92, q_804, q_643⟩, ⟨by decide, by decide, by decide +kernel⟩⟩
theorem lk_X9_65 : LkS RX9 65 yJ9_max_7cf53 cJ9_max_7cf53 2 (some .int) 2 := ⟨⟨q_637, q_92, q_805, q_636⟩, ⟨by decide, by decide, by decide +kernel⟩⟩
theorem lk_X9_23 : LkV RX9 23 yX9_isSet cX9_isSet 2 (some .boolean) 1 := ⟨⟨q_794, q_87, q_791, q_793, q_22⟩, ⟨by decide, by decide, by decide +kernel⟩⟩
theorem lk_X9_37 : LkV RX9 37 yX9_eachLessOneFits cX9_eachLessOneFits 3 (some .boolean) 1 := ⟨⟨q_798, q_87, q_795, q_797, q_23⟩, ⟨by decide, by decide, by decide +kernel⟩⟩
theorem lk_X9_40 : LkV RX9 40 yX9_hasDaysForAll cX9_hasDaysForAll 6 (some .boolean) 1 := ⟨⟨q_803, q_87, q_800, q_802, q_24⟩, ⟨by decide, by decide, by decide +kernel⟩⟩
theorem lk_X9_19 : LkV RX9 19 yX9_fillFits cX9_fillFits 3 none 1 := ⟨⟨q_790, q_87, q_787, q_789, q_21⟩, ⟨by decide, by decide, by decide +kernel⟩⟩
theorem lk_X9_27 : LkS RX9 27 yJ6_bitCount_0f7a4 cJ6_bitCount_0f7a4 1 (some .int) 1 := ⟨⟨q_718, q_93, q_814, q_717⟩, ⟨by decide, by decide, by decide +kernel⟩⟩
theorem lk_X9_33 : LkV RX9 33 yX9_isClash cX9_isClash 3 (some .boolean) 2 := ⟨⟨q_826, q_87, q_823, q_825, q_25⟩, ⟨by decide, by decide, by decide +kernel⟩⟩
theorem lk_X10_91 : LkV RX10 91 yX8_addOne cX8_addOne 3 (some .int) 2 := ⟨⟨q_416, q_79, q_413, q_414, q_415⟩, ⟨by decide, by decide, by decide +kernel⟩⟩
theorem lk_X10_95 : LkV RX10 95 yX8_canPromise cX8_canPromise 5 (some .boolean) 4 := ⟨⟨q_424, q_79, q_421, q_422, q_423⟩, ⟨by decide, by decide, by decide +kernel⟩⟩
theorem lk_X10_99 : LkV RX10 99 yX8_isFull cX8_isFull 1 (some .boolean) 0 := ⟨⟨q_436, q_79, q_433, q_434, q_435⟩, ⟨by decide, by decide, by decide +kernel⟩⟩
theorem lk_X10_103 : LkV RX10 103 yX8_addPromise cX8_addPromise 5 (some .int) 4 := ⟨⟨q_440, q_79, q_437, q_438, q_439⟩, ⟨by decide, by decide, by decide +kernel⟩⟩
theorem lk_X10_118 : LkV RX10 118 yX7_hasPlaces cX7_hasPlaces 4 (some .boolean) 3 := ⟨⟨q_460, q_81, q_457, q_458, q_459⟩, ⟨by decide, by decide, by decide +kernel⟩⟩
theorem lk_X10_121 : LkV RX10 121 yX7_elementAt cX7_elementAt 3 (some .long) 2 := ⟨⟨q_464, q_81, q_461, q_462, q_463⟩, ⟨by decide, by decide, by decide +kernel⟩⟩
theorem lk_X10_107 : LkV RX10 107 yX7_isShelf cX7_isShelf 2 (some .boolean) 1 := ⟨⟨q_448, q_81, q_445, q_446, q_447⟩, ⟨by decide, by decide, by decide +kernel⟩⟩
theorem lk_X10_111 : LkV RX10 111 yX7_refusalOfRow cX7_refusalOfRow 3 (some .int) 2 := ⟨⟨q_452, q_81, q_449, q_450, q_451⟩, ⟨by decide, by decide, by decide +kernel⟩⟩
theorem lk_X10_114 : LkV RX10 114 yX10_promisesFromRow cX10_promisesFromRow 10 (some .int) 3 := ⟨⟨q_456, q_78, q_453, q_455, q_0⟩, ⟨by decide, by decide, by decide +kernel⟩⟩
theorem lk_X10_125 : LkV RX10 125 yX8_has cX8_has 3 (some .boolean) 2 := ⟨⟨q_472, q_79, q_469, q_470, q_471⟩, ⟨by decide, by decide, by decide +kernel⟩⟩
theorem lk_X10_129 : LkV RX10 129 yX8_canBecome cX8_canBecome 4 (some .boolean) 3 := ⟨⟨q_480, q_79, q_477, q_478, q_479⟩, ⟨by decide, by decide, by decide +kernel⟩⟩
theorem lk_X10_133 : LkV RX10 133 yX8_numberOf cX8_numberOf 3 (some .int) 2 := ⟨⟨q_485, q_79, q_482, q_483, q_484⟩, ⟨by decide, by decide, by decide +kernel⟩⟩
theorem lk_X10_136 : LkV RX10 136 yX0_add cX0_add 5 none 4 := ⟨⟨q_493, q_84, q_490, q_491, q_492⟩, ⟨by decide, by decide, by decide +kernel⟩⟩
theorem lk_X10_140 : LkV RX10 140 yX8_become cX8_become 4 none 3 := ⟨⟨q_504, q_79, q_501, q_502, q_503⟩, ⟨by decide, by decide, by decide +kernel⟩⟩
theorem lk_X10_147 : LkV RX10 147 yX5_take cX5_take 2 (some .int) 1 := ⟨⟨q_516, q_80, q_513, q_514, q_515⟩, ⟨by decide, by decide, by decide +kernel⟩⟩
theorem lk_X10_151 : LkV RX10 151 yX5_read cX5_read 2 (some .int) 0 := ⟨⟨q_524, q_80, q_521, q_522, q_523⟩, ⟨by decide, by decide, by decide +kernel⟩⟩
theorem lk_X10_155 : LkV RX10 155 yX8_isOne cX8_isOne 2 (some .boolean) 1 := ⟨⟨q_428, q_79, q_575, q_426, q_427⟩, ⟨by decide, by decide, by decide +kernel⟩⟩
theorem lk_X10_158 : LkS RX10 158 yX10_isDay cX10_isDay 1 (some .boolean) 1 := ⟨⟨q_431, q_78, q_576, q_430⟩, ⟨by decide, by decide, by decide +kernel⟩⟩
theorem lk_X10_161 : LkV RX10 161 yX8_lengthOn cX8_lengthOn 5 (some .int) 2 := ⟨⟨q_580, q_79, q_577, q_578, q_579⟩, ⟨by decide, by decide, by decide +kernel⟩⟩
theorem lk_X10_164 : LkV RX10 164 yX8_ridesOn cX8_ridesOn 3 (some .boolean) 2 := ⟨⟨q_592, q_79, q_589, q_590, q_591⟩, ⟨by decide, by decide, by decide +kernel⟩⟩
theorem lk_X10_167 : LkV RX10 167 yX1_ofOne cX1_ofOne 5 (some .int) 2 := ⟨⟨q_601, q_88, q_598, q_599, q_600⟩, ⟨by decide, by decide, by decide +kernel⟩⟩
theorem lk_X10_170 : LkV RX10 170 yX1_debtOf cX1_debtOf 5 (some .int) 2 := ⟨⟨q_650, q_88, q_647, q_648, q_649⟩, ⟨by decide, by decide, by decide +kernel⟩⟩
theorem lk_X10_173 : LkV RX10 173 yX8_isPromise cX8_isPromise 2 (some .boolean) 1 := ⟨⟨q_476, q_79, q_655, q_474, q_475⟩, ⟨by decide, by decide, by decide +kernel⟩⟩
theorem lk_X10_176 : LkV RX10 176 yX1_ofPromise cX1_ofPromise 6 (some .int) 2 := ⟨⟨q_606, q_88, q_656, q_604, q_605⟩, ⟨by decide, by decide, by decide +kernel⟩⟩
theorem lk_X10_182 : LkV RX10 182 yX2_ridesWithin cX2_ridesWithin 4 (some .int) 3 := ⟨⟨q_679, q_85, q_676, q_677, q_678⟩, ⟨by decide, by decide, by decide +kernel⟩⟩
theorem lk_X10_179 : LkV RX10 179 yX2_firstRideFrom cX2_firstRideFrom 4 (some .int) 2 := ⟨⟨q_664, q_85, q_661, q_662, q_663⟩, ⟨by decide, by decide, by decide +kernel⟩⟩
theorem lk_X10_185 : LkS RX10 185 yX10_isEither cX10_isEither 1 (some .boolean) 1 := ⟨⟨q_690, q_78, q_688, q_689⟩, ⟨by decide, by decide, by decide +kernel⟩⟩
theorem lk_X10_188 : LkV RX10 188 yX2_longestRideStart cX2_longestRideStart 6 (some .int) 1 := ⟨⟨q_694, q_85, q_691, q_692, q_693⟩, ⟨by decide, by decide, by decide +kernel⟩⟩
theorem lk_X10_191 : LkV RX10 191 yX2_rideFrom cX2_rideFrom 4 (some .int) 2 := ⟨⟨q_698, q_85, q_695, q_696, q_697⟩, ⟨by decide, by decide, by decide +kernel⟩⟩
theorem lk_X10_194 : LkV RX10 194 yX8_ridersOn cX8_ridersOn 4 (some .int) 1 := ⟨⟨q_706, q_79, q_703, q_704, q_705⟩, ⟨by decide, by decide, by decide +kernel⟩⟩
theorem lk_X10_197 : LkV RX10 197 yX2_fullestDay cX2_fullestDay 3 (some .int) 0 := ⟨⟨q_715, q_85, q_712, q_713, q_714⟩, ⟨by decide, by decide, by decide +kernel⟩⟩
theorem lk_X10_200 : LkS RX10 200 yJ6_bitCount_0f7a4 cJ6_bitCount_0f7a4 1 (some .int) 1 := ⟨⟨q_718, q_93, q_716, q_717⟩, ⟨by decide, by decide, by decide +kernel⟩⟩
theorem lk_X10_205 : LkV RX10 205 yX4_fewestSet cX4_fewestSet 8 (some .int) 2 := ⟨⟨q_729, q_86, q_726, q_727, q_728⟩, ⟨by decide, by decide, by decide +kernel⟩⟩
theorem lk_X10_208 : LkV RX10 208 yX4_lightestSet cX4_lightestSet 8 (some .int) 2 := ⟨⟨q_763, q_86, q_760, q_761, q_762⟩, ⟨by decide, by decide, by decide +kernel⟩⟩
theorem lk_X10_211 : LkV RX10 211 yX8_linksOf cX8_linksOf 4 (some .int) 1 := ⟨⟨q_750, q_79, q_769, q_748, q_749⟩, ⟨by decide, by decide, by decide +kernel⟩⟩
theorem lk_X10_214 : LkV RX10 214 yX4_howManySets cX4_howManySets 7 (some .int) 2 := ⟨⟨q_777, q_86, q_774, q_775, q_776⟩, ⟨by decide, by decide, by decide +kernel⟩⟩
theorem lk_X10_217 : LkV RX10 217 yX8_promisesOf cX8_promisesOf 4 (some .int) 1 := ⟨⟨q_737, q_79, q_782, q_735, q_736⟩, ⟨by decide, by decide, by decide +kernel⟩⟩
theorem lk_X10_220 : LkV RX10 220 yX9_canAll cX9_canAll 2 (some .boolean) 1 := ⟨⟨q_786, q_87, q_783, q_784, q_785⟩, ⟨by decide, by decide, by decide +kernel⟩⟩
theorem lk_X10_223 : LkV RX10 223 yX9_greatestSet cX9_greatestSet 4 (some .int) 1 := ⟨⟨q_813, q_87, q_810, q_811, q_812⟩, ⟨by decide, by decide, by decide +kernel⟩⟩
theorem lk_X10_229 : LkV RX10 229 yX9_leastClash cX9_leastClash 3 (some .int) 1 := ⟨⟨q_830, q_87, q_827, q_828, q_829⟩, ⟨by decide, by decide, by decide +kernel⟩⟩
theorem lk_X10_226 : LkV RX10 226 yX9_howManyClashes cX9_howManyClashes 4 (some .int) 1 := ⟨⟨q_822, q_87, q_819, q_820, q_821⟩, ⟨by decide, by decide, by decide +kernel⟩⟩
theorem lk_X10_236 : LkV RX10 236 yX8_isTied cX8_isTied 2 (some .boolean) 1 := ⟨⟨q_619, q_79, q_835, q_617, q_618⟩, ⟨by decide, by decide, by decide +kernel⟩⟩
theorem lk_X10_239 : LkV RX10 239 yX2_ridersIfHanded cX2_ridersIfHanded 8 (some .int) 3 := ⟨⟨q_839, q_85, q_836, q_837, q_838⟩, ⟨by decide, by decide, by decide +kernel⟩⟩
theorem lk_X10_242 : LkV RX10 242 yX2_bestHanding cX2_bestHanding 7 (some .int) 1 := ⟨⟨q_849, q_85, q_846, q_847, q_848⟩, ⟨by decide, by decide, by decide +kernel⟩⟩
theorem lk_X10_245 : LkV RX10 245 yX1_firstWrongDay cX1_firstWrongDay 4 (some .int) 2 := ⟨⟨q_861, q_88, q_858, q_859, q_860⟩, ⟨by decide, by decide, by decide +kernel⟩⟩
theorem lk_X10_248 : LkV RX10 248 yX1_compareOpenAndKept cX1_compareOpenAndKept 6 none 3 := ⟨⟨q_872, q_88, q_869, q_870, q_871⟩, ⟨by decide, by decide, by decide +kernel⟩⟩
theorem lk_X10_254 : LkV RX10 254 yX1_leastKept cX1_leastKept 3 (some .int) 1 := ⟨⟨q_884, q_88, q_881, q_882, q_883⟩, ⟨by decide, by decide, by decide +kernel⟩⟩
theorem lk_X10_251 : LkV RX10 251 yX1_howManyKepts cX1_howManyKepts 4 (some .int) 1 := ⟨⟨q_876, q_88, q_873, q_874, q_875⟩, ⟨by decide, by decide, by decide +kernel⟩⟩
theorem lk_X10_257 : LkV RX10 257 yX1_ownersOf cX1_ownersOf 4 (some .int) 1 := ⟨⟨q_892, q_88, q_889, q_890, q_891⟩, ⟨by decide, by decide, by decide +kernel⟩⟩
theorem lk_X10_263 : LkV RX10 263 yX4_winsByTurns cX4_winsByTurns 4 (some .boolean) 3 := ⟨⟨q_913, q_86, q_910, q_911, q_912⟩, ⟨by decide, by decide, by decide +kernel⟩⟩
theorem lk_X10_260 : LkV RX10 260 yX4_bestFirstTurn cX4_bestFirstTurn 7 (some .int) 3 := ⟨⟨q_901, q_86, q_898, q_899, q_900⟩, ⟨by decide, by decide, by decide +kernel⟩⟩
theorem lk_X10_266 : LkV RX10 266 yX1_loudestDay cX1_loudestDay 5 (some .int) 0 := ⟨⟨q_921, q_88, q_918, q_919, q_920⟩, ⟨by decide, by decide, by decide +kernel⟩⟩
theorem lk_X10_269 : LkV RX10 269 yX1_ofAll cX1_ofAll 4 (some .int) 1 := ⟨⟨q_925, q_88, q_926, q_923, q_924⟩, ⟨by decide, by decide, by decide +kernel⟩⟩
theorem lk_X10_272 : LkV RX10 272 yX2_drawnRides cX2_drawnRides 8 (some .int) 4 := ⟨⟨q_934, q_85, q_931, q_932, q_933⟩, ⟨by decide, by decide, by decide +kernel⟩⟩
theorem lk_X10_275 : LkV RX10 275 yX3_now cX3_now 1 (some .int) 0 := ⟨⟨q_947, q_89, q_944, q_945, q_946⟩, ⟨by decide, by decide, by decide +kernel⟩⟩
theorem lk_X10_278 : LkV RX10 278 yX3_endDay cX3_endDay 1 (some .int) 0 := ⟨⟨q_951, q_89, q_948, q_949, q_950⟩, ⟨by decide, by decide, by decide +kernel⟩⟩
theorem lk_X10_281 : LkV RX10 281 yX3_makePromise cX3_makePromise 4 (some .int) 3 := ⟨⟨q_961, q_89, q_958, q_959, q_960⟩, ⟨by decide, by decide, by decide +kernel⟩⟩
theorem lk_X10_284 : LkV RX10 284 yX8_isOpen cX8_isOpen 3 (some .boolean) 2 := ⟨⟨q_588, q_79, q_967, q_586, q_587⟩, ⟨by decide, by decide, by decide +kernel⟩⟩
theorem lk_X10_287 : LkV RX10 287 yX3_keepPromise cX3_keepPromise 2 (some .int) 1 := ⟨⟨q_971, q_89, q_968, q_969, q_970⟩, ⟨by decide, by decide, by decide +kernel⟩⟩
theorem lk_X10_293 : LkV RX10 293 yX3_keepImage cX3_keepImage 1 (some .int) 0 := ⟨⟨q_984, q_89, q_981, q_982, q_983⟩, ⟨by decide, by decide, by decide +kernel⟩⟩
theorem lk_X10_300 : LkV RX10 300 yX3_layBack cX3_layBack 1 (some .int) 0 := ⟨⟨q_993, q_89, q_990, q_991, q_992⟩, ⟨by decide, by decide, by decide +kernel⟩⟩
theorem lk_X10_306 : LkV RX10 306 yX0_stepBack cX0_stepBack 2 none 1 := ⟨⟨q_1001, q_84, q_998, q_999, q_1000⟩, ⟨by decide, by decide, by decide +kernel⟩⟩
theorem lk_X10_312 : LkV RX10 312 yX0_stepForward cX0_stepForward 2 none 1 := ⟨⟨q_1010, q_84, q_1007, q_1008, q_1009⟩, ⟨by decide, by decide, by decide +kernel⟩⟩
theorem lk_X10_318 : LkV RX10 318 yX6_add cX6_add 2 (some .int) 1 := ⟨⟨q_1018, q_83, q_1015, q_1016, q_1017⟩, ⟨by decide, by decide, by decide +kernel⟩⟩
theorem lk_X10_320 : LkV RX10 320 yX6_perform cX6_perform 4 (some .int) 3 := ⟨⟨q_1026, q_83, q_1023, q_1024, q_1025⟩, ⟨by decide, by decide, by decide +kernel⟩⟩
theorem lk_X10_326 : LkS RX10 326 yJ9_min_7cf53 cJ9_min_7cf53 2 (some .int) 2 := ⟨⟨q_644, q_92, q_1059, q_643⟩, ⟨by decide, by decide, by decide +kernel⟩⟩
theorem lk_X10_340 : LkV RX10 340 yX7_holdLink cX7_holdLink 3 (some .int) 2 := ⟨⟨q_1072, q_81, q_1069, q_1070, q_1071⟩, ⟨by decide, by decide, by decide +kernel⟩⟩
theorem lk_X10_337 : LkV RX10 337 yX7_clear cX7_clear 2 (some .int) 1 := ⟨⟨q_1068, q_81, q_1065, q_1066, q_1067⟩, ⟨by decide, by decide, by decide +kernel⟩⟩
theorem lk_X10_334 : LkV RX10 334 yX6_isBody cX6_isBody 2 (some .boolean) 1 := ⟨⟨q_1030, q_83, q_1064, q_1028, q_1029⟩, ⟨by decide, by decide, by decide +kernel⟩⟩
theorem lk_X10_343 : LkV RX10 343 yX7_holdRow cX7_holdRow 4 (some .int) 3 := ⟨⟨q_1080, q_81, q_1077, q_1078, q_1079⟩, ⟨by decide, by decide, by decide +kernel⟩⟩
theorem lk_X10_346 : LkV RX10 346 yX7_refusalOfPlace cX7_refusalOfPlace 3 (some .int) 2 := ⟨⟨q_1094, q_81, q_1091, q_1092, q_1093⟩, ⟨by decide, by decide, by decide +kernel⟩⟩
theorem lk_X10_349 : LkV RX10 349 yX7_putAt cX7_putAt 5 (some .int) 3 := ⟨⟨q_1103, q_81, q_1100, q_1101, q_1102⟩, ⟨by decide, by decide, by decide +kernel⟩⟩
theorem lk_X10_357 : LkV RX10 357 yX7_refusalOfPair cX7_refusalOfPair 3 (some .int) 2 := ⟨⟨q_1119, q_81, q_1116, q_1117, q_1118⟩, ⟨by decide, by decide, by decide +kernel⟩⟩
theorem lk_X10_360 : LkV RX10 360 yX7_move cX7_move 6 (some .int) 5 := ⟨⟨q_1123, q_81, q_1120, q_1121, q_1122⟩, ⟨by decide, by decide, by decide +kernel⟩⟩
theorem lk_X10_364 : LkV RX10 364 yX7_refusalOfLink cX7_refusalOfLink 2 (some .int) 1 := ⟨⟨q_1132, q_81, q_1129, q_1130, q_1131⟩, ⟨by decide, by decide, by decide +kernel⟩⟩
theorem lk_X10_370 : LkV RX10 370 yX6_kindOf cX6_kindOf 2 (some .int) 1 := ⟨⟨q_1137, q_83, q_1134, q_1135, q_1136⟩, ⟨by decide, by decide, by decide +kernel⟩⟩
theorem lk_X10_373 : LkS RX10 373 yX6_isUnder cX6_isUnder 4 (some .boolean) 2 := ⟨⟨q_1140, q_83, q_1138, q_1139⟩, ⟨by decide, by decide, by decide +kernel⟩⟩
theorem lk_X11_84 : LkS RX11 84 yX11_within cX11_within 6 (some .boolean) 3 := ⟨⟨q_1284, q_90, q_1282, q_1283⟩, ⟨by decide, by decide, by decide +kernel⟩⟩
theorem lk_X11_97 : LkV RX11 97 yX11_isOne cX11_isOne 3 (some .boolean) 1 := ⟨⟨q_1297, q_90, q_1294, q_1296, q_34⟩, ⟨by decide, by decide, by decide +kernel⟩⟩
theorem lk_X11_101 : LkS RX11 101 yX11_isDay cX11_isDay 2 (some .boolean) 1 := ⟨⟨q_1300, q_90, q_1298, q_1299⟩, ⟨by decide, by decide, by decide +kernel⟩⟩
theorem lk_X11_106 : LkV RX11 106 yX11_mayCome cX11_mayCome 9 (some .boolean) 4 := ⟨⟨q_1293, q_90, q_1290, q_1292, q_33⟩, ⟨by decide, by decide, by decide +kernel⟩⟩
theorem lk_X11_110 : LkV RX11 110 yX11_adds cX11_adds 5 (some .int) 4 := ⟨⟨q_1306, q_90, q_1303, q_1305, q_35⟩, ⟨by decide, by decide, by decide +kernel⟩⟩
theorem lk_X11_114 : LkS RX11 114 yX11_isShelf cX11_isShelf 1 (some .boolean) 1 := ⟨⟨q_1313, q_90, q_1311, q_1312⟩, ⟨by decide, by decide, by decide +kernel⟩⟩
theorem lk_X11_126 : LkV RX11 126 yX11_isPromise cX11_isPromise 3 (some .boolean) 1 := ⟨⟨q_1330, q_90, q_1327, q_1329, q_37⟩, ⟨by decide, by decide, by decide +kernel⟩⟩
theorem lk_X11_131 : LkV RX11 131 yX11_placeOf cX11_placeOf 3 (some .int) 2 := ⟨⟨q_1323, q_90, q_1320, q_1322, q_36⟩, ⟨by decide, by decide, by decide +kernel⟩⟩
theorem lk_X11_135 : LkV RX11 135 yX11_mayBecome cX11_mayBecome 4 (some .boolean) 3 := ⟨⟨q_1334, q_90, q_1331, q_1333, q_38⟩, ⟨by decide, by decide, by decide +kernel⟩⟩
theorem lk_X11_139 : LkV RX11 139 yX11_becomes cX11_becomes 5 (some .int) 2 := ⟨⟨q_1339, q_90, q_1336, q_1338, q_39⟩, ⟨by decide, by decide, by decide +kernel⟩⟩
theorem lk_X11_160 : LkV RX11 160 yX11_byteAt cX11_byteAt 1 (some .int) 0 := ⟨⟨q_1385, q_90, q_1382, q_1384, q_47⟩, ⟨by decide, by decide, by decide +kernel⟩⟩
theorem lk_X11_170 : LkV RX11 170 yX11_compared cX11_compared 4 (some .int) 0 := ⟨⟨q_1369, q_90, q_1366, q_1368, q_43⟩, ⟨by decide, by decide, by decide +kernel⟩⟩
theorem lk_X11_167 : LkV RX11 167 yX11_takes cX11_takes 2 (some .boolean) 1 := ⟨⟨q_1393, q_90, q_1390, q_1392, q_49⟩, ⟨by decide, by decide, by decide +kernel⟩⟩
theorem lk_X11_173 : LkV RX11 173 yX11_sums cX11_sums 4 (some .int) 0 := ⟨⟨q_1373, q_90, q_1370, q_1372, q_44⟩, ⟨by decide, by decide, by decide +kernel⟩⟩
theorem lk_X11_164 : LkV RX11 164 yX11_both cX11_both 3 (some .int) 0 := ⟨⟨q_1365, q_90, q_1362, q_1364, q_42⟩, ⟨by decide, by decide, by decide +kernel⟩⟩
theorem lk_X11_179 : LkV RX11 179 yX11_one cX11_one 5 (some .int) 0 := ⟨⟨q_1381, q_90, q_1378, q_1380, q_46⟩, ⟨by decide, by decide, by decide +kernel⟩⟩
theorem lk_X11_185 : LkV RX11 185 yX11_wrong cX11_wrong 1 (some .int) 0 := ⟨⟨q_1389, q_90, q_1386, q_1388, q_48⟩, ⟨by decide, by decide, by decide +kernel⟩⟩
theorem lk_X11_188 : LkV RX11 188 yX11_either cX11_either 3 (some .int) 0 := ⟨⟨q_1361, q_90, q_1358, q_1360, q_41⟩, ⟨by decide, by decide, by decide +kernel⟩⟩
theorem lk_X11_191 : LkS RX11 191 yX11_nameOf cX11_nameOf 1 (some .int) 1 := ⟨⟨q_1396, q_90, q_1394, q_1395⟩, ⟨by decide, by decide, by decide +kernel⟩⟩
theorem lk_X11_176 : LkV RX11 176 yX11_product cX11_product 4 (some .int) 0 := ⟨⟨q_1377, q_90, q_1374, q_1376, q_45⟩, ⟨by decide, by decide, by decide +kernel⟩⟩
theorem lk_X11_195 : LkV RX11 195 yX11_workOut cX11_workOut 8 (some .int) 2 := ⟨⟨q_1357, q_90, q_1354, q_1356, q_40⟩, ⟨by decide, by decide, by decide +kernel⟩⟩
theorem lk_X11_198 : LkV RX11 198 yX11_isOf cX11_isOf 3 (some .boolean) 2 := ⟨⟨q_1408, q_90, q_1405, q_1407, q_51⟩, ⟨by decide, by decide, by decide +kernel⟩⟩
theorem lk_X11_202 : LkV RX11 202 yX11_isOpen cX11_isOpen 3 (some .boolean) 2 := ⟨⟨q_1412, q_90, q_1409, q_1411, q_52⟩, ⟨by decide, by decide, by decide +kernel⟩⟩
theorem lk_X11_205 : LkV RX11 205 yX11_chainOf cX11_chainOf 5 (some .int) 2 := ⟨⟨q_1404, q_90, q_1401, q_1403, q_50⟩, ⟨by decide, by decide, by decide +kernel⟩⟩
theorem lk_X11_208 : LkV RX11 208 yX11_goesRound cX11_goesRound 3 (some .boolean) 2 := ⟨⟨q_1420, q_90, q_1417, q_1419, q_54⟩, ⟨by decide, by decide, by decide +kernel⟩⟩
theorem lk_X11_211 : LkV RX11 211 yX11_creakOf cX11_creakOf 5 (some .int) 2 := ⟨⟨q_1428, q_90, q_1425, q_1427, q_56⟩, ⟨by decide, by decide, by decide +kernel⟩⟩
theorem lk_X11_214 : LkV RX11 214 yX11_doesRide cX11_doesRide 3 (some .boolean) 2 := ⟨⟨q_1416, q_90, q_1413, q_1415, q_53⟩, ⟨by decide, by decide, by decide +kernel⟩⟩
theorem lk_X11_217 : LkV RX11 217 yX11_creaksOf cX11_creaksOf 5 (some .int) 2 := ⟨⟨q_1424, q_90, q_1421, q_1423, q_55⟩, ⟨by decide, by decide, by decide +kernel⟩⟩
theorem lk_X11_220 : LkV RX11 220 yX11_debtOf cX11_debtOf 5 (some .int) 2 := ⟨⟨q_1432, q_90, q_1429, q_1431, q_57⟩, ⟨by decide, by decide, by decide +kernel⟩⟩
theorem lk_X11_223 : LkV RX11 223 yX11_ridersOn cX11_ridersOn 4 (some .int) 1 := ⟨⟨q_1452, q_90, q_1449, q_1451, q_58⟩, ⟨by decide, by decide, by decide +kernel⟩⟩
theorem lk_X11_226 : LkS RX11 226 yX11_bitsOf cX11_bitsOf 3 (some .int) 1 := ⟨⟨q_1459, q_90, q_1457, q_1458⟩, ⟨by decide, by decide, by decide +kernel⟩⟩
theorem lk_X11_229 : LkS RX11 229 yX11_isIn cX11_isIn 2 (some .boolean) 2 := ⟨⟨q_1478, q_90, q_1476, q_1477⟩, ⟨by decide, by decide, by decide +kernel⟩⟩
theorem lk_X11_232 : LkV RX11 232 yX11_ownOpen cX11_ownOpen 5 (some .int) 2 := ⟨⟨q_1471, q_90, q_1468, q_1470, q_60⟩, ⟨by decide, by decide, by decide +kernel⟩⟩
theorem lk_X11_235 : LkV RX11 235 yX11_linksOf cX11_linksOf 4 (some .int) 1 := ⟨⟨q_1475, q_90, q_1472, q_1474, q_61⟩, ⟨by decide, by decide, by decide +kernel⟩⟩
theorem lk_X11_238 : LkV RX11 238 yX11_lets cX11_lets 4 (some .boolean) 3 := ⟨⟨q_1467, q_90, q_1464, q_1466, q_59⟩, ⟨by decide, by decide, by decide +kernel⟩⟩
theorem lk_X11_241 : LkV RX11 241 yX11_allOf cX11_allOf 4 (some .int) 1 := ⟨⟨q_1494, q_90, q_1491, q_1493, q_62⟩, ⟨by decide, by decide, by decide +kernel⟩⟩
theorem lk_X11_244 : LkV RX11 244 yX11_areAbleTo cX11_areAbleTo 5 (some .boolean) 1 := ⟨⟨q_1498, q_90, q_1495, q_1497, q_63⟩, ⟨by decide, by decide, by decide +kernel⟩⟩
theorem lk_X11_247 : LkV RX11 247 yX11_isClash cX11_isClash 3 (some .boolean) 1 := ⟨⟨q_1510, q_90, q_1507, q_1509, q_64⟩, ⟨by decide, by decide, by decide +kernel⟩⟩
theorem lk_X11_250 : LkV RX11 250 yX11_ridersBy cX11_ridersBy 6 (some .int) 3 := ⟨⟨q_1518, q_90, q_1515, q_1517, q_65⟩, ⟨by decide, by decide, by decide +kernel⟩⟩
theorem lk_X11_254 : LkV RX11 254 yX11_shortsIs cX11_shortsIs 2 (some .int) 1 := ⟨⟨q_1530, q_90, q_1527, q_1529, q_66⟩, ⟨by decide, by decide, by decide +kernel⟩⟩
theorem lk_X11_257 : LkV RX11 257 yX11_firstFalse cX11_firstFalse 4 (some .int) 2 := ⟨⟨q_1534, q_90, q_1531, q_1533, q_67⟩, ⟨by decide, by decide, by decide +kernel⟩⟩
theorem lk_X11_260 : LkV RX11 260 yX11_winsFrom cX11_winsFrom 7 (some .boolean) 5 := ⟨⟨q_1550, q_90, q_1547, q_1549, q_68⟩, ⟨by decide, by decide, by decide +kernel⟩⟩
theorem lk_X11_286 : LkV RX11 286 yX11_runs cX11_runs 2 none 1 := ⟨⟨q_1604, q_90, q_1601, q_1603, q_71⟩, ⟨by decide, by decide, by decide +kernel⟩⟩
theorem lk_X11_290 : LkV RX11 290 yX11_holdsAs cX11_holdsAs 3 (some .int) 2 := ⟨⟨q_1600, q_90, q_1597, q_1599, q_70⟩, ⟨by decide, by decide, by decide +kernel⟩⟩
theorem lk_X11_296 : LkV RX11 296 yX11_ridesAs cX11_ridesAs 4 (some .int) 2 := ⟨⟨q_1608, q_90, q_1605, q_1607, q_72⟩, ⟨by decide, by decide, by decide +kernel⟩⟩
theorem lk_X11_302 : LkV RX11 302 yX11_creaksAs cX11_creaksAs 4 (some .int) 2 := ⟨⟨q_1612, q_90, q_1609, q_1611, q_73⟩, ⟨by decide, by decide, by decide +kernel⟩⟩
theorem lk_X11_305 : LkV RX11 305 yX11_tellsAs cX11_tellsAs 4 (some .int) 2 := ⟨⟨q_1616, q_90, q_1613, q_1615, q_74⟩, ⟨by decide, by decide, by decide +kernel⟩⟩
theorem lk_X11_308 : LkV RX11 308 yX11_isBody cX11_isBody 2 (some .boolean) 1 := ⟨⟨q_1596, q_90, q_1593, q_1595, q_69⟩, ⟨by decide, by decide, by decide +kernel⟩⟩
theorem lk_X11_315 : LkV RX11 315 yX11_refusal cX11_refusal 3 (some .int) 2 := ⟨⟨q_1637, q_90, q_1634, q_1636, q_75⟩, ⟨by decide, by decide, by decide +kernel⟩⟩
theorem lk_X11_318 : LkS RX11 318 yX11_asSort cX11_asSort 3 (some .long) 2 := ⟨⟨q_1640, q_90, q_1638, q_1639⟩, ⟨by decide, by decide, by decide +kernel⟩⟩
theorem lk_X11_326 : LkV RX11 326 yX11_kindOf cX11_kindOf 2 (some .int) 1 := ⟨⟨q_1657, q_90, q_1654, q_1656, q_76⟩, ⟨by decide, by decide, by decide +kernel⟩⟩
theorem lk_X11_329 : LkS RX11 329 yX11_above cX11_above 1 (some .int) 1 := ⟨⟨q_1660, q_90, q_1658, q_1659⟩, ⟨by decide, by decide, by decide +kernel⟩⟩
