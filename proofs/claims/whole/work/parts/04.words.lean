def tbG : List Cond := lw_tbl.filter goodWord
theorem wd_pr {w : Cond} {i : Nat} (h : (k2_sels lw_privs)[i]? = some w) (g : goodWord w = true) : w ∈ tbG := List.mem_filter.mpr ⟨List.mem_append_left _ (List.mem_of_getElem? h), g⟩
theorem wd_t1 {w : Cond} {i : Nat} (h : tables_1_1[i]? = some w) (g : goodWord w = true) : w ∈ tbG := List.mem_filter.mpr ⟨List.mem_append_right _ (show w ∈ tables_1 from List.mem_append_left _ (List.mem_of_getElem? h)), g⟩
theorem wd_t2 {w : Cond} {i : Nat} (h : tables_1_2[i]? = some w) (g : goodWord w = true) : w ∈ tbG := List.mem_filter.mpr ⟨List.mem_append_right _ (show w ∈ tables_1 from List.mem_append_right _ (List.mem_append_left _ (List.mem_of_getElem? h))), g⟩
theorem wd_t3 {w : Cond} {i : Nat} (h : tables_1_3[i]? = some w) (g : goodWord w = true) : w ∈ tbG := List.mem_filter.mpr ⟨List.mem_append_right _ (show w ∈ tables_1 from List.mem_append_right _ (List.mem_append_right _ (List.mem_append_left _ (List.mem_of_getElem? h)))), g⟩
theorem wd_t4 {w : Cond} {i : Nat} (h : tables_1_4[i]? = some w) (g : goodWord w = true) : w ∈ tbG := List.mem_filter.mpr ⟨List.mem_append_right _ (show w ∈ tables_1 from List.mem_append_right _ (List.mem_append_right _ (List.mem_append_right _ (List.mem_append_left _ (List.mem_of_getElem? h))))), g⟩
theorem wd_t5 {w : Cond} {i : Nat} (h : tables_1_5[i]? = some w) (g : goodWord w = true) : w ∈ tbG := List.mem_filter.mpr ⟨List.mem_append_right _ (show w ∈ tables_1 from List.mem_append_right _ (List.mem_append_right _ (List.mem_append_right _ (List.mem_append_right _ (List.mem_append_left _ (List.mem_of_getElem? h)))))), g⟩
theorem wd_t6 {w : Cond} {i : Nat} (h : tables_1_6[i]? = some w) (g : goodWord w = true) : w ∈ tbG := List.mem_filter.mpr ⟨List.mem_append_right _ (show w ∈ tables_1 from List.mem_append_right _ (List.mem_append_right _ (List.mem_append_right _ (List.mem_append_right _ (List.mem_append_right _ (List.mem_append_left _ (List.mem_of_getElem? h))))))), g⟩
theorem wd_t7 {w : Cond} {i : Nat} (h : tables_1_7[i]? = some w) (g : goodWord w = true) : w ∈ tbG := List.mem_filter.mpr ⟨List.mem_append_right _ (show w ∈ tables_1 from List.mem_append_right _ (List.mem_append_right _ (List.mem_append_right _ (List.mem_append_right _ (List.mem_append_right _ (List.mem_append_right _ (List.mem_append_left _ (List.mem_of_getElem? h)))))))), g⟩
theorem wd_t8 {w : Cond} {i : Nat} (h : tables_1_8[i]? = some w) (g : goodWord w = true) : w ∈ tbG := List.mem_filter.mpr ⟨List.mem_append_right _ (show w ∈ tables_1 from List.mem_append_right _ (List.mem_append_right _ (List.mem_append_right _ (List.mem_append_right _ (List.mem_append_right _ (List.mem_append_right _ (List.mem_append_right _ (List.mem_append_left _ (List.mem_of_getElem? h))))))))), g⟩
theorem wd_t9 {w : Cond} {i : Nat} (h : tables_1_9[i]? = some w) (g : goodWord w = true) : w ∈ tbG := List.mem_filter.mpr ⟨List.mem_append_right _ (show w ∈ tables_1 from List.mem_append_right _ (List.mem_append_right _ (List.mem_append_right _ (List.mem_append_right _ (List.mem_append_right _ (List.mem_append_right _ (List.mem_append_right _ (List.mem_append_right _ (List.mem_append_left _ (List.mem_of_getElem? h)))))))))), g⟩
theorem wd_t10 {w : Cond} {i : Nat} (h : tables_1_10[i]? = some w) (g : goodWord w = true) : w ∈ tbG := List.mem_filter.mpr ⟨List.mem_append_right _ (show w ∈ tables_1 from List.mem_append_right _ (List.mem_append_right _ (List.mem_append_right _ (List.mem_append_right _ (List.mem_append_right _ (List.mem_append_right _ (List.mem_append_right _ (List.mem_append_right _ (List.mem_append_right _ (List.mem_of_getElem? h)))))))))), g⟩
theorem wd_0 : Cond.selects RX9 yX9_cell yX9_cell ∈ tbG := wd_pr (i := 0) rfl rfl
theorem wd_1 : Cond.selects RX11 yX11_refuseAct yX11_refuseAct ∈ tbG := wd_pr (i := 1) rfl rfl
theorem wd_2 : Cond.selects RX11 yX11_beginAct yX11_beginAct ∈ tbG := wd_pr (i := 2) rfl rfl
theorem wd_3 : Cond.selects RX11 yX11_forgetWork yX11_forgetWork ∈ tbG := wd_pr (i := 3) rfl rfl
theorem wd_4 : Cond.selects RX9 yX9_growthOf yX9_growthOf ∈ tbG := wd_pr (i := 4) rfl rfl
theorem wd_5 : Cond.selects RX8 yX8_operandAt yX8_operandAt ∈ tbG := wd_pr (i := 5) rfl rfl
theorem wd_6 : Cond.selects RX9 yX9_setCell yX9_setCell ∈ tbG := wd_pr (i := 6) rfl rfl
theorem wd_7 : Cond.selects RX1 yX1_layDay yX1_layDay ∈ tbG := wd_pr (i := 7) rfl rfl
theorem wd_8 : Cond.selects RX1 yX1_setNote yX1_setNote ∈ tbG := wd_pr (i := 8) rfl rfl
theorem wd_9 : Cond.selects RX11 yX11_lastDayAmong yX11_lastDayAmong ∈ tbG := wd_pr (i := 9) rfl rfl
theorem wd_10 : Cond.selects RX11 yX11_goingOf yX11_goingOf ∈ tbG := wd_pr (i := 10) rfl rfl
theorem wd_11 : Cond.selects RX7 yX7_behindOne yX7_behindOne ∈ tbG := wd_pr (i := 11) rfl rfl
theorem wd_12 : Cond.selects RX7 yX7_isRung yX7_isRung ∈ tbG := wd_pr (i := 12) rfl rfl
theorem wd_13 : Cond.selects RX11 yX11_soundingNow yX11_soundingNow ∈ tbG := wd_pr (i := 13) rfl rfl
theorem wd_14 : Cond.selects "java/lang/Throwable" ⟨"java/lang/Throwable", "fillInStackTrace", "(I)Ljava/lang/Throwable;"⟩ ⟨"java/lang/Throwable", "fillInStackTrace", "(I)Ljava/lang/Throwable;"⟩ ∈ tbG := wd_pr (i := 14) rfl rfl
theorem wd_15 : Cond.selects RX6 yX6_step yX6_step ∈ tbG := wd_pr (i := 15) rfl rfl
theorem wd_16 : Cond.selects RX6 yX6_byteAt yX6_byteAt ∈ tbG := wd_pr (i := 16) rfl rfl
theorem wd_17 : Cond.selects RX6 yX6_stepNumber yX6_stepNumber ∈ tbG := wd_pr (i := 17) rfl rfl
theorem wd_18 : Cond.selects RX6 yX6_readLine yX6_readLine ∈ tbG := wd_pr (i := 18) rfl rfl
theorem wd_19 : Cond.selects RX6 yX6_lineWord yX6_lineWord ∈ tbG := wd_pr (i := 19) rfl rfl
theorem wd_20 : Cond.selects RX6 yX6_isAtWord yX6_isAtWord ∈ tbG := wd_pr (i := 20) rfl rfl
theorem wd_21 : Cond.selects RX6 yX6_refuse yX6_refuse ∈ tbG := wd_pr (i := 21) rfl rfl
theorem wd_22 : Cond.selects RX6 yX6_readRoot yX6_readRoot ∈ tbG := wd_pr (i := 22) rfl rfl
theorem wd_23 : Cond.selects RX6 yX6_checkNumber yX6_checkNumber ∈ tbG := wd_pr (i := 23) rfl rfl
theorem wd_24 : Cond.selects RX6 yX6_readLineEnd yX6_readLineEnd ∈ tbG := wd_pr (i := 24) rfl rfl
theorem wd_25 : Cond.selects RX6 yX6_isAtSign yX6_isAtSign ∈ tbG := wd_pr (i := 25) rfl rfl
theorem wd_26 : Cond.selects RX6 yX6_readRow yX6_readRow ∈ tbG := wd_pr (i := 26) rfl rfl
theorem wd_27 : Cond.selects RX6 yX6_readLasts yX6_readLasts ∈ tbG := wd_pr (i := 27) rfl rfl
theorem wd_28 : Cond.selects RX6 yX6_readExpr yX6_readExpr ∈ tbG := wd_pr (i := 28) rfl rfl
theorem wd_29 : Cond.selects RX6 yX6_isExprWhole yX6_isExprWhole ∈ tbG := wd_pr (i := 29) rfl rfl
theorem wd_30 : Cond.selects RX6 yX6_readOperator yX6_readOperator ∈ tbG := wd_pr (i := 30) rfl rfl
theorem wd_31 : Cond.selects RX8 yX8_putWaiting yX8_putWaiting ∈ tbG := wd_pr (i := 31) rfl rfl
theorem wd_32 : Cond.selects RX6 yX6_operatorHere yX6_operatorHere ∈ tbG := wd_pr (i := 32) rfl rfl
theorem wd_33 : Cond.selects RX6 yX6_readOperand yX6_readOperand ∈ tbG := wd_pr (i := 33) rfl rfl
theorem wd_34 : Cond.selects RX6 yX6_valueWord yX6_valueWord ∈ tbG := wd_pr (i := 34) rfl rfl
theorem wd_35 : Cond.selects RX11 yX11_hangingBits yX11_hangingBits ∈ tbG := wd_pr (i := 35) rfl rfl
theorem wd_36 : Cond.selects RX11 yX11_bitsAt yX11_bitsAt ∈ tbG := wd_pr (i := 36) rfl rfl
theorem wd_37 : Cond.selects RX11 yX11_checkRoot yX11_checkRoot ∈ tbG := wd_pr (i := 37) rfl rfl
theorem wd_38 : Cond.selects RX11 yX11_checkHook yX11_checkHook ∈ tbG := wd_pr (i := 38) rfl rfl
theorem wd_39 : Cond.selects RX11 yX11_checkChange yX11_checkChange ∈ tbG := wd_pr (i := 39) rfl rfl
theorem wd_40 : Cond.selects RX11 yX11_checkFar yX11_checkFar ∈ tbG := wd_pr (i := 40) rfl rfl
theorem wd_41 : Cond.selects RX11 yX11_goingBefore yX11_goingBefore ∈ tbG := wd_pr (i := 41) rfl rfl
theorem wd_42 : Cond.selects RX11 yX11_goingRank yX11_goingRank ∈ tbG := wd_pr (i := 42) rfl rfl
theorem wd_43 : Cond.selects RX11 yX11_checkChanges yX11_checkChanges ∈ tbG := wd_pr (i := 43) rfl rfl
theorem wd_44 : Cond.selects RX7 yX7_rowBehind yX7_rowBehind ∈ tbG := wd_pr (i := 44) rfl rfl
theorem wd_45 : Cond.selects RX2 yX2_findNeeds yX2_findNeeds ∈ tbG := wd_pr (i := 45) rfl rfl
theorem wd_46 : Cond.selects RX2 yX2_leastBehind yX2_leastBehind ∈ tbG := wd_pr (i := 46) rfl rfl
theorem wd_47 : Cond.selects RX2 yX2_leastBy yX2_leastBy ∈ tbG := wd_pr (i := 47) rfl rfl
theorem wd_48 : Cond.selects RX2 yX2_firstBest yX2_firstBest ∈ tbG := wd_pr (i := 48) rfl rfl
theorem wd_49 : Cond.selects RX11 yX11_checkTwo yX11_checkTwo ∈ tbG := wd_pr (i := 49) rfl rfl
theorem wd_50 : Cond.selects RX3 yX3_unlikeSets yX3_unlikeSets ∈ tbG := wd_pr (i := 50) rfl rfl
theorem wd_51 : Cond.selects RX3 yX3_withSet yX3_withSet ∈ tbG := wd_pr (i := 51) rfl rfl
theorem wd_52 : Cond.selects RX11 yX11_mostChoice yX11_mostChoice ∈ tbG := wd_pr (i := 52) rfl rfl
theorem wd_53 : Cond.selects RX11 yX11_isContent yX11_isContent ∈ tbG := wd_pr (i := 53) rfl rfl
theorem wd_54 : Cond.selects RX11 yX11_gainOf yX11_gainOf ∈ tbG := wd_pr (i := 54) rfl rfl
theorem wd_55 : Cond.selects RX10 yX10_draw yX10_draw ∈ tbG := wd_pr (i := 55) rfl rfl
theorem wd_56 : Cond.selects RX11 yX11_checkNote yX11_checkNote ∈ tbG := wd_pr (i := 56) rfl rfl
theorem wd_57 : Cond.selects RX11 yX11_isBeyond yX11_isBeyond ∈ tbG := wd_pr (i := 57) rfl rfl
theorem wd_58 : Cond.selects RX7 yX7_bellOf yX7_bellOf ∈ tbG := wd_pr (i := 58) rfl rfl
theorem wd_59 : Cond.selects RX7 yX7_placeIn yX7_placeIn ∈ tbG := wd_pr (i := 59) rfl rfl
theorem wd_60 : Cond.selects RX12 yX12_lays yX12_lays ∈ tbG := wd_pr (i := 60) rfl rfl
theorem wd_61 : Cond.selects RX12 yX12_right yX12_right ∈ tbG := wd_pr (i := 61) rfl rfl
theorem wd_62 : Cond.selects RX12 yX12_reads yX12_reads ∈ tbG := wd_pr (i := 62) rfl rfl
theorem wd_63 : Cond.selects RX12 yX12_byteAt yX12_byteAt ∈ tbG := wd_pr (i := 63) rfl rfl
theorem wd_64 : Cond.selects RX12 yX12_isGood yX12_isGood ∈ tbG := wd_pr (i := 64) rfl rfl
theorem wd_65 : Cond.selects RX12 yX12_line yX12_line ∈ tbG := wd_pr (i := 65) rfl rfl
theorem wd_66 : Cond.selects RX12 yX12_knownWord yX12_knownWord ∈ tbG := wd_pr (i := 66) rfl rfl
theorem wd_67 : Cond.selects RX12 yX12_readsRoot yX12_readsRoot ∈ tbG := wd_pr (i := 67) rfl rfl
theorem wd_68 : Cond.selects RX12 yX12_wrong yX12_wrong ∈ tbG := wd_pr (i := 68) rfl rfl
theorem wd_69 : Cond.selects RX12 yX12_number yX12_number ∈ tbG := wd_pr (i := 69) rfl rfl
theorem wd_70 : Cond.selects RX12 yX12_hangsThere yX12_hangsThere ∈ tbG := wd_pr (i := 70) rfl rfl
theorem wd_71 : Cond.selects RX12 yX12_begins yX12_begins ∈ tbG := wd_pr (i := 71) rfl rfl
theorem wd_72 : Cond.selects RX12 yX12_readsMany yX12_readsMany ∈ tbG := wd_pr (i := 72) rfl rfl
theorem wd_73 : Cond.selects RX12 yX12_expression yX12_expression ∈ tbG := wd_pr (i := 73) rfl rfl
theorem wd_74 : Cond.selects RX12 yX12_deeper yX12_deeper ∈ tbG := wd_pr (i := 74) rfl rfl
theorem wd_75 : Cond.selects RX12 yX12_isSign yX12_isSign ∈ tbG := wd_pr (i := 75) rfl rfl
theorem wd_76 : Cond.selects RX12 yX12_operand yX12_operand ∈ tbG := wd_pr (i := 76) rfl rfl
theorem wd_77 : Cond.selects RX12 yX12_waitsFor yX12_waitsFor ∈ tbG := wd_pr (i := 77) rfl rfl
theorem wd_78 : Cond.selects RX12 yX12_part yX12_part ∈ tbG := wd_pr (i := 78) rfl rfl
theorem wd_79 : Cond.selects RX12 yX12_puts yX12_puts ∈ tbG := wd_pr (i := 79) rfl rfl
theorem wd_80 : Cond.selects RX12 yX12_drops yX12_drops ∈ tbG := wd_pr (i := 80) rfl rfl
theorem wd_81 : Cond.selects RX12 yX12_isOpened yX12_isOpened ∈ tbG := wd_pr (i := 81) rfl rfl
theorem wd_82 : Cond.selects RX12 yX12_closes yX12_closes ∈ tbG := wd_pr (i := 82) rfl rfl
theorem wd_83 : Cond.selects RX12 yX12_need yX12_need ∈ tbG := wd_pr (i := 83) rfl rfl
theorem wd_84 : Cond.selects RX12 yX12_copies yX12_copies ∈ tbG := wd_pr (i := 84) rfl rfl
theorem wd_85 : Cond.selects RX12 yX12_bells yX12_bells ∈ tbG := wd_pr (i := 85) rfl rfl
theorem wd_86 : Cond.selects RX12 yX12_whereIn yX12_whereIn ∈ tbG := wd_pr (i := 86) rfl rfl
theorem wd_87 : Cond.selects RX12 yX12_weatherOf yX12_weatherOf ∈ tbG := wd_pr (i := 87) rfl rfl
theorem wd_88 : Cond.selects RX12 yX12_soundingIn yX12_soundingIn ∈ tbG := wd_pr (i := 88) rfl rfl
theorem wd_89 : Cond.selects RX12 yX12_sounds yX12_sounds ∈ tbG := wd_pr (i := 89) rfl rfl
theorem wd_90 : Cond.selects RX12 yX12_hangs yX12_hangs ∈ tbG := wd_pr (i := 90) rfl rfl
theorem wd_91 : Cond.selects RX12 yX12_notesIn yX12_notesIn ∈ tbG := wd_pr (i := 91) rfl rfl
theorem wd_92 : Cond.selects RX12 yX12_noteOf yX12_noteOf ∈ tbG := wd_pr (i := 92) rfl rfl
theorem wd_93 : Cond.selects RX12 yX12_tells yX12_tells ∈ tbG := wd_pr (i := 93) rfl rfl
theorem wd_94 : Cond.selects RX12 yX12_reckons yX12_reckons ∈ tbG := wd_pr (i := 94) rfl rfl
theorem wd_95 : Cond.selects RX12 yX12_isRoot yX12_isRoot ∈ tbG := wd_pr (i := 95) rfl rfl
theorem wd_96 : Cond.selects RX12 yX12_isWhat yX12_isWhat ∈ tbG := wd_pr (i := 96) rfl rfl
theorem wd_97 : Cond.selects RX12 yX12_mayBe yX12_mayBe ∈ tbG := wd_pr (i := 97) rfl rfl
theorem wd_98 : Cond.selects RX12 yX12_refuses yX12_refuses ∈ tbG := wd_pr (i := 98) rfl rfl
theorem wd_99 : Cond.selects RX12 yX12_keeps yX12_keeps ∈ tbG := wd_pr (i := 99) rfl rfl
theorem wd_100 : Cond.selects RX12 yX12_dayGoes yX12_dayGoes ∈ tbG := wd_pr (i := 100) rfl rfl
theorem wd_101 : Cond.selects RX12 yX12_growth yX12_growth ∈ tbG := wd_pr (i := 101) rfl rfl
theorem wd_102 : Cond.selects RX12 yX12_isDays yX12_isDays ∈ tbG := wd_pr (i := 102) rfl rfl
theorem wd_103 : Cond.selects RX12 yX12_daysGo yX12_daysGo ∈ tbG := wd_pr (i := 103) rfl rfl
theorem wd_104 : Cond.selects RX12 yX12_tries yX12_tries ∈ tbG := wd_pr (i := 104) rfl rfl
theorem wd_105 : Cond.selects RX12 yX12_softIn yX12_softIn ∈ tbG := wd_pr (i := 105) rfl rfl
theorem wd_106 : Cond.selects RX12 yX12_hasTune yX12_hasTune ∈ tbG := wd_pr (i := 106) rfl rfl
theorem wd_107 : Cond.selects RX12 yX12_laysSoft yX12_laysSoft ∈ tbG := wd_pr (i := 107) rfl rfl
theorem wd_108 : Cond.selects RX12 yX12_isRow yX12_isRow ∈ tbG := wd_pr (i := 108) rfl rfl
theorem wd_109 : Cond.selects RX12 yX12_ringsMany yX12_ringsMany ∈ tbG := wd_pr (i := 109) rfl rfl
theorem wd_110 : Cond.selects RX12 yX12_rounds yX12_rounds ∈ tbG := wd_pr (i := 110) rfl rfl
theorem wd_111 : Cond.selects RX12 yX12_rings0 yX12_rings0 ∈ tbG := wd_pr (i := 111) rfl rfl
theorem wd_112 : Cond.selects RX12 yX12_rowNumber yX12_rowNumber ∈ tbG := wd_pr (i := 112) rfl rfl
theorem wd_113 : Cond.selects RX12 yX12_lengthNow yX12_lengthNow ∈ tbG := wd_pr (i := 113) rfl rfl
theorem wd_114 : Cond.selects RX12 yX12_laysFit yX12_laysFit ∈ tbG := wd_pr (i := 114) rfl rfl
theorem wd_115 : Cond.selects RX12 yX12_costOf yX12_costOf ∈ tbG := wd_pr (i := 115) rfl rfl
theorem wd_116 : Cond.selects RX12 yX12_fitOf yX12_fitOf ∈ tbG := wd_pr (i := 116) rfl rfl
theorem wd_117 : Cond.selects RX12 yX12_notesOf yX12_notesOf ∈ tbG := wd_pr (i := 117) rfl rfl
theorem wd_118 : Cond.selects RX12 yX12_isHeard yX12_isHeard ∈ tbG := wd_pr (i := 118) rfl rfl
theorem wd_119 : Cond.selects RX12 yX12_isGuess yX12_isGuess ∈ tbG := wd_pr (i := 119) rfl rfl
theorem wd_120 : Cond.selects RX12 yX12_gains yX12_gains ∈ tbG := wd_pr (i := 120) rfl rfl
theorem wd_121 : Cond.selects RX12 yX12_noteWith yX12_noteWith ∈ tbG := wd_pr (i := 121) rfl rfl
theorem wd_122 : Cond.selects RX12 yX12_happens yX12_happens ∈ tbG := wd_pr (i := 122) rfl rfl
theorem wd_123 : Cond.selects RX12 yX12_draw yX12_draw ∈ tbG := wd_pr (i := 123) rfl rfl
theorem wd_124 : Cond.selects RX12 yX12_isNote yX12_isNote ∈ tbG := wd_pr (i := 124) rfl rfl
theorem wd_125 : Cond.selects RX12 yX12_placeOf yX12_placeOf ∈ tbG := wd_pr (i := 125) rfl rfl
theorem wd_126 : Cond.initialized RL ∈ tbG := wd_t1 (i := 0) rfl rfl
theorem wd_127 : Cond.initialized RX11 ∈ tbG := wd_t1 (i := 1) rfl rfl
theorem wd_128 : Cond.initialized RX6 ∈ tbG := wd_t1 (i := 2) rfl rfl
theorem wd_129 : Cond.initialized RX5 ∈ tbG := wd_t1 (i := 3) rfl rfl
theorem wd_130 : Cond.initialized RX8 ∈ tbG := wd_t1 (i := 4) rfl rfl
theorem wd_131 : Cond.initialized RX9 ∈ tbG := wd_t1 (i := 5) rfl rfl
theorem wd_132 : Cond.initialized RX0 ∈ tbG := wd_t1 (i := 6) rfl rfl
theorem wd_133 : Cond.initialized RX4 ∈ tbG := wd_t1 (i := 7) rfl rfl
theorem wd_134 : Cond.initialized RX1 ∈ tbG := wd_t1 (i := 8) rfl rfl
theorem wd_135 : Cond.initialized RX7 ∈ tbG := wd_t1 (i := 9) rfl rfl
theorem wd_136 : Cond.initialized RX2 ∈ tbG := wd_t1 (i := 10) rfl rfl
theorem wd_137 : Cond.initialized RX3 ∈ tbG := wd_t1 (i := 11) rfl rfl
theorem wd_138 : Cond.initialized RX10 ∈ tbG := wd_t1 (i := 12) rfl rfl
theorem wd_139 : Cond.initialized RX12 ∈ tbG := wd_t1 (i := 13) rfl rfl
theorem wd_140 : Cond.initialized "java/lang/Throwable" ∈ tbG := wd_t1 (i := 14) rfl rfl
theorem wd_141 : Cond.initialized "java/lang/Exception" ∈ tbG := wd_t1 (i := 15) rfl rfl
theorem wd_142 : Cond.initialized "java/lang/RuntimeException" ∈ tbG := wd_t1 (i := 16) rfl rfl
theorem wd_143 : Cond.initialized "java/lang/IllegalArgumentException" ∈ tbG := wd_t1 (i := 17) rfl rfl
theorem wd_144 : Cond.initialized "java/lang/String" ∈ tbG := wd_t1 (i := 18) rfl rfl
theorem wd_145 : Cond.initialized "java/lang/StringLatin1" ∈ tbG := wd_t1 (i := 19) rfl rfl
theorem wd_146 : Cond.initialized "jdk/internal/util/Preconditions" ∈ tbG := wd_t1 (i := 20) rfl rfl
theorem wd_147 : Cond.initialized "java/lang/StringUTF16" ∈ tbG := wd_t1 (i := 21) rfl rfl
theorem wd_148 : Cond.initialized "java/lang/Math" ∈ tbG := wd_t1 (i := 22) rfl rfl
theorem wd_149 : Cond.initialized "java/lang/System" ∈ tbG := wd_t1 (i := 23) rfl rfl
theorem wd_150 : Cond.initialized "java/lang/Integer" ∈ tbG := wd_t1 (i := 24) rfl rfl
theorem wd_151 : Cond.initialized "java/util/NoSuchElementException" ∈ tbG := wd_t1 (i := 25) rfl rfl
theorem wd_152 : Cond.classLink RL 8 RX11 ∈ tbG := wd_t1 (i := 26) rfl rfl
theorem wd_153 : Cond.instantiable RX11 16 ∈ tbG := wd_t1 (i := 27) rfl rfl
theorem wd_154 : Cond.methodLink RL 107 yX11_init ∈ tbG := wd_t1 (i := 28) rfl rfl
theorem wd_155 : Cond.instanceMethod yX11_init ∈ tbG := wd_t1 (i := 29) rfl rfl
theorem wd_156 : Cond.code yX11_init cX11_init 1 none ∈ tbG := wd_t1 (i := 30) rfl rfl
theorem wd_157 : Cond.methodLink RX11 1 ⟨"java/lang/Object", "<init>", "()V"⟩ ∈ tbG := wd_t1 (i := 31) rfl rfl
theorem wd_158 : Cond.instanceMethod ⟨"java/lang/Object", "<init>", "()V"⟩ ∈ tbG := wd_t1 (i := 32) rfl rfl
theorem wd_159 : Cond.code ⟨"java/lang/Object", "<init>", "()V"⟩ object_method_1_code 1 none ∈ tbG := wd_t1 (i := 33) rfl rfl
theorem wd_160 : Cond.classLink RX11 7 RX6 ∈ tbG := wd_t1 (i := 34) rfl rfl
theorem wd_161 : Cond.instantiable RX6 17 ∈ tbG := wd_t1 (i := 35) rfl rfl
theorem wd_163 : Cond.instanceMethod yX6_init ∈ tbG := wd_t1 (i := 37) rfl rfl
theorem wd_164 : Cond.code yX6_init cX6_init 1 none ∈ tbG := wd_t1 (i := 38) rfl rfl
theorem wd_165 : Cond.methodLink RX6 3 ⟨"java/lang/Object", "<init>", "()V"⟩ ∈ tbG := wd_t1 (i := 39) rfl rfl
theorem wd_166 : Cond.classLink RX6 46 RX5 ∈ tbG := wd_t1 (i := 40) rfl rfl
theorem wd_167 : Cond.instantiable RX5 12 ∈ tbG := wd_t1 (i := 41) rfl rfl
theorem wd_169 : Cond.instanceMethod yX5_init ∈ tbG := wd_t1 (i := 43) rfl rfl
theorem wd_170 : Cond.code yX5_init cX5_init 1 none ∈ tbG := wd_t1 (i := 44) rfl rfl
theorem wd_171 : Cond.methodLink RX5 3 ⟨"java/lang/Object", "<init>", "()V"⟩ ∈ tbG := wd_t1 (i := 45) rfl rfl
theorem wd_172 : Cond.classLink RX5 40 RX8 ∈ tbG := wd_t1 (i := 46) rfl rfl
theorem wd_173 : Cond.instantiable RX8 7 ∈ tbG := wd_t1 (i := 47) rfl rfl
theorem wd_175 : Cond.instanceMethod yX8_init ∈ tbG := wd_t1 (i := 49) rfl rfl
theorem wd_176 : Cond.code yX8_init cX8_init 1 none ∈ tbG := wd_t1 (i := 50) rfl rfl
theorem wd_177 : Cond.methodLink RX8 3 ⟨"java/lang/Object", "<init>", "()V"⟩ ∈ tbG := wd_t1 (i := 51) rfl rfl
theorem wd_178 : Cond.fieldLink RX8 9 RX8 "steps" "[I" ∈ tbG := wd_t1 (i := 52) rfl rfl
theorem wd_179 : Cond.fieldLink RX8 15 RX8 "operands" "[I" ∈ tbG := wd_t1 (i := 53) rfl rfl
theorem wd_180 : Cond.fieldLink RX8 18 RX8 "waiting" "[I" ∈ tbG := wd_t1 (i := 54) rfl rfl
theorem wd_181 : Cond.fieldLink RX8 21 RX8 "values" "[I" ∈ tbG := wd_t1 (i := 55) rfl rfl
theorem wd_182 : Cond.fieldLink RX8 24 RX8 "stack" "[I" ∈ tbG := wd_t1 (i := 56) rfl rfl
theorem wd_183 : Cond.fieldLink RX8 27 RX8 "many" "I" ∈ tbG := wd_t1 (i := 57) rfl rfl
theorem wd_184 : Cond.fieldLink RX8 31 RX8 "waits" "I" ∈ tbG := wd_t1 (i := 58) rfl rfl
theorem wd_200 : Cond.arrayClass FieldType.byte ∈ tbG := wd_t1 (i := 74) rfl rfl
theorem wd_201 : Cond.arrayClass FieldType.int ∈ tbG := wd_t1 (i := 75) rfl rfl
theorem wd_202 : Cond.classLink RX5 50 RX9 ∈ tbG := wd_t1 (i := 76) rfl rfl
theorem wd_203 : Cond.instantiable RX9 1 ∈ tbG := wd_t1 (i := 77) rfl rfl
theorem wd_205 : Cond.instanceMethod yX9_init ∈ tbG := wd_t1 (i := 79) rfl rfl
theorem wd_206 : Cond.code yX9_init cX9_init 1 none ∈ tbG := wd_t1 (i := 80) rfl rfl
theorem wd_207 : Cond.methodLink RX9 5 ⟨"java/lang/Object", "<init>", "()V"⟩ ∈ tbG := wd_t1 (i := 81) rfl rfl
theorem wd_208 : Cond.fieldLink RX9 11 RX9 "cells" "[I" ∈ tbG := wd_t1 (i := 82) rfl rfl
theorem wd_212 : Cond.fieldLink RX5 9 RX5 "kinds" "[I" ∈ tbG := wd_t1 (i := 86) rfl rfl
theorem wd_213 : Cond.fieldLink RX5 15 RX5 "weather" "[I" ∈ tbG := wd_t1 (i := 87) rfl rfl
theorem wd_214 : Cond.fieldLink RX5 18 RX5 "tuneRow" "[I" ∈ tbG := wd_t1 (i := 88) rfl rfl
theorem wd_215 : Cond.fieldLink RX5 21 RX5 "roots" "I" ∈ tbG := wd_t1 (i := 89) rfl rfl
theorem wd_216 : Cond.fieldLink RX7 28 RX5 "roots" "I" ∈ tbG := wd_t1 (i := 90) rfl rfl
theorem wd_217 : Cond.fieldLink RX2 34 RX5 "roots" "I" ∈ tbG := wd_t1 (i := 91) rfl rfl
theorem wd_218 : Cond.fieldLink RX10 31 RX5 "roots" "I" ∈ tbG := wd_t1 (i := 92) rfl rfl
theorem wd_219 : Cond.fieldLink RX1 53 RX5 "roots" "I" ∈ tbG := wd_t1 (i := 93) rfl rfl
theorem wd_220 : Cond.fieldLink RX11 140 RX5 "roots" "I" ∈ tbG := wd_t1 (i := 94) rfl rfl
theorem wd_221 : Cond.fieldLink RX9 86 RX5 "roots" "I" ∈ tbG := wd_t1 (i := 95) rfl rfl
theorem wd_222 : Cond.fieldLink RX6 196 RX5 "roots" "I" ∈ tbG := wd_t1 (i := 96) rfl rfl
theorem wd_223 : Cond.fieldLink RX5 25 RX5 "weathers" "I" ∈ tbG := wd_t1 (i := 97) rfl rfl
theorem wd_224 : Cond.fieldLink RX5 28 RX5 "lasting" "I" ∈ tbG := wd_t1 (i := 98) rfl rfl
theorem wd_225 : Cond.fieldLink RX1 62 RX5 "lasting" "I" ∈ tbG := wd_t1 (i := 99) rfl rfl
theorem wd_226 : Cond.fieldLink RX10 53 RX5 "lasting" "I" ∈ tbG := wd_t1 (i := 100) rfl rfl
theorem wd_227 : Cond.fieldLink RX11 157 RX5 "lasting" "I" ∈ tbG := wd_t1 (i := 101) rfl rfl
theorem wd_228 : Cond.fieldLink RX6 180 RX5 "lasting" "I" ∈ tbG := wd_t1 (i := 102) rfl rfl
theorem wd_229 : Cond.fieldLink RX5 31 RX5 "tuneNotes" "I" ∈ tbG := wd_t1 (i := 103) rfl rfl
theorem wd_230 : Cond.fieldLink RX2 29 RX5 "tuneNotes" "I" ∈ tbG := wd_t1 (i := 104) rfl rfl
theorem wd_231 : Cond.fieldLink RX11 160 RX5 "tuneNotes" "I" ∈ tbG := wd_t1 (i := 105) rfl rfl
theorem wd_232 : Cond.fieldLink RX5 34 RX5 "tuneBits" "I" ∈ tbG := wd_t1 (i := 106) rfl rfl
theorem wd_233 : Cond.fieldLink RX11 320 RX5 "tuneBits" "I" ∈ tbG := wd_t1 (i := 107) rfl rfl
theorem wd_234 : Cond.fieldLink RX5 37 RX5 "changes" "I" ∈ tbG := wd_t1 (i := 108) rfl rfl
theorem wd_235 : Cond.fieldLink RX7 39 RX5 "changes" "I" ∈ tbG := wd_t1 (i := 109) rfl rfl
theorem wd_236 : Cond.fieldLink RX11 163 RX5 "changes" "I" ∈ tbG := wd_t1 (i := 110) rfl rfl
theorem wd_237 : Cond.fieldLink RX5 43 RX5 "noteRule" "LRootTower$Rule;" ∈ tbG := wd_t1 (i := 111) rfl rfl
theorem wd_238 : Cond.fieldLink RX6 53 RX5 "noteRule" "LRootTower$Rule;" ∈ tbG := wd_t1 (i := 112) rfl rfl
theorem wd_239 : Cond.fieldLink RX9 44 RX5 "noteRule" "LRootTower$Rule;" ∈ tbG := wd_t1 (i := 113) rfl rfl
theorem wd_240 : Cond.fieldLink RX5 47 RX5 "growsRule" "LRootTower$Rule;" ∈ tbG := wd_t1 (i := 114) rfl rfl
theorem wd_241 : Cond.fieldLink RX6 170 RX5 "growsRule" "LRootTower$Rule;" ∈ tbG := wd_t1 (i := 115) rfl rfl
theorem wd_242 : Cond.fieldLink RX9 97 RX5 "growsRule" "LRootTower$Rule;" ∈ tbG := wd_t1 (i := 116) rfl rfl
theorem wd_243 : Cond.fieldLink RX5 53 RX5 "start" "LRootTower$State;" ∈ tbG := wd_t1 (i := 117) rfl rfl
theorem wd_244 : Cond.fieldLink RX11 126 RX5 "start" "LRootTower$State;" ∈ tbG := wd_t1 (i := 118) rfl rfl
theorem wd_245 : Cond.fieldLink RX6 205 RX5 "start" "LRootTower$State;" ∈ tbG := wd_t1 (i := 119) rfl rfl
theorem wd_271 : Cond.fieldLink RX6 9 RX6 "tape" "[B" ∈ tbG := wd_t1 (i := 145) rfl rfl
theorem wd_272 : Cond.fieldLink RX6 15 RX6 "taped" "I" ∈ tbG := wd_t1 (i := 146) rfl rfl
theorem wd_273 : Cond.fieldLink RX6 19 RX6 "end" "I" ∈ tbG := wd_t1 (i := 147) rfl rfl
theorem wd_274 : Cond.fieldLink RX6 22 RX6 "place" "I" ∈ tbG := wd_t1 (i := 148) rfl rfl
theorem wd_275 : Cond.fieldLink RX6 25 RX6 "kind" "I" ∈ tbG := wd_t1 (i := 149) rfl rfl
theorem wd_276 : Cond.fieldLink RX6 28 RX6 "tokenAt" "I" ∈ tbG := wd_t1 (i := 150) rfl rfl
theorem wd_277 : Cond.fieldLink RX6 31 RX6 "sign" "I" ∈ tbG := wd_t1 (i := 151) rfl rfl
theorem wd_278 : Cond.fieldLink RX6 34 RX6 "digits" "I" ∈ tbG := wd_t1 (i := 152) rfl rfl
theorem wd_279 : Cond.fieldLink RX6 37 RX6 "number" "I" ∈ tbG := wd_t1 (i := 153) rfl rfl
theorem wd_280 : Cond.fieldLink RX6 40 RX6 "wrong" "I" ∈ tbG := wd_t1 (i := 154) rfl rfl
theorem wd_281 : Cond.fieldLink RX6 43 RX6 "told" "I" ∈ tbG := wd_t1 (i := 155) rfl rfl
theorem wd_282 : Cond.fieldLink RX6 49 RX6 "plan" "LRootTower$Plan;" ∈ tbG := wd_t1 (i := 156) rfl rfl
theorem wd_283 : Cond.fieldLink RX6 57 RX6 "rule" "LRootTower$Rule;" ∈ tbG := wd_t1 (i := 157) rfl rfl
theorem wd_284 : Cond.fieldLink RX6 60 RX6 "wanted" "I" ∈ tbG := wd_t1 (i := 158) rfl rfl
theorem wd_285 : Cond.fieldLink RX6 63 RX6 "parens" "I" ∈ tbG := wd_t1 (i := 159) rfl rfl
theorem wd_286 : Cond.fieldLink RX6 66 RX6 "tested" "I" ∈ tbG := wd_t1 (i := 160) rfl rfl
theorem wd_287 : Cond.fieldLink RX6 69 RX6 "nots" "I" ∈ tbG := wd_t1 (i := 161) rfl rfl
theorem wd_323 : Cond.classLink RX11 24 RX5 ∈ tbG := wd_t1 (i := 197) rfl rfl
theorem wd_325 : Cond.classLink RX11 31 RX9 ∈ tbG := wd_t1 (i := 199) rfl rfl
theorem wd_327 : Cond.classLink RX11 38 RX0 ∈ tbG := wd_t1 (i := 201) rfl rfl
theorem wd_328 : Cond.instantiable RX0 3 ∈ tbG := wd_t1 (i := 202) rfl rfl
theorem wd_330 : Cond.instanceMethod yX0_init ∈ tbG := wd_t1 (i := 204) rfl rfl
theorem wd_331 : Cond.code yX0_init cX0_init 1 none ∈ tbG := wd_t1 (i := 205) rfl rfl
theorem wd_332 : Cond.methodLink RX0 3 ⟨"java/lang/Object", "<init>", "()V"⟩ ∈ tbG := wd_t1 (i := 206) rfl rfl
theorem wd_333 : Cond.fieldLink RX0 11 RX0 "rows" "[I" ∈ tbG := wd_t1 (i := 207) rfl rfl
theorem wd_334 : Cond.fieldLink RX0 17 RX0 "oldest" "I" ∈ tbG := wd_t1 (i := 208) rfl rfl
theorem wd_335 : Cond.fieldLink RX0 21 RX0 "many" "I" ∈ tbG := wd_t1 (i := 209) rfl rfl
theorem wd_343 : Cond.classLink RX11 45 RX4 ∈ tbG := wd_t1 (i := 217) rfl rfl
theorem wd_344 : Cond.instantiable RX4 4 ∈ tbG := wd_t1 (i := 218) rfl rfl
theorem wd_346 : Cond.instanceMethod yX4_init ∈ tbG := wd_t1 (i := 220) rfl rfl
theorem wd_347 : Cond.code yX4_init cX4_init 1 none ∈ tbG := wd_t1 (i := 221) rfl rfl
theorem wd_348 : Cond.methodLink RX4 3 ⟨"java/lang/Object", "<init>", "()V"⟩ ∈ tbG := wd_t1 (i := 222) rfl rfl
theorem wd_349 : Cond.fieldLink RX4 9 RX4 "days" "[I" ∈ tbG := wd_t1 (i := 223) rfl rfl
theorem wd_350 : Cond.fieldLink RX4 15 RX4 "notes" "[I" ∈ tbG := wd_t1 (i := 224) rfl rfl
theorem wd_351 : Cond.fieldLink RX4 18 RX4 "sounds" "[I" ∈ tbG := wd_t1 (i := 225) rfl rfl
theorem wd_352 : Cond.fieldLink RX4 21 RX4 "many" "I" ∈ tbG := wd_t1 (i := 226) rfl rfl
theorem wd_362 : Cond.classLink RX11 65 RX1 ∈ tbG := wd_t1 (i := 236) rfl rfl
theorem wd_363 : Cond.instantiable RX1 5 ∈ tbG := wd_t1 (i := 237) rfl rfl
theorem wd_365 : Cond.instanceMethod yX1_init ∈ tbG := wd_t1 (i := 239) rfl rfl
theorem wd_366 : Cond.code yX1_init cX1_init 1 none ∈ tbG := wd_t2 (i := 0) rfl rfl
theorem wd_367 : Cond.methodLink RX1 3 ⟨"java/lang/Object", "<init>", "()V"⟩ ∈ tbG := wd_t2 (i := 1) rfl rfl
theorem wd_368 : Cond.classLink RX1 9 RX9 ∈ tbG := wd_t2 (i := 2) rfl rfl
theorem wd_370 : Cond.fieldLink RX1 12 RX1 "walker" "LRootTower$State;" ∈ tbG := wd_t2 (i := 4) rfl rfl
theorem wd_371 : Cond.fieldLink RX1 18 RX1 "notes" "[I" ∈ tbG := wd_t2 (i := 5) rfl rfl
theorem wd_372 : Cond.fieldLink RX1 22 RX1 "sounding" "[I" ∈ tbG := wd_t2 (i := 6) rfl rfl
theorem wd_373 : Cond.fieldLink RX1 25 RX1 "firm" "[I" ∈ tbG := wd_t2 (i := 7) rfl rfl
theorem wd_374 : Cond.fieldLink RX1 28 RX1 "laid" "I" ∈ tbG := wd_t2 (i := 8) rfl rfl
theorem wd_386 : Cond.classLink RX11 72 RX7 ∈ tbG := wd_t2 (i := 20) rfl rfl
theorem wd_387 : Cond.instantiable RX7 5 ∈ tbG := wd_t2 (i := 21) rfl rfl
theorem wd_389 : Cond.instanceMethod yX7_init ∈ tbG := wd_t2 (i := 23) rfl rfl
theorem wd_390 : Cond.code yX7_init cX7_init 1 none ∈ tbG := wd_t2 (i := 24) rfl rfl
theorem wd_391 : Cond.methodLink RX7 3 ⟨"java/lang/Object", "<init>", "()V"⟩ ∈ tbG := wd_t2 (i := 25) rfl rfl
theorem wd_392 : Cond.fieldLink RX7 9 RX7 "bellRoots" "[I" ∈ tbG := wd_t2 (i := 26) rfl rfl
theorem wd_393 : Cond.fieldLink RX7 15 RX7 "changes" "[I" ∈ tbG := wd_t2 (i := 27) rfl rfl
theorem wd_394 : Cond.fieldLink RX7 18 RX7 "rows" "[I" ∈ tbG := wd_t2 (i := 28) rfl rfl
theorem wd_395 : Cond.fieldLink RX7 21 RX7 "bells" "I" ∈ tbG := wd_t2 (i := 29) rfl rfl
theorem wd_396 : Cond.fieldLink RX7 25 RX7 "many" "I" ∈ tbG := wd_t2 (i := 30) rfl rfl
theorem wd_408 : Cond.classLink RX11 79 RX2 ∈ tbG := wd_t2 (i := 42) rfl rfl
theorem wd_409 : Cond.instantiable RX2 5 ∈ tbG := wd_t2 (i := 43) rfl rfl
theorem wd_411 : Cond.instanceMethod yX2_init ∈ tbG := wd_t2 (i := 45) rfl rfl
theorem wd_412 : Cond.code yX2_init cX2_init 1 none ∈ tbG := wd_t2 (i := 46) rfl rfl
theorem wd_413 : Cond.methodLink RX2 3 ⟨"java/lang/Object", "<init>", "()V"⟩ ∈ tbG := wd_t2 (i := 47) rfl rfl
theorem wd_414 : Cond.fieldLink RX2 9 RX2 "needs" "[I" ∈ tbG := wd_t2 (i := 48) rfl rfl
theorem wd_415 : Cond.fieldLink RX2 15 RX2 "least" "[I" ∈ tbG := wd_t2 (i := 49) rfl rfl
theorem wd_416 : Cond.fieldLink RX2 18 RX2 "notes" "I" ∈ tbG := wd_t2 (i := 50) rfl rfl
theorem wd_417 : Cond.fieldLink RX2 22 RX2 "roots" "I" ∈ tbG := wd_t2 (i := 51) rfl rfl
theorem wd_418 : Cond.fieldLink RX2 25 RX2 "worked" "Z" ∈ tbG := wd_t2 (i := 52) rfl rfl
theorem wd_430 : Cond.classLink RX11 86 RX3 ∈ tbG := wd_t2 (i := 64) rfl rfl
theorem wd_431 : Cond.instantiable RX3 6 ∈ tbG := wd_t2 (i := 65) rfl rfl
theorem wd_433 : Cond.instanceMethod yX3_init ∈ tbG := wd_t2 (i := 67) rfl rfl
theorem wd_434 : Cond.code yX3_init cX3_init 1 none ∈ tbG := wd_t2 (i := 68) rfl rfl
theorem wd_435 : Cond.methodLink RX3 3 ⟨"java/lang/Object", "<init>", "()V"⟩ ∈ tbG := wd_t2 (i := 69) rfl rfl
theorem wd_436 : Cond.fieldLink RX3 9 RX3 "meals" "[I" ∈ tbG := wd_t2 (i := 70) rfl rfl
theorem wd_437 : Cond.fieldLink RX3 15 RX3 "sets" "[I" ∈ tbG := wd_t2 (i := 71) rfl rfl
theorem wd_438 : Cond.fieldLink RX3 18 RX3 "many" "I" ∈ tbG := wd_t2 (i := 72) rfl rfl
theorem wd_439 : Cond.fieldLink RX3 22 RX3 "first" "I" ∈ tbG := wd_t2 (i := 73) rfl rfl
theorem wd_440 : Cond.fieldLink RX3 25 RX3 "telling" "I" ∈ tbG := wd_t2 (i := 74) rfl rfl
theorem wd_441 : Cond.fieldLink RX3 28 RX3 "unlike" "I" ∈ tbG := wd_t2 (i := 75) rfl rfl
theorem wd_455 : Cond.classLink RX11 93 RX10 ∈ tbG := wd_t2 (i := 89) rfl rfl
theorem wd_456 : Cond.instantiable RX10 2 ∈ tbG := wd_t2 (i := 90) rfl rfl
theorem wd_458 : Cond.instanceMethod yX10_init ∈ tbG := wd_t2 (i := 92) rfl rfl
theorem wd_459 : Cond.code yX10_init cX10_init 1 none ∈ tbG := wd_t2 (i := 93) rfl rfl
theorem wd_460 : Cond.methodLink RX10 3 ⟨"java/lang/Object", "<init>", "()V"⟩ ∈ tbG := wd_t2 (i := 94) rfl rfl
theorem wd_461 : Cond.classLink RX10 9 RX9 ∈ tbG := wd_t2 (i := 95) rfl rfl
theorem wd_463 : Cond.fieldLink RX10 12 RX10 "wild" "LRootTower$State;" ∈ tbG := wd_t2 (i := 97) rfl rfl
theorem wd_464 : Cond.fieldLink RX10 18 RX10 "seed" "I" ∈ tbG := wd_t2 (i := 98) rfl rfl
theorem wd_470 : Cond.fieldLink RX11 10 RX11 "reader" "LRootTower$Reader;" ∈ tbG := wd_t2 (i := 104) rfl rfl
theorem wd_471 : Cond.fieldLink RX11 16 RX11 "faultAt" "I" ∈ tbG := wd_t2 (i := 105) rfl rfl
theorem wd_472 : Cond.fieldLink RX11 20 RX11 "refusals" "[I" ∈ tbG := wd_t2 (i := 106) rfl rfl
theorem wd_473 : Cond.fieldLink RX11 27 RX11 "plan" "LRootTower$Plan;" ∈ tbG := wd_t2 (i := 107) rfl rfl
theorem wd_474 : Cond.fieldLink RX11 34 RX11 "state" "LRootTower$State;" ∈ tbG := wd_t2 (i := 108) rfl rfl
theorem wd_475 : Cond.fieldLink RX11 41 RX11 "acts" "LRootTower$Acts;" ∈ tbG := wd_t2 (i := 109) rfl rfl
theorem wd_476 : Cond.fieldLink RX11 48 RX11 "heard" "LRootTower$Heard;" ∈ tbG := wd_t2 (i := 110) rfl rfl
theorem wd_477 : Cond.fieldLink RX11 52 RX11 "imageState" "LRootTower$State;" ∈ tbG := wd_t2 (i := 111) rfl rfl
theorem wd_478 : Cond.fieldLink RX11 55 RX11 "imageActs" "LRootTower$Acts;" ∈ tbG := wd_t2 (i := 112) rfl rfl
theorem wd_479 : Cond.fieldLink RX11 58 RX11 "imageHeard" "LRootTower$Heard;" ∈ tbG := wd_t2 (i := 113) rfl rfl
theorem wd_480 : Cond.fieldLink RX11 61 RX11 "imaged" "Z" ∈ tbG := wd_t2 (i := 114) rfl rfl
theorem wd_481 : Cond.fieldLink RX11 68 RX11 "course" "LRootTower$Course;" ∈ tbG := wd_t2 (i := 115) rfl rfl
theorem wd_482 : Cond.fieldLink RX11 75 RX11 "ringing" "LRootTower$Ringing;" ∈ tbG := wd_t2 (i := 116) rfl rfl
theorem wd_483 : Cond.fieldLink RX11 82 RX11 "fitting" "LRootTower$Fitting;" ∈ tbG := wd_t2 (i := 117) rfl rfl
theorem wd_484 : Cond.fieldLink RX11 89 RX11 "guess" "LRootTower$Guess;" ∈ tbG := wd_t2 (i := 118) rfl rfl
theorem wd_485 : Cond.fieldLink RX11 96 RX11 "wilds" "LRootTower$Wilds;" ∈ tbG := wd_t2 (i := 119) rfl rfl
theorem wd_519 : Cond.methodLink RL 111 yX11_feed ∈ tbG := wd_t2 (i := 153) rfl rfl
theorem wd_520 : Cond.instanceMethod yX11_feed ∈ tbG := wd_t2 (i := 154) rfl rfl
theorem wd_521 : Cond.selects RX11 yX11_feed yX11_feed ∈ tbG := wd_t2 (i := 155) rfl rfl
theorem wd_522 : Cond.code yX11_feed cX11_feed 6 (some FieldType.int) ∈ tbG := wd_t2 (i := 156) rfl rfl
theorem wd_523 : Cond.methodLink RX11 100 yX6_taped ∈ tbG := wd_t2 (i := 157) rfl rfl
theorem wd_524 : Cond.instanceMethod yX6_taped ∈ tbG := wd_t2 (i := 158) rfl rfl
theorem wd_525 : Cond.selects RX6 yX6_taped yX6_taped ∈ tbG := wd_t2 (i := 159) rfl rfl
theorem wd_526 : Cond.code yX6_taped cX6_taped 1 (some FieldType.int) ∈ tbG := wd_t2 (i := 160) rfl rfl
theorem wd_527 : Cond.methodLink RX11 104 yX6_putBytes ∈ tbG := wd_t2 (i := 161) rfl rfl
theorem wd_528 : Cond.instanceMethod yX6_putBytes ∈ tbG := wd_t2 (i := 162) rfl rfl
theorem wd_529 : Cond.selects RX6 yX6_putBytes yX6_putBytes ∈ tbG := wd_t2 (i := 163) rfl rfl
theorem wd_530 : Cond.code yX6_putBytes cX6_putBytes 3 none ∈ tbG := wd_t2 (i := 164) rfl rfl
theorem wd_531 : Cond.methodLink RL 126 yX11_fault ∈ tbG := wd_t2 (i := 165) rfl rfl
theorem wd_532 : Cond.instanceMethod yX11_fault ∈ tbG := wd_t2 (i := 166) rfl rfl
theorem wd_533 : Cond.selects RX11 yX11_fault yX11_fault ∈ tbG := wd_t2 (i := 167) rfl rfl
theorem wd_534 : Cond.code yX11_fault cX11_fault 1 (some FieldType.int) ∈ tbG := wd_t2 (i := 168) rfl rfl
theorem wd_535 : Cond.methodLink RL 146 yX11_days ∈ tbG := wd_t2 (i := 169) rfl rfl
theorem wd_536 : Cond.instanceMethod yX11_days ∈ tbG := wd_t2 (i := 170) rfl rfl
theorem wd_537 : Cond.selects RX11 yX11_days yX11_days ∈ tbG := wd_t2 (i := 171) rfl rfl
theorem wd_538 : Cond.code yX11_days cX11_days 3 (some FieldType.int) ∈ tbG := wd_t2 (i := 172) rfl rfl
theorem wd_539 : Cond.methodLink RX11 151 yX9_day ∈ tbG := wd_t2 (i := 173) rfl rfl
theorem wd_540 : Cond.instanceMethod yX9_day ∈ tbG := wd_t2 (i := 174) rfl rfl
theorem wd_541 : Cond.selects RX9 yX9_day yX9_day ∈ tbG := wd_t2 (i := 175) rfl rfl
theorem wd_542 : Cond.code yX9_day cX9_day 1 (some FieldType.int) ∈ tbG := wd_t2 (i := 176) rfl rfl
theorem wd_543 : Cond.methodLink RX9 21 yX9_cell ∈ tbG := wd_t2 (i := 177) rfl rfl
theorem wd_545 : Cond.instanceMethod yX9_cell ∈ tbG := wd_t2 (i := 179) rfl rfl
theorem wd_546 : Cond.code yX9_cell cX9_cell 4 (some FieldType.int) ∈ tbG := wd_t2 (i := 180) rfl rfl
theorem wd_547 : Cond.methodLink RX11 229 yX11_refuseAct ∈ tbG := wd_t2 (i := 181) rfl rfl
theorem wd_549 : Cond.instanceMethod yX11_refuseAct ∈ tbG := wd_t2 (i := 183) rfl rfl
theorem wd_550 : Cond.code yX11_refuseAct cX11_refuseAct 2 (some FieldType.int) ∈ tbG := wd_t2 (i := 184) rfl rfl
theorem wd_551 : Cond.methodLink RX11 232 yX11_beginAct ∈ tbG := wd_t2 (i := 185) rfl rfl
theorem wd_553 : Cond.instanceMethod yX11_beginAct ∈ tbG := wd_t2 (i := 187) rfl rfl
theorem wd_554 : Cond.code yX11_beginAct cX11_beginAct 1 none ∈ tbG := wd_t2 (i := 188) rfl rfl
theorem wd_555 : Cond.methodLink RX11 411 yX0_keep ∈ tbG := wd_t2 (i := 189) rfl rfl
theorem wd_556 : Cond.instanceMethod yX0_keep ∈ tbG := wd_t2 (i := 190) rfl rfl
theorem wd_557 : Cond.selects RX0 yX0_keep yX0_keep ∈ tbG := wd_t2 (i := 191) rfl rfl
theorem wd_558 : Cond.code yX0_keep cX0_keep 2 none ∈ tbG := wd_t2 (i := 192) rfl rfl
theorem wd_559 : Cond.methodLink RX0 30 yX9_saveTo ∈ tbG := wd_t2 (i := 193) rfl rfl
theorem wd_560 : Cond.instanceMethod yX9_saveTo ∈ tbG := wd_t2 (i := 194) rfl rfl
theorem wd_561 : Cond.selects RX9 yX9_saveTo yX9_saveTo ∈ tbG := wd_t2 (i := 195) rfl rfl
theorem wd_562 : Cond.code yX9_saveTo cX9_saveTo 3 none ∈ tbG := wd_t2 (i := 196) rfl rfl
theorem wd_563 : Cond.methodLink RX9 15 ⟨"java/lang/System", "arraycopy", "(Ljava/lang/Object;ILjava/lang/Object;II)V"⟩ ∈ tbG := wd_t2 (i := 197) rfl rfl
theorem wd_564 : Cond.static ⟨"java/lang/System", "arraycopy", "(Ljava/lang/Object;ILjava/lang/Object;II)V"⟩ ∈ tbG := wd_t2 (i := 198) rfl rfl
theorem wd_565 : Cond.native ⟨"java/lang/System", "arraycopy", "(Ljava/lang/Object;ILjava/lang/Object;II)V"⟩ ∈ tbG := wd_t2 (i := 199) rfl rfl
theorem wd_566 : Cond.methodLink RX11 137 yX11_forgetWork ∈ tbG := wd_t2 (i := 200) rfl rfl
theorem wd_568 : Cond.instanceMethod yX11_forgetWork ∈ tbG := wd_t2 (i := 202) rfl rfl
theorem wd_569 : Cond.code yX11_forgetWork cX11_forgetWork 1 none ∈ tbG := wd_t2 (i := 203) rfl rfl
theorem wd_570 : Cond.methodLink RX11 414 yX1_clear ∈ tbG := wd_t2 (i := 204) rfl rfl
theorem wd_571 : Cond.instanceMethod yX1_clear ∈ tbG := wd_t2 (i := 205) rfl rfl
theorem wd_572 : Cond.selects RX1 yX1_clear yX1_clear ∈ tbG := wd_t2 (i := 206) rfl rfl
theorem wd_573 : Cond.code yX1_clear cX1_clear 1 none ∈ tbG := wd_t2 (i := 207) rfl rfl
theorem wd_574 : Cond.methodLink RX11 415 yX2_clear ∈ tbG := wd_t2 (i := 208) rfl rfl
theorem wd_575 : Cond.instanceMethod yX2_clear ∈ tbG := wd_t2 (i := 209) rfl rfl
theorem wd_576 : Cond.selects RX2 yX2_clear yX2_clear ∈ tbG := wd_t2 (i := 210) rfl rfl
theorem wd_577 : Cond.code yX2_clear cX2_clear 1 none ∈ tbG := wd_t2 (i := 211) rfl rfl
theorem wd_578 : Cond.methodLink RX11 154 yX5_weatherOn ∈ tbG := wd_t2 (i := 212) rfl rfl
theorem wd_579 : Cond.instanceMethod yX5_weatherOn ∈ tbG := wd_t2 (i := 213) rfl rfl
theorem wd_580 : Cond.selects RX5 yX5_weatherOn yX5_weatherOn ∈ tbG := wd_t2 (i := 214) rfl rfl
theorem wd_581 : Cond.code yX5_weatherOn cX5_weatherOn 3 (some FieldType.int) ∈ tbG := wd_t2 (i := 215) rfl rfl
theorem wd_582 : Cond.methodLink RX11 235 yX9_passDay ∈ tbG := wd_t2 (i := 216) rfl rfl
theorem wd_583 : Cond.instanceMethod yX9_passDay ∈ tbG := wd_t2 (i := 217) rfl rfl
theorem wd_584 : Cond.selects RX9 yX9_passDay yX9_passDay ∈ tbG := wd_t2 (i := 218) rfl rfl
theorem wd_585 : Cond.code yX9_passDay cX9_passDay 6 none ∈ tbG := wd_t2 (i := 219) rfl rfl
theorem wd_586 : Cond.methodLink RX9 29 yX9_placeOf ∈ tbG := wd_t2 (i := 220) rfl rfl
theorem wd_587 : Cond.instanceMethod yX9_placeOf ∈ tbG := wd_t2 (i := 221) rfl rfl
theorem wd_588 : Cond.selects RX9 yX9_placeOf yX9_placeOf ∈ tbG := wd_t2 (i := 222) rfl rfl
theorem wd_589 : Cond.code yX9_placeOf cX9_placeOf 2 (some FieldType.int) ∈ tbG := wd_t2 (i := 223) rfl rfl
theorem wd_590 : Cond.methodLink RX9 36 yX9_sizeOf ∈ tbG := wd_t2 (i := 224) rfl rfl
theorem wd_591 : Cond.instanceMethod yX9_sizeOf ∈ tbG := wd_t2 (i := 225) rfl rfl
theorem wd_592 : Cond.selects RX9 yX9_sizeOf yX9_sizeOf ∈ tbG := wd_t2 (i := 226) rfl rfl
theorem wd_593 : Cond.code yX9_sizeOf cX9_sizeOf 2 (some FieldType.int) ∈ tbG := wd_t2 (i := 227) rfl rfl
theorem wd_594 : Cond.methodLink RX9 90 yX9_growthOf ∈ tbG := wd_t2 (i := 228) rfl rfl
theorem wd_596 : Cond.instanceMethod yX9_growthOf ∈ tbG := wd_t2 (i := 230) rfl rfl
theorem wd_597 : Cond.code yX9_growthOf cX9_growthOf 6 (some FieldType.int) ∈ tbG := wd_t2 (i := 231) rfl rfl
theorem wd_598 : Cond.methodLink RX9 50 yX8_isTold ∈ tbG := wd_t2 (i := 232) rfl rfl
theorem wd_599 : Cond.instanceMethod yX8_isTold ∈ tbG := wd_t2 (i := 233) rfl rfl
theorem wd_600 : Cond.selects RX8 yX8_isTold yX8_isTold ∈ tbG := wd_t2 (i := 234) rfl rfl
theorem wd_601 : Cond.code yX8_isTold cX8_isTold 1 (some FieldType.boolean) ∈ tbG := wd_t2 (i := 235) rfl rfl
theorem wd_602 : Cond.methodLink RX9 33 yX9_hollowOf ∈ tbG := wd_t2 (i := 236) rfl rfl
theorem wd_603 : Cond.instanceMethod yX9_hollowOf ∈ tbG := wd_t2 (i := 237) rfl rfl
theorem wd_604 : Cond.selects RX9 yX9_hollowOf yX9_hollowOf ∈ tbG := wd_t2 (i := 238) rfl rfl
theorem wd_605 : Cond.code yX9_hollowOf cX9_hollowOf 2 (some FieldType.int) ∈ tbG := wd_t2 (i := 239) rfl rfl
theorem wd_606 : Cond.methodLink RX9 63 yX5_kindOf ∈ tbG := wd_t3 (i := 0) rfl rfl
theorem wd_607 : Cond.instanceMethod yX5_kindOf ∈ tbG := wd_t3 (i := 1) rfl rfl
theorem wd_608 : Cond.selects RX5 yX5_kindOf yX5_kindOf ∈ tbG := wd_t3 (i := 2) rfl rfl
theorem wd_609 : Cond.code yX5_kindOf cX5_kindOf 2 (some FieldType.int) ∈ tbG := wd_t3 (i := 3) rfl rfl
theorem wd_610 : Cond.methodLink RX9 66 yX9_softnessOf ∈ tbG := wd_t3 (i := 4) rfl rfl
theorem wd_611 : Cond.instanceMethod yX9_softnessOf ∈ tbG := wd_t3 (i := 5) rfl rfl
theorem wd_612 : Cond.selects RX9 yX9_softnessOf yX9_softnessOf ∈ tbG := wd_t3 (i := 6) rfl rfl
theorem wd_613 : Cond.code yX9_softnessOf cX9_softnessOf 2 (some FieldType.int) ∈ tbG := wd_t3 (i := 7) rfl rfl
theorem wd_614 : Cond.methodLink RX9 56 yX9_day ∈ tbG := wd_t3 (i := 8) rfl rfl
theorem wd_615 : Cond.methodLink RX9 69 yX8_worth ∈ tbG := wd_t3 (i := 9) rfl rfl
theorem wd_616 : Cond.instanceMethod yX8_worth ∈ tbG := wd_t3 (i := 10) rfl rfl
theorem wd_617 : Cond.selects RX8 yX8_worth yX8_worth ∈ tbG := wd_t3 (i := 11) rfl rfl
theorem wd_618 : Cond.code yX8_worth cX8_worth 11 (some FieldType.int) ∈ tbG := wd_t3 (i := 12) rfl rfl
theorem wd_619 : Cond.methodLink RX8 38 yX8_operandAt ∈ tbG := wd_t3 (i := 13) rfl rfl
theorem wd_621 : Cond.instanceMethod yX8_operandAt ∈ tbG := wd_t3 (i := 15) rfl rfl
theorem wd_622 : Cond.code yX8_operandAt cX8_operandAt 3 (some FieldType.int) ∈ tbG := wd_t3 (i := 16) rfl rfl
theorem wd_623 : Cond.methodLink RX8 42 yX8_joined ∈ tbG := wd_t3 (i := 17) rfl rfl
theorem wd_624 : Cond.static yX8_joined ∈ tbG := wd_t3 (i := 18) rfl rfl
theorem wd_625 : Cond.code yX8_joined cX8_joined 3 (some FieldType.int) ∈ tbG := wd_t3 (i := 19) rfl rfl
theorem wd_627 : Cond.static yX11_within ∈ tbG := wd_t3 (i := 21) rfl rfl
theorem wd_628 : Cond.code yX11_within cX11_within 2 (some FieldType.int) ∈ tbG := wd_t3 (i := 22) rfl rfl
theorem wd_629 : Cond.methodLink RX11 430 yJ9_min_7cf53 ∈ tbG := wd_t3 (i := 23) rfl rfl
theorem wd_630 : Cond.static yJ9_min_7cf53 ∈ tbG := wd_t3 (i := 24) rfl rfl
theorem wd_631 : Cond.code yJ9_min_7cf53 cJ9_min_7cf53 2 (some FieldType.int) ∈ tbG := wd_t3 (i := 25) rfl rfl
theorem wd_632 : Cond.methodLink RX11 435 yJ9_max_7cf53 ∈ tbG := wd_t3 (i := 26) rfl rfl
theorem wd_633 : Cond.static yJ9_max_7cf53 ∈ tbG := wd_t3 (i := 27) rfl rfl
theorem wd_634 : Cond.code yJ9_max_7cf53 cJ9_max_7cf53 2 (some FieldType.int) ∈ tbG := wd_t3 (i := 28) rfl rfl
theorem wd_635 : Cond.methodLink RX9 39 yJ9_min_7cf53 ∈ tbG := wd_t3 (i := 29) rfl rfl
theorem wd_636 : Cond.methodLink RX9 25 yX9_setCell ∈ tbG := wd_t3 (i := 30) rfl rfl
theorem wd_638 : Cond.instanceMethod yX9_setCell ∈ tbG := wd_t3 (i := 32) rfl rfl
theorem wd_639 : Cond.code yX9_setCell cX9_setCell 5 none ∈ tbG := wd_t3 (i := 33) rfl rfl
theorem wd_640 : Cond.methodLink RX9 93 yX9_soften ∈ tbG := wd_t3 (i := 34) rfl rfl
theorem wd_641 : Cond.instanceMethod yX9_soften ∈ tbG := wd_t3 (i := 35) rfl rfl
theorem wd_642 : Cond.selects RX9 yX9_soften yX9_soften ∈ tbG := wd_t3 (i := 36) rfl rfl
theorem wd_643 : Cond.code yX9_soften cX9_soften 3 none ∈ tbG := wd_t3 (i := 37) rfl rfl
theorem wd_644 : Cond.methodLink RL 165 yX11_undo ∈ tbG := wd_t3 (i := 38) rfl rfl
theorem wd_645 : Cond.instanceMethod yX11_undo ∈ tbG := wd_t3 (i := 39) rfl rfl
theorem wd_646 : Cond.selects RX11 yX11_undo yX11_undo ∈ tbG := wd_t3 (i := 40) rfl rfl
theorem wd_647 : Cond.code yX11_undo cX11_undo 1 (some FieldType.int) ∈ tbG := wd_t3 (i := 41) rfl rfl
theorem wd_648 : Cond.methodLink RX11 253 yX0_undoInto ∈ tbG := wd_t3 (i := 42) rfl rfl
theorem wd_649 : Cond.instanceMethod yX0_undoInto ∈ tbG := wd_t3 (i := 43) rfl rfl
theorem wd_650 : Cond.selects RX0 yX0_undoInto yX0_undoInto ∈ tbG := wd_t3 (i := 44) rfl rfl
theorem wd_651 : Cond.code yX0_undoInto cX0_undoInto 2 (some FieldType.boolean) ∈ tbG := wd_t3 (i := 45) rfl rfl
theorem wd_652 : Cond.methodLink RX0 34 yX9_loadFrom ∈ tbG := wd_t3 (i := 46) rfl rfl
theorem wd_653 : Cond.instanceMethod yX9_loadFrom ∈ tbG := wd_t3 (i := 47) rfl rfl
theorem wd_654 : Cond.selects RX9 yX9_loadFrom yX9_loadFrom ∈ tbG := wd_t3 (i := 48) rfl rfl
theorem wd_655 : Cond.code yX9_loadFrom cX9_loadFrom 3 none ∈ tbG := wd_t3 (i := 49) rfl rfl
theorem wd_656 : Cond.methodLink RX11 176 yX0_many ∈ tbG := wd_t3 (i := 50) rfl rfl
theorem wd_657 : Cond.instanceMethod yX0_many ∈ tbG := wd_t3 (i := 51) rfl rfl
theorem wd_658 : Cond.selects RX0 yX0_many yX0_many ∈ tbG := wd_t3 (i := 52) rfl rfl
theorem wd_659 : Cond.code yX0_many cX0_many 1 (some FieldType.int) ∈ tbG := wd_t3 (i := 53) rfl rfl
theorem wd_660 : Cond.methodLink RL 178 yX11_last ∈ tbG := wd_t3 (i := 54) rfl rfl
theorem wd_661 : Cond.instanceMethod yX11_last ∈ tbG := wd_t3 (i := 55) rfl rfl
theorem wd_662 : Cond.selects RX11 yX11_last yX11_last ∈ tbG := wd_t3 (i := 56) rfl rfl
theorem wd_663 : Cond.code yX11_last cX11_last 1 (some FieldType.int) ∈ tbG := wd_t3 (i := 57) rfl rfl
theorem wd_664 : Cond.methodLink RX11 260 yX1_layTo ∈ tbG := wd_t3 (i := 58) rfl rfl
theorem wd_665 : Cond.instanceMethod yX1_layTo ∈ tbG := wd_t3 (i := 59) rfl rfl
theorem wd_666 : Cond.selects RX1 yX1_layTo yX1_layTo ∈ tbG := wd_t3 (i := 60) rfl rfl
theorem wd_667 : Cond.code yX1_layTo cX1_layTo 5 none ∈ tbG := wd_t3 (i := 61) rfl rfl
theorem wd_668 : Cond.methodLink RX1 32 yX9_copyFrom ∈ tbG := wd_t3 (i := 62) rfl rfl
theorem wd_669 : Cond.instanceMethod yX9_copyFrom ∈ tbG := wd_t3 (i := 63) rfl rfl
theorem wd_670 : Cond.selects RX9 yX9_copyFrom yX9_copyFrom ∈ tbG := wd_t3 (i := 64) rfl rfl
theorem wd_671 : Cond.code yX9_copyFrom cX9_copyFrom 2 none ∈ tbG := wd_t3 (i := 65) rfl rfl
theorem wd_672 : Cond.methodLink RX1 36 yX9_day ∈ tbG := wd_t3 (i := 66) rfl rfl
theorem wd_673 : Cond.methodLink RX1 40 yX5_weatherOn ∈ tbG := wd_t3 (i := 67) rfl rfl
theorem wd_674 : Cond.methodLink RX1 46 yX9_passDay ∈ tbG := wd_t3 (i := 68) rfl rfl
theorem wd_675 : Cond.methodLink RX1 50 yX1_layDay ∈ tbG := wd_t3 (i := 69) rfl rfl
theorem wd_677 : Cond.instanceMethod yX1_layDay ∈ tbG := wd_t3 (i := 71) rfl rfl
theorem wd_678 : Cond.code yX1_layDay cX1_layDay 7 none ∈ tbG := wd_t3 (i := 72) rfl rfl
theorem wd_679 : Cond.methodLink RX1 56 yX9_placeOf ∈ tbG := wd_t3 (i := 73) rfl rfl
theorem wd_680 : Cond.methodLink RX1 59 yX9_softnessOf ∈ tbG := wd_t3 (i := 74) rfl rfl
theorem wd_681 : Cond.methodLink RX1 65 yX9_noteOf ∈ tbG := wd_t3 (i := 75) rfl rfl
theorem wd_682 : Cond.instanceMethod yX9_noteOf ∈ tbG := wd_t3 (i := 76) rfl rfl
theorem wd_683 : Cond.selects RX9 yX9_noteOf yX9_noteOf ∈ tbG := wd_t3 (i := 77) rfl rfl
theorem wd_684 : Cond.code yX9_noteOf cX9_noteOf 7 (some FieldType.int) ∈ tbG := wd_t3 (i := 78) rfl rfl
theorem wd_685 : Cond.methodLink RX9 60 yX5_weatherOn ∈ tbG := wd_t3 (i := 79) rfl rfl
theorem wd_686 : Cond.methodLink RX9 76 yJ9_max_7cf53 ∈ tbG := wd_t3 (i := 80) rfl rfl
theorem wd_687 : Cond.methodLink RX1 69 yX1_setNote ∈ tbG := wd_t3 (i := 81) rfl rfl
theorem wd_689 : Cond.instanceMethod yX1_setNote ∈ tbG := wd_t3 (i := 83) rfl rfl
theorem wd_690 : Cond.code yX1_setNote cX1_setNote 5 none ∈ tbG := wd_t3 (i := 84) rfl rfl
theorem wd_691 : Cond.methodLink RX11 276 yX11_lastDayAmong ∈ tbG := wd_t3 (i := 85) rfl rfl
theorem wd_693 : Cond.instanceMethod yX11_lastDayAmong ∈ tbG := wd_t3 (i := 87) rfl rfl
theorem wd_694 : Cond.code yX11_lastDayAmong cX11_lastDayAmong 4 (some FieldType.int) ∈ tbG := wd_t3 (i := 88) rfl rfl
theorem wd_695 : Cond.methodLink RX11 270 yX1_soundingOn ∈ tbG := wd_t3 (i := 89) rfl rfl
theorem wd_696 : Cond.instanceMethod yX1_soundingOn ∈ tbG := wd_t3 (i := 90) rfl rfl
theorem wd_697 : Cond.selects RX1 yX1_soundingOn yX1_soundingOn ∈ tbG := wd_t3 (i := 91) rfl rfl
theorem wd_698 : Cond.code yX1_soundingOn cX1_soundingOn 2 (some FieldType.int) ∈ tbG := wd_t3 (i := 92) rfl rfl
theorem wd_699 : Cond.methodLink RX11 172 yX1_noteBits ∈ tbG := wd_t3 (i := 93) rfl rfl
theorem wd_700 : Cond.instanceMethod yX1_noteBits ∈ tbG := wd_t3 (i := 94) rfl rfl
theorem wd_701 : Cond.selects RX1 yX1_noteBits yX1_noteBits ∈ tbG := wd_t3 (i := 95) rfl rfl
theorem wd_702 : Cond.code yX1_noteBits cX1_noteBits 5 (some FieldType.int) ∈ tbG := wd_t3 (i := 96) rfl rfl
theorem wd_703 : Cond.methodLink RX1 73 yX1_noteOn ∈ tbG := wd_t3 (i := 97) rfl rfl
theorem wd_704 : Cond.instanceMethod yX1_noteOn ∈ tbG := wd_t3 (i := 98) rfl rfl
theorem wd_705 : Cond.selects RX1 yX1_noteOn yX1_noteOn ∈ tbG := wd_t3 (i := 99) rfl rfl
theorem wd_706 : Cond.code yX1_noteOn cX1_noteOn 4 (some FieldType.int) ∈ tbG := wd_t3 (i := 100) rfl rfl
theorem wd_707 : Cond.methodLink RX11 273 yX5_isTuneIn ∈ tbG := wd_t3 (i := 101) rfl rfl
theorem wd_708 : Cond.instanceMethod yX5_isTuneIn ∈ tbG := wd_t3 (i := 102) rfl rfl
theorem wd_709 : Cond.selects RX5 yX5_isTuneIn yX5_isTuneIn ∈ tbG := wd_t3 (i := 103) rfl rfl
theorem wd_710 : Cond.code yX5_isTuneIn cX5_isTuneIn 2 (some FieldType.boolean) ∈ tbG := wd_t3 (i := 104) rfl rfl
theorem wd_711 : Cond.methodLink RL 182 yX11_soft ∈ tbG := wd_t3 (i := 105) rfl rfl
theorem wd_712 : Cond.instanceMethod yX11_soft ∈ tbG := wd_t3 (i := 106) rfl rfl
theorem wd_713 : Cond.selects RX11 yX11_soft yX11_soft ∈ tbG := wd_t3 (i := 107) rfl rfl
theorem wd_714 : Cond.code yX11_soft cX11_soft 5 (some FieldType.int) ∈ tbG := wd_t3 (i := 108) rfl rfl
theorem wd_715 : Cond.methodLink RX11 267 yX11_goingOf ∈ tbG := wd_t3 (i := 109) rfl rfl
theorem wd_717 : Cond.instanceMethod yX11_goingOf ∈ tbG := wd_t3 (i := 111) rfl rfl
theorem wd_718 : Cond.code yX11_goingOf cX11_goingOf 3 (some FieldType.int) ∈ tbG := wd_t3 (i := 112) rfl rfl
theorem wd_719 : Cond.methodLink RX11 204 yX9_placeOf ∈ tbG := wd_t3 (i := 113) rfl rfl
theorem wd_720 : Cond.methodLink RL 195 yX11_length ∈ tbG := wd_t3 (i := 114) rfl rfl
theorem wd_721 : Cond.instanceMethod yX11_length ∈ tbG := wd_t3 (i := 115) rfl rfl
theorem wd_722 : Cond.selects RX11 yX11_length yX11_length ∈ tbG := wd_t3 (i := 116) rfl rfl
theorem wd_723 : Cond.code yX11_length cX11_length 1 (some FieldType.int) ∈ tbG := wd_t3 (i := 117) rfl rfl
theorem wd_724 : Cond.methodLink RX11 287 yX7_load ∈ tbG := wd_t3 (i := 118) rfl rfl
theorem wd_725 : Cond.instanceMethod yX7_load ∈ tbG := wd_t3 (i := 119) rfl rfl
theorem wd_726 : Cond.selects RX7 yX7_load yX7_load ∈ tbG := wd_t3 (i := 120) rfl rfl
theorem wd_727 : Cond.code yX7_load cX7_load 5 none ∈ tbG := wd_t3 (i := 121) rfl rfl
theorem wd_728 : Cond.methodLink RX7 33 yX9_rootOn ∈ tbG := wd_t3 (i := 122) rfl rfl
theorem wd_729 : Cond.instanceMethod yX9_rootOn ∈ tbG := wd_t3 (i := 123) rfl rfl
theorem wd_730 : Cond.selects RX9 yX9_rootOn yX9_rootOn ∈ tbG := wd_t3 (i := 124) rfl rfl
theorem wd_731 : Cond.code yX9_rootOn cX9_rootOn 4 (some FieldType.int) ∈ tbG := wd_t3 (i := 125) rfl rfl
theorem wd_732 : Cond.methodLink RX7 41 yX9_changeAt ∈ tbG := wd_t3 (i := 126) rfl rfl
theorem wd_733 : Cond.instanceMethod yX9_changeAt ∈ tbG := wd_t3 (i := 127) rfl rfl
theorem wd_734 : Cond.selects RX9 yX9_changeAt yX9_changeAt ∈ tbG := wd_t3 (i := 128) rfl rfl
theorem wd_735 : Cond.code yX9_changeAt cX9_changeAt 2 (some FieldType.int) ∈ tbG := wd_t3 (i := 129) rfl rfl
theorem wd_736 : Cond.methodLink RX11 302 yX7_lengthRung ∈ tbG := wd_t3 (i := 130) rfl rfl
theorem wd_737 : Cond.instanceMethod yX7_lengthRung ∈ tbG := wd_t3 (i := 131) rfl rfl
theorem wd_738 : Cond.selects RX7 yX7_lengthRung yX7_lengthRung ∈ tbG := wd_t3 (i := 132) rfl rfl
theorem wd_739 : Cond.code yX7_lengthRung cX7_lengthRung 3 (some FieldType.int) ∈ tbG := wd_t3 (i := 133) rfl rfl
theorem wd_740 : Cond.constant RX7 48 181896 ∈ tbG := wd_t3 (i := 134) rfl rfl
theorem wd_741 : Cond.methodLink RX7 49 yX7_behindOne ∈ tbG := wd_t3 (i := 135) rfl rfl
theorem wd_743 : Cond.instanceMethod yX7_behindOne ∈ tbG := wd_t3 (i := 137) rfl rfl
theorem wd_744 : Cond.code yX7_behindOne cX7_behindOne 7 (some FieldType.int) ∈ tbG := wd_t3 (i := 138) rfl rfl
theorem wd_745 : Cond.methodLink RX7 45 yX7_bellAt ∈ tbG := wd_t3 (i := 139) rfl rfl
theorem wd_746 : Cond.static yX7_bellAt ∈ tbG := wd_t3 (i := 140) rfl rfl
theorem wd_747 : Cond.code yX7_bellAt cX7_bellAt 2 (some FieldType.int) ∈ tbG := wd_t3 (i := 141) rfl rfl
theorem wd_748 : Cond.methodLink RL 199 yX11_isTrue ∈ tbG := wd_t3 (i := 142) rfl rfl
theorem wd_749 : Cond.instanceMethod yX11_isTrue ∈ tbG := wd_t3 (i := 143) rfl rfl
theorem wd_750 : Cond.selects RX11 yX11_isTrue yX11_isTrue ∈ tbG := wd_t3 (i := 144) rfl rfl
theorem wd_751 : Cond.code yX11_isTrue cX11_isTrue 1 (some FieldType.boolean) ∈ tbG := wd_t3 (i := 145) rfl rfl
theorem wd_752 : Cond.methodLink RX11 305 yX7_trueLength ∈ tbG := wd_t3 (i := 146) rfl rfl
theorem wd_753 : Cond.instanceMethod yX7_trueLength ∈ tbG := wd_t3 (i := 147) rfl rfl
theorem wd_754 : Cond.selects RX7 yX7_trueLength yX7_trueLength ∈ tbG := wd_t3 (i := 148) rfl rfl
theorem wd_755 : Cond.code yX7_trueLength cX7_trueLength 3 (some FieldType.int) ∈ tbG := wd_t3 (i := 149) rfl rfl
theorem wd_756 : Cond.methodLink RX7 55 yX7_isRung ∈ tbG := wd_t3 (i := 150) rfl rfl
theorem wd_758 : Cond.instanceMethod yX7_isRung ∈ tbG := wd_t3 (i := 152) rfl rfl
theorem wd_759 : Cond.code yX7_isRung cX7_isRung 4 (some FieldType.boolean) ∈ tbG := wd_t3 (i := 153) rfl rfl
theorem wd_760 : Cond.methodLink RL 204 yX11_longer ∈ tbG := wd_t3 (i := 154) rfl rfl
theorem wd_761 : Cond.instanceMethod yX11_longer ∈ tbG := wd_t3 (i := 155) rfl rfl
theorem wd_762 : Cond.selects RX11 yX11_longer yX11_longer ∈ tbG := wd_t3 (i := 156) rfl rfl
theorem wd_763 : Cond.code yX11_longer cX11_longer 1 (some FieldType.int) ∈ tbG := wd_t3 (i := 157) rfl rfl
theorem wd_764 : Cond.methodLink RX11 308 yX7_longerBy ∈ tbG := wd_t3 (i := 158) rfl rfl
theorem wd_765 : Cond.instanceMethod yX7_longerBy ∈ tbG := wd_t3 (i := 159) rfl rfl
theorem wd_766 : Cond.selects RX7 yX7_longerBy yX7_longerBy ∈ tbG := wd_t3 (i := 160) rfl rfl
theorem wd_767 : Cond.code yX7_longerBy cX7_longerBy 7 (some FieldType.int) ∈ tbG := wd_t3 (i := 161) rfl rfl
theorem wd_768 : Cond.methodLink RX7 59 yX7_trueLength ∈ tbG := wd_t3 (i := 162) rfl rfl
theorem wd_770 : Cond.static yX11_isChangeNumber ∈ tbG := wd_t3 (i := 164) rfl rfl
theorem wd_771 : Cond.code yX11_isChangeNumber cX11_isChangeNumber 1 (some FieldType.boolean) ∈ tbG := wd_t3 (i := 165) rfl rfl
theorem wd_772 : Cond.methodLink RL 211 yX11_keepers ∈ tbG := wd_t3 (i := 166) rfl rfl
theorem wd_773 : Cond.instanceMethod yX11_keepers ∈ tbG := wd_t3 (i := 167) rfl rfl
theorem wd_774 : Cond.selects RX11 yX11_keepers yX11_keepers ∈ tbG := wd_t3 (i := 168) rfl rfl
theorem wd_775 : Cond.code yX11_keepers cX11_keepers 6 (some FieldType.int) ∈ tbG := wd_t3 (i := 169) rfl rfl
theorem wd_776 : Cond.methodLink RX11 166 yX11_soundingNow ∈ tbG := wd_t3 (i := 170) rfl rfl
theorem wd_778 : Cond.instanceMethod yX11_soundingNow ∈ tbG := wd_t3 (i := 172) rfl rfl
theorem wd_779 : Cond.code yX11_soundingNow cX11_soundingNow 1 (some FieldType.int) ∈ tbG := wd_t3 (i := 173) rfl rfl
theorem wd_780 : Cond.methodLink RL 215 yX11_earliest ∈ tbG := wd_t3 (i := 174) rfl rfl
theorem wd_781 : Cond.instanceMethod yX11_earliest ∈ tbG := wd_t3 (i := 175) rfl rfl
theorem wd_782 : Cond.selects RX11 yX11_earliest yX11_earliest ∈ tbG := wd_t3 (i := 176) rfl rfl
theorem wd_783 : Cond.code yX11_earliest cX11_earliest 2 (some FieldType.int) ∈ tbG := wd_t3 (i := 177) rfl rfl
theorem wd_784 : Cond.methodLink RX11 323 yX1_firmOn ∈ tbG := wd_t3 (i := 178) rfl rfl
theorem wd_785 : Cond.instanceMethod yX1_firmOn ∈ tbG := wd_t3 (i := 179) rfl rfl
theorem wd_786 : Cond.selects RX1 yX1_firmOn yX1_firmOn ∈ tbG := wd_t3 (i := 180) rfl rfl
theorem wd_787 : Cond.code yX1_firmOn cX1_firmOn 2 (some FieldType.int) ∈ tbG := wd_t3 (i := 181) rfl rfl
theorem wd_788 : Cond.methodLink RL 219 yX11_hear ∈ tbG := wd_t3 (i := 182) rfl rfl
theorem wd_789 : Cond.instanceMethod yX11_hear ∈ tbG := wd_t3 (i := 183) rfl rfl
theorem wd_790 : Cond.selects RX11 yX11_hear yX11_hear ∈ tbG := wd_t3 (i := 184) rfl rfl
theorem wd_791 : Cond.code yX11_hear cX11_hear 4 (some FieldType.int) ∈ tbG := wd_t3 (i := 185) rfl rfl
theorem wd_792 : Cond.methodLink RX11 326 yX11_isNote ∈ tbG := wd_t3 (i := 186) rfl rfl
theorem wd_793 : Cond.static yX11_isNote ∈ tbG := wd_t3 (i := 187) rfl rfl
theorem wd_794 : Cond.code yX11_isNote cX11_isNote 1 (some FieldType.boolean) ∈ tbG := wd_t3 (i := 188) rfl rfl
theorem wd_795 : Cond.methodLink RX11 329 yX4_add ∈ tbG := wd_t3 (i := 189) rfl rfl
theorem wd_796 : Cond.instanceMethod yX4_add ∈ tbG := wd_t3 (i := 190) rfl rfl
theorem wd_797 : Cond.selects RX4 yX4_add yX4_add ∈ tbG := wd_t3 (i := 191) rfl rfl
theorem wd_798 : Cond.code yX4_add cX4_add 4 (some FieldType.boolean) ∈ tbG := wd_t3 (i := 192) rfl rfl
theorem wd_799 : Cond.methodLink RX11 179 yX4_many ∈ tbG := wd_t3 (i := 193) rfl rfl
theorem wd_800 : Cond.instanceMethod yX4_many ∈ tbG := wd_t3 (i := 194) rfl rfl
theorem wd_801 : Cond.selects RX4 yX4_many yX4_many ∈ tbG := wd_t3 (i := 195) rfl rfl
theorem wd_802 : Cond.code yX4_many cX4_many 1 (some FieldType.int) ∈ tbG := wd_t3 (i := 196) rfl rfl
theorem wd_803 : Cond.methodLink RL 224 yX11_forget ∈ tbG := wd_t3 (i := 197) rfl rfl
theorem wd_804 : Cond.instanceMethod yX11_forget ∈ tbG := wd_t3 (i := 198) rfl rfl
theorem wd_805 : Cond.selects RX11 yX11_forget yX11_forget ∈ tbG := wd_t3 (i := 199) rfl rfl
theorem wd_806 : Cond.code yX11_forget cX11_forget 1 none ∈ tbG := wd_t3 (i := 200) rfl rfl
theorem wd_807 : Cond.methodLink RX11 136 yX4_clear ∈ tbG := wd_t3 (i := 201) rfl rfl
theorem wd_808 : Cond.instanceMethod yX4_clear ∈ tbG := wd_t3 (i := 202) rfl rfl
theorem wd_809 : Cond.selects RX4 yX4_clear yX4_clear ∈ tbG := wd_t3 (i := 203) rfl rfl
theorem wd_810 : Cond.code yX4_clear cX4_clear 1 none ∈ tbG := wd_t3 (i := 204) rfl rfl
theorem wd_811 : Cond.methodLink RL 265 yX11_spare ∈ tbG := wd_t3 (i := 205) rfl rfl
theorem wd_812 : Cond.instanceMethod yX11_spare ∈ tbG := wd_t3 (i := 206) rfl rfl
theorem wd_813 : Cond.selects RX11 yX11_spare yX11_spare ∈ tbG := wd_t3 (i := 207) rfl rfl
theorem wd_814 : Cond.code yX11_spare cX11_spare 5 (some FieldType.int) ∈ tbG := wd_t3 (i := 208) rfl rfl
theorem wd_815 : Cond.methodLink RL 269 yX11_image ∈ tbG := wd_t3 (i := 209) rfl rfl
theorem wd_816 : Cond.instanceMethod yX11_image ∈ tbG := wd_t3 (i := 210) rfl rfl
theorem wd_817 : Cond.selects RX11 yX11_image yX11_image ∈ tbG := wd_t3 (i := 211) rfl rfl
theorem wd_818 : Cond.code yX11_image cX11_image 1 none ∈ tbG := wd_t3 (i := 212) rfl rfl
theorem wd_819 : Cond.methodLink RX11 129 yX9_copyFrom ∈ tbG := wd_t3 (i := 213) rfl rfl
theorem wd_820 : Cond.methodLink RX11 405 yX0_copyFrom ∈ tbG := wd_t3 (i := 214) rfl rfl
theorem wd_821 : Cond.instanceMethod yX0_copyFrom ∈ tbG := wd_t3 (i := 215) rfl rfl
theorem wd_822 : Cond.selects RX0 yX0_copyFrom yX0_copyFrom ∈ tbG := wd_t3 (i := 216) rfl rfl
theorem wd_823 : Cond.code yX0_copyFrom cX0_copyFrom 2 none ∈ tbG := wd_t3 (i := 217) rfl rfl
theorem wd_824 : Cond.methodLink RX0 24 ⟨"java/lang/System", "arraycopy", "(Ljava/lang/Object;ILjava/lang/Object;II)V"⟩ ∈ tbG := wd_t3 (i := 218) rfl rfl
theorem wd_825 : Cond.methodLink RX11 408 yX4_copyFrom ∈ tbG := wd_t3 (i := 219) rfl rfl
theorem wd_826 : Cond.instanceMethod yX4_copyFrom ∈ tbG := wd_t3 (i := 220) rfl rfl
theorem wd_827 : Cond.selects RX4 yX4_copyFrom yX4_copyFrom ∈ tbG := wd_t3 (i := 221) rfl rfl
theorem wd_828 : Cond.code yX4_copyFrom cX4_copyFrom 2 none ∈ tbG := wd_t3 (i := 222) rfl rfl
theorem wd_829 : Cond.methodLink RX4 25 ⟨"java/lang/System", "arraycopy", "(Ljava/lang/Object;ILjava/lang/Object;II)V"⟩ ∈ tbG := wd_t3 (i := 223) rfl rfl
theorem wd_830 : Cond.methodLink RL 273 yX11_restore ∈ tbG := wd_t3 (i := 224) rfl rfl
theorem wd_831 : Cond.instanceMethod yX11_restore ∈ tbG := wd_t3 (i := 225) rfl rfl
theorem wd_832 : Cond.selects RX11 yX11_restore yX11_restore ∈ tbG := wd_t3 (i := 226) rfl rfl
theorem wd_833 : Cond.code yX11_restore cX11_restore 1 (some FieldType.boolean) ∈ tbG := wd_t3 (i := 227) rfl rfl
theorem wd_834 : Cond.methodLink RL 116 yL_tower ∈ tbG := wd_t3 (i := 228) rfl rfl
theorem wd_835 : Cond.static yL_tower ∈ tbG := wd_t3 (i := 229) rfl rfl
theorem wd_836 : Cond.codeWith yL_tower cL_tower 4 (some FieldType.int) [(0, 9, 12, 13)] ∈ tbG := wd_t3 (i := 230) rfl rfl
theorem wd_837 : Cond.classLink RL 13 "java/lang/IllegalArgumentException" ∈ tbG := wd_t3 (i := 231) rfl rfl
theorem wd_838 : Cond.methodLink RL 7 yX11_tower ∈ tbG := wd_t3 (i := 232) rfl rfl
theorem wd_839 : Cond.instanceMethod yX11_tower ∈ tbG := wd_t3 (i := 233) rfl rfl
theorem wd_840 : Cond.selects RX11 yX11_tower yX11_tower ∈ tbG := wd_t3 (i := 234) rfl rfl
theorem wd_841 : Cond.code yX11_tower cX11_tower 3 (some FieldType.int) ∈ tbG := wd_t3 (i := 235) rfl rfl
theorem wd_842 : Cond.classLink RX11 108 "java/lang/IllegalArgumentException" ∈ tbG := wd_t3 (i := 236) rfl rfl
theorem wd_843 : Cond.instantiable "java/lang/IllegalArgumentException" 6 ∈ tbG := wd_t3 (i := 237) rfl rfl
theorem wd_851 : Cond.selects "java/lang/IllegalArgumentException" ⟨"java/lang/Throwable", "fillInStackTrace", "(I)Ljava/lang/Throwable;"⟩ ⟨"java/lang/Throwable", "fillInStackTrace", "(I)Ljava/lang/Throwable;"⟩ ∈ tbG := wd_t4 (i := 5) rfl rfl
theorem wd_852 : Cond.selects "java/lang/IllegalArgumentException" ⟨"java/lang/Throwable", "fillInStackTrace", "()Ljava/lang/Throwable;"⟩ ⟨"java/lang/Throwable", "fillInStackTrace", "()Ljava/lang/Throwable;"⟩ ∈ tbG := wd_t4 (i := 6) rfl rfl
theorem wd_863 : Cond.fieldLink "java/lang/Throwable" 198 "java/lang/Throwable" "backtrace" "Ljava/lang/Object;" ∈ tbG := wd_t4 (i := 17) rfl rfl
theorem wd_865 : Cond.instanceMethod ⟨"java/lang/Throwable", "<init>", "()V"⟩ ∈ tbG := wd_t4 (i := 19) rfl rfl
theorem wd_866 : Cond.code ⟨"java/lang/Throwable", "<init>", "()V"⟩ prog_27_method_1_code 1 none ∈ tbG := wd_t4 (i := 20) rfl rfl
theorem wd_867 : Cond.methodLink "java/lang/Throwable" 1 ⟨"java/lang/Object", "<init>", "()V"⟩ ∈ tbG := wd_t4 (i := 21) rfl rfl
theorem wd_868 : Cond.fieldLink "java/lang/Throwable" 13 "java/lang/Throwable" "UNASSIGNED_STACK" "[Ljava/lang/StackTraceElement;" ∈ tbG := wd_t4 (i := 22) rfl rfl
theorem wd_870 : Cond.fieldLink "java/lang/Throwable" 20 "java/lang/Throwable" "SUPPRESSED_SENTINEL" "Ljava/util/List;" ∈ tbG := wd_t4 (i := 24) rfl rfl
theorem wd_872 : Cond.methodLink "java/lang/Throwable" 27 ⟨"java/lang/Throwable", "fillInStackTrace", "()Ljava/lang/Throwable;"⟩ ∈ tbG := wd_t4 (i := 26) rfl rfl
theorem wd_873 : Cond.instanceMethod ⟨"java/lang/Throwable", "fillInStackTrace", "()Ljava/lang/Throwable;"⟩ ∈ tbG := wd_t4 (i := 27) rfl rfl
theorem wd_875 : Cond.selects "java/util/NoSuchElementException" ⟨"java/lang/Throwable", "fillInStackTrace", "()Ljava/lang/Throwable;"⟩ ⟨"java/lang/Throwable", "fillInStackTrace", "()Ljava/lang/Throwable;"⟩ ∈ tbG := wd_t4 (i := 29) rfl rfl
theorem wd_877 : Cond.methodLink "java/lang/Throwable" 202 ⟨"java/lang/Throwable", "fillInStackTrace", "(I)Ljava/lang/Throwable;"⟩ ∈ tbG := wd_t4 (i := 31) rfl rfl
theorem wd_879 : Cond.instanceMethod ⟨"java/lang/Throwable", "fillInStackTrace", "(I)Ljava/lang/Throwable;"⟩ ∈ tbG := wd_t4 (i := 33) rfl rfl
theorem wd_880 : Cond.instantiable "java/lang/Throwable" 6 ∈ tbG := wd_t4 (i := 34) rfl rfl
theorem wd_881 : Cond.native ⟨"java/lang/Throwable", "fillInStackTrace", "(I)Ljava/lang/Throwable;"⟩ ∈ tbG := wd_t4 (i := 35) rfl rfl
theorem wd_883 : Cond.methodLink RX11 112 ⟨"java/lang/IllegalArgumentException", "<init>", "(Ljava/lang/String;)V"⟩ ∈ tbG := wd_t4 (i := 37) rfl rfl
theorem wd_884 : Cond.instanceMethod ⟨"java/lang/IllegalArgumentException", "<init>", "(Ljava/lang/String;)V"⟩ ∈ tbG := wd_t4 (i := 38) rfl rfl
theorem wd_885 : Cond.code ⟨"java/lang/IllegalArgumentException", "<init>", "(Ljava/lang/String;)V"⟩ prog_19_method_2_code 2 none ∈ tbG := wd_t4 (i := 39) rfl rfl
theorem wd_886 : Cond.methodLink "java/lang/IllegalArgumentException" 7 ⟨"java/lang/RuntimeException", "<init>", "(Ljava/lang/String;)V"⟩ ∈ tbG := wd_t4 (i := 40) rfl rfl
theorem wd_887 : Cond.instanceMethod ⟨"java/lang/RuntimeException", "<init>", "(Ljava/lang/String;)V"⟩ ∈ tbG := wd_t4 (i := 41) rfl rfl
theorem wd_888 : Cond.code ⟨"java/lang/RuntimeException", "<init>", "(Ljava/lang/String;)V"⟩ prog_22_method_2_code 2 none ∈ tbG := wd_t4 (i := 42) rfl rfl
theorem wd_889 : Cond.methodLink "java/lang/RuntimeException" 7 ⟨"java/lang/Exception", "<init>", "(Ljava/lang/String;)V"⟩ ∈ tbG := wd_t4 (i := 43) rfl rfl
theorem wd_890 : Cond.instanceMethod ⟨"java/lang/Exception", "<init>", "(Ljava/lang/String;)V"⟩ ∈ tbG := wd_t4 (i := 44) rfl rfl
theorem wd_891 : Cond.code ⟨"java/lang/Exception", "<init>", "(Ljava/lang/String;)V"⟩ prog_18_method_2_code 2 none ∈ tbG := wd_t4 (i := 45) rfl rfl
theorem wd_892 : Cond.methodLink "java/lang/Exception" 7 ⟨"java/lang/Throwable", "<init>", "(Ljava/lang/String;)V"⟩ ∈ tbG := wd_t4 (i := 46) rfl rfl
theorem wd_893 : Cond.instanceMethod ⟨"java/lang/Throwable", "<init>", "(Ljava/lang/String;)V"⟩ ∈ tbG := wd_t4 (i := 47) rfl rfl
theorem wd_894 : Cond.code ⟨"java/lang/Throwable", "<init>", "(Ljava/lang/String;)V"⟩ prog_27_method_2_code 2 none ∈ tbG := wd_t4 (i := 48) rfl rfl
theorem wd_895 : Cond.fieldLink "java/lang/Throwable" 198 "java/lang/Throwable" "backtrace" "Ljava/lang/Object;" ∈ tbG := wd_t4 (i := 49) rfl rfl
theorem wd_896 : Cond.fieldLink "java/lang/Throwable" 31 "java/lang/Throwable" "detailMessage" "Ljava/lang/String;" ∈ tbG := wd_t4 (i := 50) rfl rfl
theorem wd_897 : Cond.fieldLink "java/lang/Throwable" 7 "java/lang/Throwable" "cause" "Ljava/lang/Throwable;" ∈ tbG := wd_t4 (i := 51) rfl rfl
theorem wd_898 : Cond.fieldLink "java/lang/Throwable" 17 "java/lang/Throwable" "stackTrace" "[Ljava/lang/StackTraceElement;" ∈ tbG := wd_t4 (i := 52) rfl rfl
theorem wd_899 : Cond.fieldLink "java/lang/Throwable" 24 "java/lang/Throwable" "suppressedExceptions" "Ljava/util/List;" ∈ tbG := wd_t4 (i := 53) rfl rfl
theorem wd_908 : Cond.methodLink RX11 115 yX6_readTower ∈ tbG := wd_t4 (i := 62) rfl rfl
theorem wd_909 : Cond.instanceMethod yX6_readTower ∈ tbG := wd_t4 (i := 63) rfl rfl
theorem wd_910 : Cond.selects RX6 yX6_readTower yX6_readTower ∈ tbG := wd_t4 (i := 64) rfl rfl
theorem wd_911 : Cond.code yX6_readTower cX6_readTower 4 (some FieldType.int) ∈ tbG := wd_t4 (i := 65) rfl rfl
theorem wd_912 : Cond.methodLink RX6 72 yX5_clear ∈ tbG := wd_t4 (i := 66) rfl rfl
theorem wd_913 : Cond.instanceMethod yX5_clear ∈ tbG := wd_t4 (i := 67) rfl rfl
theorem wd_914 : Cond.selects RX5 yX5_clear yX5_clear ∈ tbG := wd_t4 (i := 68) rfl rfl
theorem wd_915 : Cond.code yX5_clear cX5_clear 1 none ∈ tbG := wd_t4 (i := 69) rfl rfl
theorem wd_916 : Cond.methodLink RX5 57 yX8_clear ∈ tbG := wd_t4 (i := 70) rfl rfl
theorem wd_917 : Cond.instanceMethod yX8_clear ∈ tbG := wd_t4 (i := 71) rfl rfl
theorem wd_918 : Cond.selects RX8 yX8_clear yX8_clear ∈ tbG := wd_t4 (i := 72) rfl rfl
theorem wd_919 : Cond.code yX8_clear cX8_clear 1 none ∈ tbG := wd_t4 (i := 73) rfl rfl
theorem wd_920 : Cond.methodLink RX5 60 yX9_clear ∈ tbG := wd_t4 (i := 74) rfl rfl
theorem wd_921 : Cond.instanceMethod yX9_clear ∈ tbG := wd_t4 (i := 75) rfl rfl
theorem wd_922 : Cond.selects RX9 yX9_clear yX9_clear ∈ tbG := wd_t4 (i := 76) rfl rfl
theorem wd_923 : Cond.code yX9_clear cX9_clear 2 none ∈ tbG := wd_t4 (i := 77) rfl rfl
theorem wd_924 : Cond.methodLink RX6 75 yX6_step ∈ tbG := wd_t4 (i := 78) rfl rfl
theorem wd_926 : Cond.instanceMethod yX6_step ∈ tbG := wd_t4 (i := 80) rfl rfl
theorem wd_927 : Cond.code yX6_step cX6_step 1 none ∈ tbG := wd_t4 (i := 81) rfl rfl
theorem wd_928 : Cond.methodLink RX6 82 yX6_byteAt ∈ tbG := wd_t4 (i := 82) rfl rfl
theorem wd_930 : Cond.instanceMethod yX6_byteAt ∈ tbG := wd_t4 (i := 84) rfl rfl
theorem wd_931 : Cond.code yX6_byteAt cX6_byteAt 2 (some FieldType.int) ∈ tbG := wd_t4 (i := 85) rfl rfl
theorem wd_932 : Cond.methodLink RX6 86 yX6_isBlank ∈ tbG := wd_t4 (i := 86) rfl rfl
theorem wd_933 : Cond.static yX6_isBlank ∈ tbG := wd_t4 (i := 87) rfl rfl
theorem wd_934 : Cond.code yX6_isBlank cX6_isBlank 1 (some FieldType.boolean) ∈ tbG := wd_t4 (i := 88) rfl rfl
theorem wd_935 : Cond.methodLink RX6 90 yX6_isLetter ∈ tbG := wd_t4 (i := 89) rfl rfl
theorem wd_936 : Cond.static yX6_isLetter ∈ tbG := wd_t4 (i := 90) rfl rfl
theorem wd_937 : Cond.code yX6_isLetter cX6_isLetter 1 (some FieldType.boolean) ∈ tbG := wd_t4 (i := 91) rfl rfl
theorem wd_938 : Cond.methodLink RX6 93 yX6_isDigit ∈ tbG := wd_t4 (i := 92) rfl rfl
theorem wd_939 : Cond.static yX6_isDigit ∈ tbG := wd_t4 (i := 93) rfl rfl
theorem wd_940 : Cond.code yX6_isDigit cX6_isDigit 1 (some FieldType.boolean) ∈ tbG := wd_t4 (i := 94) rfl rfl
theorem wd_941 : Cond.methodLink RX6 96 yX6_stepNumber ∈ tbG := wd_t4 (i := 95) rfl rfl
theorem wd_943 : Cond.instanceMethod yX6_stepNumber ∈ tbG := wd_t4 (i := 97) rfl rfl
theorem wd_944 : Cond.code yX6_stepNumber cX6_stepNumber 1 none ∈ tbG := wd_t4 (i := 98) rfl rfl
theorem wd_945 : Cond.methodLink RX6 99 yX6_isSign ∈ tbG := wd_t4 (i := 99) rfl rfl
theorem wd_946 : Cond.static yX6_isSign ∈ tbG := wd_t4 (i := 100) rfl rfl
theorem wd_947 : Cond.code yX6_isSign cX6_isSign 1 (some FieldType.boolean) ∈ tbG := wd_t4 (i := 101) rfl rfl
theorem wd_948 : Cond.methodLink RX6 78 yX6_readLine ∈ tbG := wd_t4 (i := 102) rfl rfl
theorem wd_950 : Cond.instanceMethod yX6_readLine ∈ tbG := wd_t4 (i := 104) rfl rfl
theorem wd_951 : Cond.code yX6_readLine cX6_readLine 2 (some FieldType.boolean) ∈ tbG := wd_t4 (i := 105) rfl rfl
theorem wd_952 : Cond.methodLink RX6 147 yX6_lineWord ∈ tbG := wd_t4 (i := 106) rfl rfl
theorem wd_954 : Cond.instanceMethod yX6_lineWord ∈ tbG := wd_t4 (i := 108) rfl rfl
theorem wd_955 : Cond.code yX6_lineWord cX6_lineWord 1 (some FieldType.int) ∈ tbG := wd_t4 (i := 109) rfl rfl
theorem wd_957 : Cond.methodLink RX6 114 yX6_isAtWord ∈ tbG := wd_t4 (i := 111) rfl rfl
theorem wd_959 : Cond.instanceMethod yX6_isAtWord ∈ tbG := wd_t4 (i := 113) rfl rfl
theorem wd_960 : Cond.code yX6_isAtWord cX6_isAtWord 4 (some FieldType.boolean) ∈ tbG := wd_t4 (i := 114) rfl rfl
theorem wd_961 : Cond.methodLink RX6 102 yJ0_length_8abf5 ∈ tbG := wd_t4 (i := 115) rfl rfl
theorem wd_962 : Cond.instanceMethod yJ0_length_8abf5 ∈ tbG := wd_t4 (i := 116) rfl rfl
theorem wd_963 : Cond.selects "java/lang/String" yJ0_length_8abf5 yJ0_length_8abf5 ∈ tbG := wd_t4 (i := 117) rfl rfl
theorem wd_964 : Cond.code yJ0_length_8abf5 cJ0_length_8abf5 1 (some FieldType.int) ∈ tbG := wd_t4 (i := 118) rfl rfl
theorem wd_965 : Cond.methodLink "java/lang/String" 335 yJ0_coder_7d493 ∈ tbG := wd_t4 (i := 119) rfl rfl
theorem wd_966 : Cond.instanceMethod yJ0_coder_7d493 ∈ tbG := wd_t4 (i := 120) rfl rfl
theorem wd_967 : Cond.selects "java/lang/String" yJ0_coder_7d493 yJ0_coder_7d493 ∈ tbG := wd_t4 (i := 121) rfl rfl
theorem wd_968 : Cond.code yJ0_coder_7d493 cJ0_coder_7d493 1 (some FieldType.byte) ∈ tbG := wd_t4 (i := 122) rfl rfl
theorem wd_969 : Cond.fieldLink "java/lang/String" 38 "java/lang/String" "COMPACT_STRINGS" "Z" ∈ tbG := wd_t4 (i := 123) rfl rfl
theorem wd_971 : Cond.methodLink RX6 108 yJ0_charAt_5068e ∈ tbG := wd_t4 (i := 125) rfl rfl
theorem wd_972 : Cond.instanceMethod yJ0_charAt_5068e ∈ tbG := wd_t4 (i := 126) rfl rfl
theorem wd_973 : Cond.selects "java/lang/String" yJ0_charAt_5068e yJ0_charAt_5068e ∈ tbG := wd_t4 (i := 127) rfl rfl
theorem wd_974 : Cond.code yJ0_charAt_5068e cJ0_charAt_5068e 2 (some FieldType.char) ∈ tbG := wd_t4 (i := 128) rfl rfl
theorem wd_975 : Cond.methodLink "java/lang/String" 492 yJ0_isLatin1_aae02 ∈ tbG := wd_t4 (i := 129) rfl rfl
theorem wd_976 : Cond.instanceMethod yJ0_isLatin1_aae02 ∈ tbG := wd_t4 (i := 130) rfl rfl
theorem wd_977 : Cond.selects "java/lang/String" yJ0_isLatin1_aae02 yJ0_isLatin1_aae02 ∈ tbG := wd_t4 (i := 131) rfl rfl
theorem wd_978 : Cond.code yJ0_isLatin1_aae02 cJ0_isLatin1_aae02 1 (some FieldType.boolean) ∈ tbG := wd_t4 (i := 132) rfl rfl
theorem wd_979 : Cond.methodLink "java/lang/String" 495 yJ1_charAt_3b067 ∈ tbG := wd_t4 (i := 133) rfl rfl
theorem wd_980 : Cond.static yJ1_charAt_3b067 ∈ tbG := wd_t4 (i := 134) rfl rfl
theorem wd_981 : Cond.code yJ1_charAt_3b067 cJ1_charAt_3b067 2 (some FieldType.char) ∈ tbG := wd_t4 (i := 135) rfl rfl
theorem wd_982 : Cond.methodLink "java/lang/StringLatin1" 9 yJ0_checkIndex_df160 ∈ tbG := wd_t4 (i := 136) rfl rfl
theorem wd_983 : Cond.static yJ0_checkIndex_df160 ∈ tbG := wd_t4 (i := 137) rfl rfl
theorem wd_984 : Cond.code yJ0_checkIndex_df160 cJ0_checkIndex_df160 2 none ∈ tbG := wd_t4 (i := 138) rfl rfl
theorem wd_985 : Cond.fieldLink "java/lang/String" 1053 "jdk/internal/util/Preconditions" "SIOOBE_FORMATTER" "Ljava/util/function/BiFunction;" ∈ tbG := wd_t4 (i := 139) rfl rfl
theorem wd_987 : Cond.methodLink "java/lang/String" 1059 yJ3_checkIndex_8e157 ∈ tbG := wd_t4 (i := 141) rfl rfl
theorem wd_988 : Cond.static yJ3_checkIndex_8e157 ∈ tbG := wd_t4 (i := 142) rfl rfl
theorem wd_989 : Cond.code yJ3_checkIndex_8e157 cJ3_checkIndex_8e157 3 (some FieldType.int) ∈ tbG := wd_t4 (i := 143) rfl rfl
theorem wd_990 : Cond.methodLink "java/lang/String" 498 yJ2_charAt_3b067 ∈ tbG := wd_t4 (i := 144) rfl rfl
theorem wd_991 : Cond.static yJ2_charAt_3b067 ∈ tbG := wd_t4 (i := 145) rfl rfl
theorem wd_992 : Cond.code yJ2_charAt_3b067 cJ2_charAt_3b067 2 (some FieldType.char) ∈ tbG := wd_t4 (i := 146) rfl rfl
theorem wd_993 : Cond.methodLink "java/lang/StringUTF16" 67 yJ2_checkIndex_2214a ∈ tbG := wd_t4 (i := 147) rfl rfl
theorem wd_994 : Cond.static yJ2_checkIndex_2214a ∈ tbG := wd_t4 (i := 148) rfl rfl
theorem wd_995 : Cond.code yJ2_checkIndex_2214a cJ2_checkIndex_2214a 2 none ∈ tbG := wd_t4 (i := 149) rfl rfl
theorem wd_996 : Cond.methodLink "java/lang/StringUTF16" 48 yJ2_length_9d52b ∈ tbG := wd_t4 (i := 150) rfl rfl
theorem wd_997 : Cond.static yJ2_length_9d52b ∈ tbG := wd_t4 (i := 151) rfl rfl
theorem wd_998 : Cond.code yJ2_length_9d52b cJ2_length_9d52b 1 (some FieldType.int) ∈ tbG := wd_t4 (i := 152) rfl rfl
theorem wd_999 : Cond.methodLink "java/lang/StringUTF16" 414 yJ0_checkIndex_df160 ∈ tbG := wd_t4 (i := 153) rfl rfl
theorem wd_1000 : Cond.methodLink "java/lang/StringUTF16" 71 yJ2_getChar_3b067 ∈ tbG := wd_t4 (i := 154) rfl rfl
theorem wd_1001 : Cond.static yJ2_getChar_3b067 ∈ tbG := wd_t4 (i := 155) rfl rfl
theorem wd_1002 : Cond.code yJ2_getChar_3b067 cJ2_getChar_3b067 2 (some FieldType.char) ∈ tbG := wd_t4 (i := 156) rfl rfl
theorem wd_1003 : Cond.fieldLink "java/lang/StringUTF16" 44 "java/lang/StringUTF16" "$assertionsDisabled" "Z" ∈ tbG := wd_t4 (i := 157) rfl rfl
theorem wd_1005 : Cond.fieldLink "java/lang/StringUTF16" 59 "java/lang/StringUTF16" "HI_BYTE_SHIFT" "I" ∈ tbG := wd_t4 (i := 159) rfl rfl
theorem wd_1007 : Cond.fieldLink "java/lang/StringUTF16" 63 "java/lang/StringUTF16" "LO_BYTE_SHIFT" "I" ∈ tbG := wd_t4 (i := 161) rfl rfl
theorem wd_1018 : Cond.methodLink RX6 150 yX6_refuse ∈ tbG := wd_t4 (i := 172) rfl rfl
theorem wd_1020 : Cond.instanceMethod yX6_refuse ∈ tbG := wd_t4 (i := 174) rfl rfl
theorem wd_1021 : Cond.code yX6_refuse cX6_refuse 2 (some FieldType.boolean) ∈ tbG := wd_t4 (i := 175) rfl rfl
theorem wd_1022 : Cond.methodLink RX6 153 yX6_readRoot ∈ tbG := wd_t4 (i := 176) rfl rfl
theorem wd_1024 : Cond.instanceMethod yX6_readRoot ∈ tbG := wd_t4 (i := 178) rfl rfl
theorem wd_1025 : Cond.code yX6_readRoot cX6_readRoot 5 (some FieldType.boolean) ∈ tbG := wd_t4 (i := 179) rfl rfl
theorem wd_1026 : Cond.methodLink RX6 176 yX6_checkNumber ∈ tbG := wd_t4 (i := 180) rfl rfl
theorem wd_1028 : Cond.instanceMethod yX6_checkNumber ∈ tbG := wd_t4 (i := 182) rfl rfl
theorem wd_1029 : Cond.code yX6_checkNumber cX6_checkNumber 3 (some FieldType.boolean) ∈ tbG := wd_t4 (i := 183) rfl rfl
theorem wd_1030 : Cond.methodLink RX6 199 yJ9_min_7cf53 ∈ tbG := wd_t4 (i := 184) rfl rfl
theorem wd_1031 : Cond.methodLink RX6 209 yX9_rootOn ∈ tbG := wd_t4 (i := 185) rfl rfl
theorem wd_1032 : Cond.methodLink RX6 214 yX5_addRoot ∈ tbG := wd_t4 (i := 186) rfl rfl
theorem wd_1033 : Cond.instanceMethod yX5_addRoot ∈ tbG := wd_t4 (i := 187) rfl rfl
theorem wd_1034 : Cond.selects RX5 yX5_addRoot yX5_addRoot ∈ tbG := wd_t4 (i := 188) rfl rfl
theorem wd_1035 : Cond.code yX5_addRoot cX5_addRoot 5 none ∈ tbG := wd_t4 (i := 189) rfl rfl
theorem wd_1036 : Cond.methodLink RX5 61 yX9_setRoot ∈ tbG := wd_t4 (i := 190) rfl rfl
theorem wd_1037 : Cond.instanceMethod yX9_setRoot ∈ tbG := wd_t4 (i := 191) rfl rfl
theorem wd_1038 : Cond.selects RX9 yX9_setRoot yX9_setRoot ∈ tbG := wd_t4 (i := 192) rfl rfl
theorem wd_1039 : Cond.code yX9_setRoot cX9_setRoot 5 none ∈ tbG := wd_t4 (i := 193) rfl rfl
theorem wd_1040 : Cond.methodLink RX6 156 yX6_readLineEnd ∈ tbG := wd_t4 (i := 194) rfl rfl
theorem wd_1042 : Cond.instanceMethod yX6_readLineEnd ∈ tbG := wd_t4 (i := 196) rfl rfl
theorem wd_1043 : Cond.code yX6_readLineEnd cX6_readLineEnd 1 (some FieldType.boolean) ∈ tbG := wd_t4 (i := 197) rfl rfl
theorem wd_1044 : Cond.methodLink RX6 173 yX6_isAtSign ∈ tbG := wd_t4 (i := 198) rfl rfl
theorem wd_1046 : Cond.instanceMethod yX6_isAtSign ∈ tbG := wd_t4 (i := 200) rfl rfl
theorem wd_1047 : Cond.code yX6_isAtSign cX6_isAtSign 2 (some FieldType.boolean) ∈ tbG := wd_t4 (i := 201) rfl rfl
theorem wd_1048 : Cond.methodLink RX6 159 yX6_readRow ∈ tbG := wd_t4 (i := 202) rfl rfl
theorem wd_1050 : Cond.instanceMethod yX6_readRow ∈ tbG := wd_t4 (i := 204) rfl rfl
theorem wd_1051 : Cond.code yX6_readRow cX6_readRow 5 (some FieldType.boolean) ∈ tbG := wd_t4 (i := 205) rfl rfl
theorem wd_1053 : Cond.methodLink RX6 186 yX5_addWeather ∈ tbG := wd_t4 (i := 207) rfl rfl
theorem wd_1054 : Cond.instanceMethod yX5_addWeather ∈ tbG := wd_t4 (i := 208) rfl rfl
theorem wd_1055 : Cond.selects RX5 yX5_addWeather yX5_addWeather ∈ tbG := wd_t4 (i := 209) rfl rfl
theorem wd_1056 : Cond.code yX5_addWeather cX5_addWeather 2 none ∈ tbG := wd_t4 (i := 210) rfl rfl
theorem wd_1057 : Cond.methodLink RX6 190 yX5_addTuneNote ∈ tbG := wd_t4 (i := 211) rfl rfl
theorem wd_1058 : Cond.instanceMethod yX5_addTuneNote ∈ tbG := wd_t4 (i := 212) rfl rfl
theorem wd_1059 : Cond.selects RX5 yX5_addTuneNote yX5_addTuneNote ∈ tbG := wd_t4 (i := 213) rfl rfl
theorem wd_1060 : Cond.code yX5_addTuneNote cX5_addTuneNote 2 none ∈ tbG := wd_t4 (i := 214) rfl rfl
theorem wd_1061 : Cond.methodLink RX6 193 yX5_addChange ∈ tbG := wd_t4 (i := 215) rfl rfl
theorem wd_1062 : Cond.instanceMethod yX5_addChange ∈ tbG := wd_t4 (i := 216) rfl rfl
theorem wd_1063 : Cond.selects RX5 yX5_addChange yX5_addChange ∈ tbG := wd_t4 (i := 217) rfl rfl
theorem wd_1064 : Cond.code yX5_addChange cX5_addChange 2 none ∈ tbG := wd_t4 (i := 218) rfl rfl
theorem wd_1065 : Cond.methodLink RX5 65 yX9_setChange ∈ tbG := wd_t4 (i := 219) rfl rfl
theorem wd_1066 : Cond.instanceMethod yX9_setChange ∈ tbG := wd_t4 (i := 220) rfl rfl
theorem wd_1067 : Cond.selects RX9 yX9_setChange yX9_setChange ∈ tbG := wd_t4 (i := 221) rfl rfl
theorem wd_1068 : Cond.code yX9_setChange cX9_setChange 3 none ∈ tbG := wd_t4 (i := 222) rfl rfl
theorem wd_1069 : Cond.methodLink RX6 163 yX6_readLasts ∈ tbG := wd_t4 (i := 223) rfl rfl
theorem wd_1071 : Cond.instanceMethod yX6_readLasts ∈ tbG := wd_t4 (i := 225) rfl rfl
theorem wd_1072 : Cond.code yX6_readLasts cX6_readLasts 1 (some FieldType.boolean) ∈ tbG := wd_t4 (i := 226) rfl rfl
theorem wd_1073 : Cond.methodLink RX6 166 yX6_readExpr ∈ tbG := wd_t4 (i := 227) rfl rfl
theorem wd_1075 : Cond.instanceMethod yX6_readExpr ∈ tbG := wd_t4 (i := 229) rfl rfl
theorem wd_1076 : Cond.code yX6_readExpr cX6_readExpr 4 (some FieldType.boolean) ∈ tbG := wd_t4 (i := 230) rfl rfl
theorem wd_1077 : Cond.methodLink RX6 218 yX6_isExprWhole ∈ tbG := wd_t4 (i := 231) rfl rfl
theorem wd_1079 : Cond.instanceMethod yX6_isExprWhole ∈ tbG := wd_t4 (i := 233) rfl rfl
theorem wd_1080 : Cond.code yX6_isExprWhole cX6_isExprWhole 1 (some FieldType.boolean) ∈ tbG := wd_t4 (i := 234) rfl rfl
theorem wd_1081 : Cond.methodLink RX6 221 yX6_readOperator ∈ tbG := wd_t4 (i := 235) rfl rfl
theorem wd_1083 : Cond.instanceMethod yX6_readOperator ∈ tbG := wd_t4 (i := 237) rfl rfl
theorem wd_1084 : Cond.code yX6_readOperator cX6_readOperator 4 (some FieldType.boolean) ∈ tbG := wd_t4 (i := 238) rfl rfl
theorem wd_1085 : Cond.methodLink RX6 244 yX8_close ∈ tbG := wd_t4 (i := 239) rfl rfl
theorem wd_1086 : Cond.instanceMethod yX8_close ∈ tbG := wd_t5 (i := 0) rfl rfl
theorem wd_1087 : Cond.selects RX8 yX8_close yX8_close ∈ tbG := wd_t5 (i := 1) rfl rfl
theorem wd_1088 : Cond.code yX8_close cX8_close 1 none ∈ tbG := wd_t5 (i := 2) rfl rfl
theorem wd_1089 : Cond.methodLink RX8 34 yX8_putWaiting ∈ tbG := wd_t5 (i := 3) rfl rfl
theorem wd_1091 : Cond.instanceMethod yX8_putWaiting ∈ tbG := wd_t5 (i := 5) rfl rfl
theorem wd_1092 : Cond.code yX8_putWaiting cX8_putWaiting 2 none ∈ tbG := wd_t5 (i := 6) rfl rfl
theorem wd_1093 : Cond.methodLink RX6 247 yX6_operatorHere ∈ tbG := wd_t5 (i := 7) rfl rfl
theorem wd_1095 : Cond.instanceMethod yX6_operatorHere ∈ tbG := wd_t5 (i := 9) rfl rfl
theorem wd_1096 : Cond.code yX6_operatorHere cX6_operatorHere 1 (some FieldType.int) ∈ tbG := wd_t5 (i := 10) rfl rfl
theorem wd_1099 : Cond.methodLink RX6 234 yX8_join ∈ tbG := wd_t5 (i := 13) rfl rfl
theorem wd_1100 : Cond.instanceMethod yX8_join ∈ tbG := wd_t5 (i := 14) rfl rfl
theorem wd_1101 : Cond.selects RX8 yX8_join yX8_join ∈ tbG := wd_t5 (i := 15) rfl rfl
theorem wd_1102 : Cond.code yX8_join cX8_join 2 none ∈ tbG := wd_t5 (i := 16) rfl rfl
theorem wd_1103 : Cond.methodLink RX6 224 yX6_readOperand ∈ tbG := wd_t5 (i := 17) rfl rfl
theorem wd_1105 : Cond.instanceMethod yX6_readOperand ∈ tbG := wd_t5 (i := 19) rfl rfl
theorem wd_1106 : Cond.code yX6_readOperand cX6_readOperand 2 (some FieldType.boolean) ∈ tbG := wd_t5 (i := 20) rfl rfl
theorem wd_1108 : Cond.methodLink RX6 237 yX6_valueWord ∈ tbG := wd_t5 (i := 22) rfl rfl
theorem wd_1110 : Cond.instanceMethod yX6_valueWord ∈ tbG := wd_t5 (i := 24) rfl rfl
theorem wd_1111 : Cond.code yX6_valueWord cX6_valueWord 1 (some FieldType.int) ∈ tbG := wd_t5 (i := 25) rfl rfl
theorem wd_1118 : Cond.methodLink RX6 240 yX8_putOperand ∈ tbG := wd_t5 (i := 32) rfl rfl
theorem wd_1119 : Cond.instanceMethod yX8_putOperand ∈ tbG := wd_t5 (i := 33) rfl rfl
theorem wd_1120 : Cond.selects RX8 yX8_putOperand yX8_putOperand ∈ tbG := wd_t5 (i := 34) rfl rfl
theorem wd_1121 : Cond.code yX8_putOperand cX8_putOperand 3 none ∈ tbG := wd_t5 (i := 35) rfl rfl
theorem wd_1122 : Cond.methodLink RX6 227 yX8_finish ∈ tbG := wd_t5 (i := 36) rfl rfl
theorem wd_1123 : Cond.instanceMethod yX8_finish ∈ tbG := wd_t5 (i := 37) rfl rfl
theorem wd_1124 : Cond.selects RX8 yX8_finish yX8_finish ∈ tbG := wd_t5 (i := 38) rfl rfl
theorem wd_1125 : Cond.code yX8_finish cX8_finish 1 none ∈ tbG := wd_t5 (i := 39) rfl rfl
theorem wd_1126 : Cond.methodLink RX11 119 yX6_faultPlace ∈ tbG := wd_t5 (i := 40) rfl rfl
theorem wd_1127 : Cond.instanceMethod yX6_faultPlace ∈ tbG := wd_t5 (i := 41) rfl rfl
theorem wd_1128 : Cond.selects RX6 yX6_faultPlace yX6_faultPlace ∈ tbG := wd_t5 (i := 42) rfl rfl
theorem wd_1129 : Cond.code yX6_faultPlace cX6_faultPlace 1 (some FieldType.int) ∈ tbG := wd_t5 (i := 43) rfl rfl
theorem wd_1130 : Cond.methodLink RX11 122 yX6_handOver ∈ tbG := wd_t5 (i := 44) rfl rfl
theorem wd_1131 : Cond.instanceMethod yX6_handOver ∈ tbG := wd_t5 (i := 45) rfl rfl
theorem wd_1132 : Cond.selects RX6 yX6_handOver yX6_handOver ∈ tbG := wd_t5 (i := 46) rfl rfl
theorem wd_1133 : Cond.code yX6_handOver cX6_handOver 3 (Option.some (FieldType.object RX5)) ∈ tbG := wd_t5 (i := 47) rfl rfl
theorem wd_1134 : Cond.methodLink RX11 133 yX0_clear ∈ tbG := wd_t5 (i := 48) rfl rfl
theorem wd_1135 : Cond.instanceMethod yX0_clear ∈ tbG := wd_t5 (i := 49) rfl rfl
theorem wd_1136 : Cond.selects RX0 yX0_clear yX0_clear ∈ tbG := wd_t5 (i := 50) rfl rfl
theorem wd_1137 : Cond.code yX0_clear cX0_clear 1 none ∈ tbG := wd_t5 (i := 51) rfl rfl
theorem wd_1138 : Cond.methodLink RL 130 yL_count ∈ tbG := wd_t5 (i := 52) rfl rfl
theorem wd_1139 : Cond.static yL_count ∈ tbG := wd_t5 (i := 53) rfl rfl
theorem wd_1140 : Cond.codeWith yL_count cL_count 4 (some FieldType.int) [(0, 9, 12, 18)] ∈ tbG := wd_t5 (i := 54) rfl rfl
theorem wd_1141 : Cond.classLink RL 18 "java/util/NoSuchElementException" ∈ tbG := wd_t5 (i := 55) rfl rfl
theorem wd_1142 : Cond.methodLink RL 15 yX11_count ∈ tbG := wd_t5 (i := 56) rfl rfl
theorem wd_1143 : Cond.instanceMethod yX11_count ∈ tbG := wd_t5 (i := 57) rfl rfl
theorem wd_1144 : Cond.selects RX11 yX11_count yX11_count ∈ tbG := wd_t5 (i := 58) rfl rfl
theorem wd_1145 : Cond.code yX11_count cX11_count 2 (some FieldType.int) ∈ tbG := wd_t5 (i := 59) rfl rfl
theorem wd_1146 : Cond.methodLink RX11 143 yX11_hangingBits ∈ tbG := wd_t5 (i := 60) rfl rfl
theorem wd_1148 : Cond.instanceMethod yX11_hangingBits ∈ tbG := wd_t5 (i := 62) rfl rfl
theorem wd_1149 : Cond.code yX11_hangingBits cX11_hangingBits 1 (some FieldType.int) ∈ tbG := wd_t5 (i := 63) rfl rfl
theorem wd_1150 : Cond.methodLink RX11 169 yX11_bitsAt ∈ tbG := wd_t5 (i := 64) rfl rfl
theorem wd_1152 : Cond.instanceMethod yX11_bitsAt ∈ tbG := wd_t5 (i := 66) rfl rfl
theorem wd_1153 : Cond.code yX11_bitsAt cX11_bitsAt 4 (some FieldType.int) ∈ tbG := wd_t5 (i := 67) rfl rfl
theorem wd_1154 : Cond.methodLink RX11 146 yJ6_bitCount_0f7a4 ∈ tbG := wd_t5 (i := 68) rfl rfl
theorem wd_1155 : Cond.static yJ6_bitCount_0f7a4 ∈ tbG := wd_t5 (i := 69) rfl rfl
theorem wd_1156 : Cond.code yJ6_bitCount_0f7a4 cJ6_bitCount_0f7a4 1 (some FieldType.int) ∈ tbG := wd_t5 (i := 70) rfl rfl
theorem wd_1157 : Cond.constant "java/lang/Integer" 265 1431655765 ∈ tbG := wd_t5 (i := 71) rfl rfl
theorem wd_1158 : Cond.constant "java/lang/Integer" 266 858993459 ∈ tbG := wd_t5 (i := 72) rfl rfl
theorem wd_1159 : Cond.constant "java/lang/Integer" 267 252645135 ∈ tbG := wd_t5 (i := 73) rfl rfl
theorem wd_1160 : Cond.classLink RX11 180 "java/util/NoSuchElementException" ∈ tbG := wd_t5 (i := 74) rfl rfl
theorem wd_1161 : Cond.instantiable "java/util/NoSuchElementException" 6 ∈ tbG := wd_t5 (i := 75) rfl rfl
theorem wd_1163 : Cond.selects "java/util/NoSuchElementException" ⟨"java/lang/Throwable", "fillInStackTrace", "(I)Ljava/lang/Throwable;"⟩ ⟨"java/lang/Throwable", "fillInStackTrace", "(I)Ljava/lang/Throwable;"⟩ ∈ tbG := wd_t5 (i := 77) rfl rfl
theorem wd_1170 : Cond.methodLink RX11 184 ⟨"java/util/NoSuchElementException", "<init>", "(Ljava/lang/String;)V"⟩ ∈ tbG := wd_t5 (i := 84) rfl rfl
theorem wd_1171 : Cond.instanceMethod ⟨"java/util/NoSuchElementException", "<init>", "(Ljava/lang/String;)V"⟩ ∈ tbG := wd_t5 (i := 85) rfl rfl
theorem wd_1172 : Cond.code ⟨"java/util/NoSuchElementException", "<init>", "(Ljava/lang/String;)V"⟩ prog_30_method_4_code 2 none ∈ tbG := wd_t5 (i := 86) rfl rfl
theorem wd_1173 : Cond.methodLink "java/util/NoSuchElementException" 13 ⟨"java/lang/RuntimeException", "<init>", "(Ljava/lang/String;)V"⟩ ∈ tbG := wd_t5 (i := 87) rfl rfl
theorem wd_1176 : Cond.methodLink RL 133 yL_root ∈ tbG := wd_t5 (i := 90) rfl rfl
theorem wd_1177 : Cond.static yL_root ∈ tbG := wd_t5 (i := 91) rfl rfl
theorem wd_1178 : Cond.codeWith yL_root cL_root 5 (some FieldType.int) [(0, 10, 13, 18)] ∈ tbG := wd_t5 (i := 92) rfl rfl
theorem wd_1179 : Cond.methodLink RL 20 yX11_root ∈ tbG := wd_t5 (i := 93) rfl rfl
theorem wd_1180 : Cond.instanceMethod yX11_root ∈ tbG := wd_t5 (i := 94) rfl rfl
theorem wd_1181 : Cond.selects RX11 yX11_root yX11_root ∈ tbG := wd_t5 (i := 95) rfl rfl
theorem wd_1182 : Cond.code yX11_root cX11_root 3 (some FieldType.int) ∈ tbG := wd_t5 (i := 96) rfl rfl
theorem wd_1183 : Cond.methodLink RX11 185 yX11_checkRoot ∈ tbG := wd_t5 (i := 97) rfl rfl
theorem wd_1185 : Cond.instanceMethod yX11_checkRoot ∈ tbG := wd_t5 (i := 99) rfl rfl
theorem wd_1186 : Cond.code yX11_checkRoot cX11_checkRoot 2 none ∈ tbG := wd_t5 (i := 100) rfl rfl
theorem wd_1188 : Cond.methodLink RX11 188 yX5_kindOf ∈ tbG := wd_t5 (i := 102) rfl rfl
theorem wd_1189 : Cond.methodLink RX11 191 yX9_sizeOf ∈ tbG := wd_t5 (i := 103) rfl rfl
theorem wd_1190 : Cond.methodLink RX11 194 yX9_hollowOf ∈ tbG := wd_t5 (i := 104) rfl rfl
theorem wd_1191 : Cond.methodLink RX11 197 yX9_softnessOf ∈ tbG := wd_t5 (i := 105) rfl rfl
theorem wd_1192 : Cond.methodLink RX11 200 yX9_noteOf ∈ tbG := wd_t5 (i := 106) rfl rfl
theorem wd_1193 : Cond.methodLink RX11 207 yX9_roomToHollow ∈ tbG := wd_t5 (i := 107) rfl rfl
theorem wd_1194 : Cond.instanceMethod yX9_roomToHollow ∈ tbG := wd_t5 (i := 108) rfl rfl
theorem wd_1195 : Cond.selects RX9 yX9_roomToHollow yX9_roomToHollow ∈ tbG := wd_t5 (i := 109) rfl rfl
theorem wd_1196 : Cond.code yX9_roomToHollow cX9_roomToHollow 3 (some FieldType.int) ∈ tbG := wd_t5 (i := 110) rfl rfl
theorem wd_1198 : Cond.methodLink RL 137 yL_hook ∈ tbG := wd_t5 (i := 112) rfl rfl
theorem wd_1199 : Cond.static yL_hook ∈ tbG := wd_t5 (i := 113) rfl rfl
theorem wd_1200 : Cond.codeWith yL_hook cL_hook 4 (some FieldType.int) [(0, 9, 12, 18)] ∈ tbG := wd_t5 (i := 114) rfl rfl
theorem wd_1201 : Cond.methodLink RL 24 yX11_hook ∈ tbG := wd_t5 (i := 115) rfl rfl
theorem wd_1202 : Cond.instanceMethod yX11_hook ∈ tbG := wd_t5 (i := 116) rfl rfl
theorem wd_1203 : Cond.selects RX11 yX11_hook yX11_hook ∈ tbG := wd_t5 (i := 117) rfl rfl
theorem wd_1204 : Cond.code yX11_hook cX11_hook 2 (some FieldType.int) ∈ tbG := wd_t5 (i := 118) rfl rfl
theorem wd_1205 : Cond.methodLink RX11 212 yX11_checkHook ∈ tbG := wd_t5 (i := 119) rfl rfl
theorem wd_1207 : Cond.instanceMethod yX11_checkHook ∈ tbG := wd_t5 (i := 121) rfl rfl
theorem wd_1208 : Cond.code yX11_checkHook cX11_checkHook 2 none ∈ tbG := wd_t5 (i := 122) rfl rfl
theorem wd_1210 : Cond.methodLink RX11 215 yX9_rootOn ∈ tbG := wd_t5 (i := 124) rfl rfl
theorem wd_1211 : Cond.methodLink RL 140 yL_tune ∈ tbG := wd_t5 (i := 125) rfl rfl
theorem wd_1212 : Cond.static yL_tune ∈ tbG := wd_t5 (i := 126) rfl rfl
theorem wd_1213 : Cond.codeWith yL_tune cL_tune 4 (some FieldType.int) [(0, 9, 12, 18)] ∈ tbG := wd_t5 (i := 127) rfl rfl
theorem wd_1214 : Cond.methodLink RL 27 yX11_tune ∈ tbG := wd_t5 (i := 128) rfl rfl
theorem wd_1215 : Cond.instanceMethod yX11_tune ∈ tbG := wd_t5 (i := 129) rfl rfl
theorem wd_1216 : Cond.selects RX11 yX11_tune yX11_tune ∈ tbG := wd_t5 (i := 130) rfl rfl
theorem wd_1217 : Cond.code yX11_tune cX11_tune 2 (some FieldType.int) ∈ tbG := wd_t5 (i := 131) rfl rfl
theorem wd_1219 : Cond.methodLink RX11 220 yX5_tuneNote ∈ tbG := wd_t5 (i := 133) rfl rfl
theorem wd_1220 : Cond.instanceMethod yX5_tuneNote ∈ tbG := wd_t5 (i := 134) rfl rfl
theorem wd_1221 : Cond.selects RX5 yX5_tuneNote yX5_tuneNote ∈ tbG := wd_t5 (i := 135) rfl rfl
theorem wd_1222 : Cond.code yX5_tuneNote cX5_tuneNote 2 (some FieldType.int) ∈ tbG := wd_t5 (i := 136) rfl rfl
theorem wd_1223 : Cond.methodLink RL 143 yL_change ∈ tbG := wd_t5 (i := 137) rfl rfl
theorem wd_1224 : Cond.static yL_change ∈ tbG := wd_t5 (i := 138) rfl rfl
theorem wd_1225 : Cond.codeWith yL_change cL_change 4 (some FieldType.int) [(0, 9, 12, 18)] ∈ tbG := wd_t5 (i := 139) rfl rfl
theorem wd_1226 : Cond.methodLink RL 30 yX11_change ∈ tbG := wd_t5 (i := 140) rfl rfl
theorem wd_1227 : Cond.instanceMethod yX11_change ∈ tbG := wd_t5 (i := 141) rfl rfl
theorem wd_1228 : Cond.selects RX11 yX11_change yX11_change ∈ tbG := wd_t5 (i := 142) rfl rfl
theorem wd_1229 : Cond.code yX11_change cX11_change 2 (some FieldType.int) ∈ tbG := wd_t5 (i := 143) rfl rfl
theorem wd_1230 : Cond.methodLink RX11 223 yX11_checkChange ∈ tbG := wd_t5 (i := 144) rfl rfl
theorem wd_1232 : Cond.instanceMethod yX11_checkChange ∈ tbG := wd_t5 (i := 146) rfl rfl
theorem wd_1233 : Cond.code yX11_checkChange cX11_checkChange 2 none ∈ tbG := wd_t5 (i := 147) rfl rfl
theorem wd_1235 : Cond.methodLink RX11 226 yX9_changeAt ∈ tbG := wd_t5 (i := 149) rfl rfl
theorem wd_1236 : Cond.methodLink RL 150 yL_hang ∈ tbG := wd_t5 (i := 150) rfl rfl
theorem wd_1237 : Cond.static yL_hang ∈ tbG := wd_t5 (i := 151) rfl rfl
theorem wd_1238 : Cond.codeWith yL_hang cL_hang 5 (some FieldType.int) [(0, 10, 13, 18)] ∈ tbG := wd_t5 (i := 152) rfl rfl
theorem wd_1239 : Cond.methodLink RL 33 yX11_hang ∈ tbG := wd_t5 (i := 153) rfl rfl
theorem wd_1240 : Cond.instanceMethod yX11_hang ∈ tbG := wd_t5 (i := 154) rfl rfl
theorem wd_1241 : Cond.selects RX11 yX11_hang yX11_hang ∈ tbG := wd_t5 (i := 155) rfl rfl
theorem wd_1242 : Cond.code yX11_hang cX11_hang 4 (some FieldType.int) ∈ tbG := wd_t5 (i := 156) rfl rfl
theorem wd_1243 : Cond.methodLink RX11 239 yX9_setPlace ∈ tbG := wd_t5 (i := 157) rfl rfl
theorem wd_1244 : Cond.instanceMethod yX9_setPlace ∈ tbG := wd_t5 (i := 158) rfl rfl
theorem wd_1245 : Cond.selects RX9 yX9_setPlace yX9_setPlace ∈ tbG := wd_t5 (i := 159) rfl rfl
theorem wd_1246 : Cond.code yX9_setPlace cX9_setPlace 3 none ∈ tbG := wd_t5 (i := 160) rfl rfl
theorem wd_1247 : Cond.methodLink RL 153 yL_take ∈ tbG := wd_t5 (i := 161) rfl rfl
theorem wd_1248 : Cond.static yL_take ∈ tbG := wd_t5 (i := 162) rfl rfl
theorem wd_1249 : Cond.codeWith yL_take cL_take 4 (some FieldType.int) [(0, 9, 12, 18)] ∈ tbG := wd_t5 (i := 163) rfl rfl
theorem wd_1250 : Cond.methodLink RL 36 yX11_take ∈ tbG := wd_t5 (i := 164) rfl rfl
theorem wd_1251 : Cond.instanceMethod yX11_take ∈ tbG := wd_t5 (i := 165) rfl rfl
theorem wd_1252 : Cond.selects RX11 yX11_take yX11_take ∈ tbG := wd_t5 (i := 166) rfl rfl
theorem wd_1253 : Cond.code yX11_take cX11_take 3 (some FieldType.int) ∈ tbG := wd_t5 (i := 167) rfl rfl
theorem wd_1254 : Cond.methodLink RL 156 yL_hollow ∈ tbG := wd_t5 (i := 168) rfl rfl
theorem wd_1255 : Cond.static yL_hollow ∈ tbG := wd_t5 (i := 169) rfl rfl
theorem wd_1256 : Cond.codeWith yL_hollow cL_hollow 5 (some FieldType.int) [(0, 10, 13, 18)] ∈ tbG := wd_t5 (i := 170) rfl rfl
theorem wd_1257 : Cond.methodLink RL 39 yX11_hollow ∈ tbG := wd_t5 (i := 171) rfl rfl
theorem wd_1258 : Cond.instanceMethod yX11_hollow ∈ tbG := wd_t5 (i := 172) rfl rfl
theorem wd_1259 : Cond.selects RX11 yX11_hollow yX11_hollow ∈ tbG := wd_t5 (i := 173) rfl rfl
theorem wd_1260 : Cond.code yX11_hollow cX11_hollow 3 (some FieldType.int) ∈ tbG := wd_t5 (i := 174) rfl rfl
theorem wd_1261 : Cond.methodLink RX11 243 yX9_setHollow ∈ tbG := wd_t5 (i := 175) rfl rfl
theorem wd_1262 : Cond.instanceMethod yX9_setHollow ∈ tbG := wd_t5 (i := 176) rfl rfl
theorem wd_1263 : Cond.selects RX9 yX9_setHollow yX9_setHollow ∈ tbG := wd_t5 (i := 177) rfl rfl
theorem wd_1264 : Cond.code yX9_setHollow cX9_setHollow 3 none ∈ tbG := wd_t5 (i := 178) rfl rfl
theorem wd_1265 : Cond.methodLink RL 159 yL_eat ∈ tbG := wd_t5 (i := 179) rfl rfl
theorem wd_1266 : Cond.static yL_eat ∈ tbG := wd_t5 (i := 180) rfl rfl
theorem wd_1267 : Cond.codeWith yL_eat cL_eat 4 (some FieldType.int) [(0, 16, 19, 18)] ∈ tbG := wd_t5 (i := 181) rfl rfl
theorem wd_1268 : Cond.methodLink RL 42 yX11_eat ∈ tbG := wd_t5 (i := 182) rfl rfl
theorem wd_1269 : Cond.instanceMethod yX11_eat ∈ tbG := wd_t5 (i := 183) rfl rfl
theorem wd_1270 : Cond.selects RX11 yX11_eat yX11_eat ∈ tbG := wd_t5 (i := 184) rfl rfl
theorem wd_1271 : Cond.code yX11_eat cX11_eat 2 (some FieldType.boolean) ∈ tbG := wd_t5 (i := 185) rfl rfl
theorem wd_1272 : Cond.methodLink RL 162 yL_alter ∈ tbG := wd_t5 (i := 186) rfl rfl
theorem wd_1273 : Cond.static yL_alter ∈ tbG := wd_t5 (i := 187) rfl rfl
theorem wd_1274 : Cond.codeWith yL_alter cL_alter 5 (some FieldType.int) [(0, 10, 13, 18)] ∈ tbG := wd_t5 (i := 188) rfl rfl
theorem wd_1275 : Cond.methodLink RL 46 yX11_alter ∈ tbG := wd_t5 (i := 189) rfl rfl
theorem wd_1276 : Cond.instanceMethod yX11_alter ∈ tbG := wd_t5 (i := 190) rfl rfl
theorem wd_1277 : Cond.selects RX11 yX11_alter yX11_alter ∈ tbG := wd_t5 (i := 191) rfl rfl
theorem wd_1278 : Cond.code yX11_alter cX11_alter 4 (some FieldType.int) ∈ tbG := wd_t5 (i := 192) rfl rfl
theorem wd_1279 : Cond.methodLink RX11 246 yX11_isChangeNumber ∈ tbG := wd_t5 (i := 193) rfl rfl
theorem wd_1280 : Cond.methodLink RX11 250 yX9_setChange ∈ tbG := wd_t5 (i := 194) rfl rfl
theorem wd_1281 : Cond.methodLink RL 169 yL_then ∈ tbG := wd_t5 (i := 195) rfl rfl
theorem wd_1282 : Cond.static yL_then ∈ tbG := wd_t5 (i := 196) rfl rfl
theorem wd_1283 : Cond.codeWith yL_then cL_then 5 (some FieldType.int) [(0, 10, 13, 18), (0, 10, 17, 13)] ∈ tbG := wd_t5 (i := 197) rfl rfl
theorem wd_1284 : Cond.methodLink RL 49 yX11_then ∈ tbG := wd_t5 (i := 198) rfl rfl
theorem wd_1285 : Cond.instanceMethod yX11_then ∈ tbG := wd_t5 (i := 199) rfl rfl
theorem wd_1286 : Cond.selects RX11 yX11_then yX11_then ∈ tbG := wd_t5 (i := 200) rfl rfl
theorem wd_1287 : Cond.code yX11_then cX11_then 3 (some FieldType.int) ∈ tbG := wd_t5 (i := 201) rfl rfl
theorem wd_1288 : Cond.methodLink RX11 257 yX11_checkFar ∈ tbG := wd_t5 (i := 202) rfl rfl
theorem wd_1290 : Cond.instanceMethod yX11_checkFar ∈ tbG := wd_t5 (i := 204) rfl rfl
theorem wd_1291 : Cond.code yX11_checkFar cX11_checkFar 2 none ∈ tbG := wd_t5 (i := 205) rfl rfl
theorem wd_1293 : Cond.methodLink RX11 264 yX1_noteOn ∈ tbG := wd_t5 (i := 207) rfl rfl
theorem wd_1294 : Cond.methodLink RL 172 yL_goes ∈ tbG := wd_t5 (i := 208) rfl rfl
theorem wd_1295 : Cond.static yL_goes ∈ tbG := wd_t5 (i := 209) rfl rfl
theorem wd_1296 : Cond.codeWith yL_goes cL_goes 4 (some FieldType.int) [(0, 9, 12, 18)] ∈ tbG := wd_t5 (i := 210) rfl rfl
theorem wd_1297 : Cond.methodLink RL 52 yX11_goes ∈ tbG := wd_t5 (i := 211) rfl rfl
theorem wd_1298 : Cond.instanceMethod yX11_goes ∈ tbG := wd_t5 (i := 212) rfl rfl
theorem wd_1299 : Cond.selects RX11 yX11_goes yX11_goes ∈ tbG := wd_t5 (i := 213) rfl rfl
theorem wd_1300 : Cond.code yX11_goes cX11_goes 2 (some FieldType.int) ∈ tbG := wd_t5 (i := 214) rfl rfl
theorem wd_1301 : Cond.methodLink RL 175 yL_rings ∈ tbG := wd_t5 (i := 215) rfl rfl
theorem wd_1302 : Cond.static yL_rings ∈ tbG := wd_t5 (i := 216) rfl rfl
theorem wd_1303 : Cond.codeWith yL_rings cL_rings 4 (some FieldType.int) [(0, 16, 19, 13)] ∈ tbG := wd_t5 (i := 217) rfl rfl
theorem wd_1304 : Cond.methodLink RL 55 yX11_rings ∈ tbG := wd_t5 (i := 218) rfl rfl
theorem wd_1305 : Cond.instanceMethod yX11_rings ∈ tbG := wd_t5 (i := 219) rfl rfl
theorem wd_1306 : Cond.selects RX11 yX11_rings yX11_rings ∈ tbG := wd_t5 (i := 220) rfl rfl
theorem wd_1307 : Cond.code yX11_rings cX11_rings 2 (some FieldType.boolean) ∈ tbG := wd_t5 (i := 221) rfl rfl
theorem wd_1308 : Cond.methodLink RL 186 yL_order ∈ tbG := wd_t5 (i := 222) rfl rfl
theorem wd_1309 : Cond.static yL_order ∈ tbG := wd_t5 (i := 223) rfl rfl
theorem wd_1310 : Cond.codeWith yL_order cL_order 4 (some FieldType.int) [(0, 9, 12, 18)] ∈ tbG := wd_t5 (i := 224) rfl rfl
theorem wd_1311 : Cond.methodLink RL 58 yX11_order ∈ tbG := wd_t5 (i := 225) rfl rfl
theorem wd_1312 : Cond.instanceMethod yX11_order ∈ tbG := wd_t5 (i := 226) rfl rfl
theorem wd_1313 : Cond.selects RX11 yX11_order yX11_order ∈ tbG := wd_t5 (i := 227) rfl rfl
theorem wd_1314 : Cond.code yX11_order cX11_order 4 (some FieldType.int) ∈ tbG := wd_t5 (i := 228) rfl rfl
theorem wd_1315 : Cond.methodLink RX11 279 yX11_goingBefore ∈ tbG := wd_t5 (i := 229) rfl rfl
theorem wd_1317 : Cond.instanceMethod yX11_goingBefore ∈ tbG := wd_t5 (i := 231) rfl rfl
theorem wd_1318 : Cond.code yX11_goingBefore cX11_goingBefore 6 (some FieldType.int) ∈ tbG := wd_t5 (i := 232) rfl rfl
theorem wd_1319 : Cond.methodLink RX11 438 yX11_goingRank ∈ tbG := wd_t5 (i := 233) rfl rfl
theorem wd_1321 : Cond.instanceMethod yX11_goingRank ∈ tbG := wd_t5 (i := 235) rfl rfl
theorem wd_1322 : Cond.code yX11_goingRank cX11_goingRank 3 (some FieldType.int) ∈ tbG := wd_t5 (i := 236) rfl rfl
theorem wd_1324 : Cond.methodLink RL 189 yL_row ∈ tbG := wd_t5 (i := 238) rfl rfl
theorem wd_1325 : Cond.static yL_row ∈ tbG := wd_t5 (i := 239) rfl rfl
theorem wd_1326 : Cond.codeWith yL_row cL_row 4 (some FieldType.int) [(0, 9, 12, 13)] ∈ tbG := wd_t6 (i := 0) rfl rfl
theorem wd_1327 : Cond.methodLink RL 61 yX11_row ∈ tbG := wd_t6 (i := 1) rfl rfl
theorem wd_1328 : Cond.instanceMethod yX11_row ∈ tbG := wd_t6 (i := 2) rfl rfl
theorem wd_1329 : Cond.selects RX11 yX11_row yX11_row ∈ tbG := wd_t6 (i := 3) rfl rfl
theorem wd_1330 : Cond.code yX11_row cX11_row 2 (some FieldType.int) ∈ tbG := wd_t6 (i := 4) rfl rfl
theorem wd_1331 : Cond.methodLink RX11 284 yX11_checkChanges ∈ tbG := wd_t6 (i := 5) rfl rfl
theorem wd_1333 : Cond.instanceMethod yX11_checkChanges ∈ tbG := wd_t6 (i := 7) rfl rfl
theorem wd_1334 : Cond.code yX11_checkChanges cX11_checkChanges 2 none ∈ tbG := wd_t6 (i := 8) rfl rfl
theorem wd_1336 : Cond.methodLink RX11 291 yX7_numberBehind ∈ tbG := wd_t6 (i := 10) rfl rfl
theorem wd_1337 : Cond.instanceMethod yX7_numberBehind ∈ tbG := wd_t6 (i := 11) rfl rfl
theorem wd_1338 : Cond.selects RX7 yX7_numberBehind yX7_numberBehind ∈ tbG := wd_t6 (i := 12) rfl rfl
theorem wd_1339 : Cond.code yX7_numberBehind cX7_numberBehind 5 (some FieldType.int) ∈ tbG := wd_t6 (i := 13) rfl rfl
theorem wd_1340 : Cond.methodLink RX7 52 yX7_rowBehind ∈ tbG := wd_t6 (i := 14) rfl rfl
theorem wd_1342 : Cond.instanceMethod yX7_rowBehind ∈ tbG := wd_t6 (i := 16) rfl rfl
theorem wd_1343 : Cond.code yX7_rowBehind cX7_rowBehind 4 (some FieldType.int) ∈ tbG := wd_t6 (i := 17) rfl rfl
theorem wd_1344 : Cond.methodLink RL 192 yL_at ∈ tbG := wd_t6 (i := 18) rfl rfl
theorem wd_1345 : Cond.static yL_at ∈ tbG := wd_t6 (i := 19) rfl rfl
theorem wd_1346 : Cond.codeWith yL_at cL_at 5 (some FieldType.int) [(0, 10, 13, 18), (0, 10, 17, 13)] ∈ tbG := wd_t6 (i := 20) rfl rfl
theorem wd_1347 : Cond.methodLink RL 64 yX11_at ∈ tbG := wd_t6 (i := 21) rfl rfl
theorem wd_1348 : Cond.instanceMethod yX11_at ∈ tbG := wd_t6 (i := 22) rfl rfl
theorem wd_1349 : Cond.selects RX11 yX11_at yX11_at ∈ tbG := wd_t6 (i := 23) rfl rfl
theorem wd_1350 : Cond.code yX11_at cX11_at 3 (some FieldType.int) ∈ tbG := wd_t6 (i := 24) rfl rfl
theorem wd_1351 : Cond.methodLink RX11 294 yX7_bells ∈ tbG := wd_t6 (i := 25) rfl rfl
theorem wd_1352 : Cond.instanceMethod yX7_bells ∈ tbG := wd_t6 (i := 26) rfl rfl
theorem wd_1353 : Cond.selects RX7 yX7_bells yX7_bells ∈ tbG := wd_t6 (i := 27) rfl rfl
theorem wd_1354 : Cond.code yX7_bells cX7_bells 1 (some FieldType.int) ∈ tbG := wd_t6 (i := 28) rfl rfl
theorem wd_1356 : Cond.methodLink RX11 299 yX7_rootAt ∈ tbG := wd_t6 (i := 30) rfl rfl
theorem wd_1357 : Cond.instanceMethod yX7_rootAt ∈ tbG := wd_t6 (i := 31) rfl rfl
theorem wd_1358 : Cond.selects RX7 yX7_rootAt yX7_rootAt ∈ tbG := wd_t6 (i := 32) rfl rfl
theorem wd_1359 : Cond.code yX7_rootAt cX7_rootAt 4 (some FieldType.int) ∈ tbG := wd_t6 (i := 33) rfl rfl
theorem wd_1360 : Cond.methodLink RL 208 yL_fit ∈ tbG := wd_t6 (i := 34) rfl rfl
theorem wd_1361 : Cond.static yL_fit ∈ tbG := wd_t6 (i := 35) rfl rfl
theorem wd_1362 : Cond.codeWith yL_fit cL_fit 4 (some FieldType.int) [(0, 9, 12, 18)] ∈ tbG := wd_t6 (i := 36) rfl rfl
theorem wd_1363 : Cond.methodLink RL 67 yX11_fit ∈ tbG := wd_t6 (i := 37) rfl rfl
theorem wd_1364 : Cond.instanceMethod yX11_fit ∈ tbG := wd_t6 (i := 38) rfl rfl
theorem wd_1365 : Cond.selects RX11 yX11_fit yX11_fit ∈ tbG := wd_t6 (i := 39) rfl rfl
theorem wd_1366 : Cond.code yX11_fit cX11_fit 2 (some FieldType.int) ∈ tbG := wd_t6 (i := 40) rfl rfl
theorem wd_1367 : Cond.methodLink RX11 311 yX2_workOut ∈ tbG := wd_t6 (i := 41) rfl rfl
theorem wd_1368 : Cond.instanceMethod yX2_workOut ∈ tbG := wd_t6 (i := 42) rfl rfl
theorem wd_1369 : Cond.selects RX2 yX2_workOut yX2_workOut ∈ tbG := wd_t6 (i := 43) rfl rfl
theorem wd_1370 : Cond.code yX2_workOut cX2_workOut 4 none ∈ tbG := wd_t6 (i := 44) rfl rfl
theorem wd_1371 : Cond.constant RX2 35 1000000 ∈ tbG := wd_t6 (i := 45) rfl rfl
theorem wd_1372 : Cond.methodLink RX2 36 yX9_placeOf ∈ tbG := wd_t6 (i := 46) rfl rfl
theorem wd_1373 : Cond.methodLink RX2 42 yX2_findNeeds ∈ tbG := wd_t6 (i := 47) rfl rfl
theorem wd_1375 : Cond.instanceMethod yX2_findNeeds ∈ tbG := wd_t6 (i := 49) rfl rfl
theorem wd_1376 : Cond.code yX2_findNeeds cX2_findNeeds 8 none ∈ tbG := wd_t6 (i := 50) rfl rfl
theorem wd_1377 : Cond.methodLink RX2 49 yX9_roomToHollow ∈ tbG := wd_t6 (i := 51) rfl rfl
theorem wd_1378 : Cond.methodLink RX2 52 yX9_noteOf ∈ tbG := wd_t6 (i := 52) rfl rfl
theorem wd_1379 : Cond.methodLink RX2 56 yX5_tuneNote ∈ tbG := wd_t6 (i := 53) rfl rfl
theorem wd_1380 : Cond.methodLink RX2 46 yX2_leastBehind ∈ tbG := wd_t6 (i := 54) rfl rfl
theorem wd_1382 : Cond.instanceMethod yX2_leastBehind ∈ tbG := wd_t6 (i := 56) rfl rfl
theorem wd_1383 : Cond.code yX2_leastBehind cX2_leastBehind 5 (some FieldType.int) ∈ tbG := wd_t6 (i := 57) rfl rfl
theorem wd_1384 : Cond.methodLink RX2 59 yJ6_bitCount_0f7a4 ∈ tbG := wd_t6 (i := 58) rfl rfl
theorem wd_1385 : Cond.methodLink RX2 64 yX2_leastBy ∈ tbG := wd_t6 (i := 59) rfl rfl
theorem wd_1387 : Cond.instanceMethod yX2_leastBy ∈ tbG := wd_t6 (i := 61) rfl rfl
theorem wd_1388 : Cond.code yX2_leastBy cX2_leastBy 6 (some FieldType.int) ∈ tbG := wd_t6 (i := 62) rfl rfl
theorem wd_1389 : Cond.methodLink RX2 68 yJ9_min_7cf53 ∈ tbG := wd_t6 (i := 63) rfl rfl
theorem wd_1390 : Cond.methodLink RX11 314 yX2_total ∈ tbG := wd_t6 (i := 64) rfl rfl
theorem wd_1391 : Cond.instanceMethod yX2_total ∈ tbG := wd_t6 (i := 65) rfl rfl
theorem wd_1392 : Cond.selects RX2 yX2_total yX2_total ∈ tbG := wd_t6 (i := 66) rfl rfl
theorem wd_1393 : Cond.code yX2_total cX2_total 1 (some FieldType.int) ∈ tbG := wd_t6 (i := 67) rfl rfl
theorem wd_1394 : Cond.methodLink RX11 317 yX2_rootFor ∈ tbG := wd_t6 (i := 68) rfl rfl
theorem wd_1395 : Cond.instanceMethod yX2_rootFor ∈ tbG := wd_t6 (i := 69) rfl rfl
theorem wd_1396 : Cond.selects RX2 yX2_rootFor yX2_rootFor ∈ tbG := wd_t6 (i := 70) rfl rfl
theorem wd_1397 : Cond.code yX2_rootFor cX2_rootFor 5 (some FieldType.int) ∈ tbG := wd_t6 (i := 71) rfl rfl
theorem wd_1398 : Cond.methodLink RX2 74 yX2_firstBest ∈ tbG := wd_t6 (i := 72) rfl rfl
theorem wd_1400 : Cond.instanceMethod yX2_firstBest ∈ tbG := wd_t6 (i := 74) rfl rfl
theorem wd_1401 : Cond.code yX2_firstBest cX2_firstBest 5 (some FieldType.int) ∈ tbG := wd_t6 (i := 75) rfl rfl
theorem wd_1402 : Cond.methodLink RL 228 yL_eaten ∈ tbG := wd_t6 (i := 76) rfl rfl
theorem wd_1403 : Cond.static yL_eaten ∈ tbG := wd_t6 (i := 77) rfl rfl
theorem wd_1404 : Cond.codeWith yL_eaten cL_eaten 4 (some FieldType.int) [(0, 9, 12, 18)] ∈ tbG := wd_t6 (i := 78) rfl rfl
theorem wd_1405 : Cond.methodLink RL 70 yX11_eaten ∈ tbG := wd_t6 (i := 79) rfl rfl
theorem wd_1406 : Cond.instanceMethod yX11_eaten ∈ tbG := wd_t6 (i := 80) rfl rfl
theorem wd_1407 : Cond.selects RX11 yX11_eaten yX11_eaten ∈ tbG := wd_t6 (i := 81) rfl rfl
theorem wd_1408 : Cond.code yX11_eaten cX11_eaten 2 (some FieldType.int) ∈ tbG := wd_t6 (i := 82) rfl rfl
theorem wd_1410 : Cond.methodLink RX11 335 yX3_agrees ∈ tbG := wd_t6 (i := 84) rfl rfl
theorem wd_1411 : Cond.instanceMethod yX3_agrees ∈ tbG := wd_t6 (i := 85) rfl rfl
theorem wd_1412 : Cond.selects RX3 yX3_agrees yX3_agrees ∈ tbG := wd_t6 (i := 86) rfl rfl
theorem wd_1413 : Cond.code yX3_agrees cX3_agrees 10 (some FieldType.boolean) ∈ tbG := wd_t6 (i := 87) rfl rfl
theorem wd_1414 : Cond.methodLink RX3 35 yX4_many ∈ tbG := wd_t6 (i := 88) rfl rfl
theorem wd_1415 : Cond.methodLink RX3 40 yX4_dayOf ∈ tbG := wd_t6 (i := 89) rfl rfl
theorem wd_1416 : Cond.instanceMethod yX4_dayOf ∈ tbG := wd_t6 (i := 90) rfl rfl
theorem wd_1417 : Cond.selects RX4 yX4_dayOf yX4_dayOf ∈ tbG := wd_t6 (i := 91) rfl rfl
theorem wd_1418 : Cond.code yX4_dayOf cX4_dayOf 2 (some FieldType.int) ∈ tbG := wd_t6 (i := 92) rfl rfl
theorem wd_1419 : Cond.methodLink RX3 44 yX1_soundingOn ∈ tbG := wd_t6 (i := 93) rfl rfl
theorem wd_1420 : Cond.methodLink RX3 49 yX1_noteBits ∈ tbG := wd_t6 (i := 94) rfl rfl
theorem wd_1421 : Cond.methodLink RX3 53 yX4_isSo ∈ tbG := wd_t6 (i := 95) rfl rfl
theorem wd_1422 : Cond.instanceMethod yX4_isSo ∈ tbG := wd_t6 (i := 96) rfl rfl
theorem wd_1423 : Cond.selects RX4 yX4_isSo yX4_isSo ∈ tbG := wd_t6 (i := 97) rfl rfl
theorem wd_1424 : Cond.code yX4_isSo cX4_isSo 3 (some FieldType.boolean) ∈ tbG := wd_t6 (i := 98) rfl rfl
theorem wd_1425 : Cond.methodLink RX11 339 yX3_find ∈ tbG := wd_t6 (i := 99) rfl rfl
theorem wd_1426 : Cond.instanceMethod yX3_find ∈ tbG := wd_t6 (i := 100) rfl rfl
theorem wd_1427 : Cond.selects RX3 yX3_find yX3_find ∈ tbG := wd_t6 (i := 101) rfl rfl
theorem wd_1428 : Cond.code yX3_find cX3_find 7 none ∈ tbG := wd_t6 (i := 102) rfl rfl
theorem wd_1429 : Cond.methodLink RX3 31 yX3_agrees ∈ tbG := wd_t6 (i := 103) rfl rfl
theorem wd_1430 : Cond.methodLink RX11 343 yX3_many ∈ tbG := wd_t6 (i := 104) rfl rfl
theorem wd_1431 : Cond.instanceMethod yX3_many ∈ tbG := wd_t6 (i := 105) rfl rfl
theorem wd_1432 : Cond.selects RX3 yX3_many yX3_many ∈ tbG := wd_t6 (i := 106) rfl rfl
theorem wd_1433 : Cond.code yX3_many cX3_many 1 (some FieldType.int) ∈ tbG := wd_t6 (i := 107) rfl rfl
theorem wd_1434 : Cond.methodLink RX11 344 yX3_first ∈ tbG := wd_t6 (i := 108) rfl rfl
theorem wd_1435 : Cond.instanceMethod yX3_first ∈ tbG := wd_t6 (i := 109) rfl rfl
theorem wd_1436 : Cond.selects RX3 yX3_first yX3_first ∈ tbG := wd_t6 (i := 110) rfl rfl
theorem wd_1437 : Cond.code yX3_first cX3_first 1 (some FieldType.int) ∈ tbG := wd_t6 (i := 111) rfl rfl
theorem wd_1438 : Cond.methodLink RL 231 yL_next ∈ tbG := wd_t6 (i := 112) rfl rfl
theorem wd_1439 : Cond.static yL_next ∈ tbG := wd_t6 (i := 113) rfl rfl
theorem wd_1440 : Cond.codeWith yL_next cL_next 4 (some FieldType.int) [(0, 9, 12, 18)] ∈ tbG := wd_t6 (i := 114) rfl rfl
theorem wd_1441 : Cond.methodLink RL 73 yX11_next ∈ tbG := wd_t6 (i := 115) rfl rfl
theorem wd_1442 : Cond.instanceMethod yX11_next ∈ tbG := wd_t6 (i := 116) rfl rfl
theorem wd_1443 : Cond.selects RX11 yX11_next yX11_next ∈ tbG := wd_t6 (i := 117) rfl rfl
theorem wd_1444 : Cond.code yX11_next cX11_next 2 (some FieldType.int) ∈ tbG := wd_t6 (i := 118) rfl rfl
theorem wd_1445 : Cond.methodLink RX11 347 yX11_checkTwo ∈ tbG := wd_t6 (i := 119) rfl rfl
theorem wd_1447 : Cond.instanceMethod yX11_checkTwo ∈ tbG := wd_t6 (i := 121) rfl rfl
theorem wd_1448 : Cond.code yX11_checkTwo cX11_checkTwo 2 none ∈ tbG := wd_t6 (i := 122) rfl rfl
theorem wd_1450 : Cond.methodLink RX11 350 yX3_findDay ∈ tbG := wd_t6 (i := 124) rfl rfl
theorem wd_1451 : Cond.instanceMethod yX3_findDay ∈ tbG := wd_t6 (i := 125) rfl rfl
theorem wd_1452 : Cond.selects RX3 yX3_findDay yX3_findDay ∈ tbG := wd_t6 (i := 126) rfl rfl
theorem wd_1453 : Cond.code yX3_findDay cX3_findDay 4 none ∈ tbG := wd_t6 (i := 127) rfl rfl
theorem wd_1454 : Cond.methodLink RX3 57 yX3_unlikeSets ∈ tbG := wd_t6 (i := 128) rfl rfl
theorem wd_1456 : Cond.instanceMethod yX3_unlikeSets ∈ tbG := wd_t6 (i := 130) rfl rfl
theorem wd_1457 : Cond.code yX3_unlikeSets cX3_unlikeSets 8 (some FieldType.int) ∈ tbG := wd_t6 (i := 131) rfl rfl
theorem wd_1458 : Cond.methodLink RX3 61 yJ9_min_7cf53 ∈ tbG := wd_t6 (i := 132) rfl rfl
theorem wd_1459 : Cond.methodLink RX3 66 yX3_withSet ∈ tbG := wd_t6 (i := 133) rfl rfl
theorem wd_1461 : Cond.instanceMethod yX3_withSet ∈ tbG := wd_t6 (i := 135) rfl rfl
theorem wd_1462 : Cond.code yX3_withSet cX3_withSet 4 (some FieldType.int) ∈ tbG := wd_t6 (i := 136) rfl rfl
theorem wd_1463 : Cond.methodLink RX11 354 yX3_tellingDay ∈ tbG := wd_t6 (i := 137) rfl rfl
theorem wd_1464 : Cond.instanceMethod yX3_tellingDay ∈ tbG := wd_t6 (i := 138) rfl rfl
theorem wd_1465 : Cond.selects RX3 yX3_tellingDay yX3_tellingDay ∈ tbG := wd_t6 (i := 139) rfl rfl
theorem wd_1466 : Cond.code yX3_tellingDay cX3_tellingDay 1 (some FieldType.int) ∈ tbG := wd_t6 (i := 140) rfl rfl
theorem wd_1467 : Cond.methodLink RX11 357 yX3_tellingSets ∈ tbG := wd_t6 (i := 141) rfl rfl
theorem wd_1468 : Cond.instanceMethod yX3_tellingSets ∈ tbG := wd_t6 (i := 142) rfl rfl
theorem wd_1469 : Cond.selects RX3 yX3_tellingSets yX3_tellingSets ∈ tbG := wd_t6 (i := 143) rfl rfl
theorem wd_1470 : Cond.code yX3_tellingSets cX3_tellingSets 1 (some FieldType.int) ∈ tbG := wd_t6 (i := 144) rfl rfl
theorem wd_1471 : Cond.methodLink RL 234 yL_game ∈ tbG := wd_t6 (i := 145) rfl rfl
theorem wd_1472 : Cond.static yL_game ∈ tbG := wd_t6 (i := 146) rfl rfl
theorem wd_1473 : Cond.codeWith yL_game cL_game 6 (some FieldType.int) [(0, 12, 15, 18), (0, 12, 19, 13)] ∈ tbG := wd_t6 (i := 147) rfl rfl
theorem wd_1474 : Cond.methodLink RL 76 yX11_game ∈ tbG := wd_t6 (i := 148) rfl rfl
theorem wd_1475 : Cond.instanceMethod yX11_game ∈ tbG := wd_t6 (i := 149) rfl rfl
theorem wd_1476 : Cond.selects RX11 yX11_game yX11_game ∈ tbG := wd_t6 (i := 150) rfl rfl
theorem wd_1477 : Cond.code yX11_game cX11_game 10 (some FieldType.int) ∈ tbG := wd_t6 (i := 151) rfl rfl
theorem wd_1479 : Cond.methodLink RX11 362 yX11_mostChoice ∈ tbG := wd_t6 (i := 153) rfl rfl
theorem wd_1481 : Cond.instanceMethod yX11_mostChoice ∈ tbG := wd_t6 (i := 155) rfl rfl
theorem wd_1482 : Cond.code yX11_mostChoice cX11_mostChoice 2 (some FieldType.int) ∈ tbG := wd_t6 (i := 156) rfl rfl
theorem wd_1483 : Cond.methodLink RX11 365 yX11_isContent ∈ tbG := wd_t6 (i := 157) rfl rfl
theorem wd_1485 : Cond.instanceMethod yX11_isContent ∈ tbG := wd_t6 (i := 159) rfl rfl
theorem wd_1486 : Cond.code yX11_isContent cX11_isContent 5 (some FieldType.boolean) ∈ tbG := wd_t6 (i := 160) rfl rfl
theorem wd_1487 : Cond.methodLink RX11 441 yX11_gainOf ∈ tbG := wd_t6 (i := 161) rfl rfl
theorem wd_1489 : Cond.instanceMethod yX11_gainOf ∈ tbG := wd_t6 (i := 163) rfl rfl
theorem wd_1490 : Cond.code yX11_gainOf cX11_gainOf 7 (some FieldType.int) ∈ tbG := wd_t6 (i := 164) rfl rfl
theorem wd_1491 : Cond.methodLink RX11 445 yX5_nearnessOf ∈ tbG := wd_t6 (i := 165) rfl rfl
theorem wd_1492 : Cond.instanceMethod yX5_nearnessOf ∈ tbG := wd_t6 (i := 166) rfl rfl
theorem wd_1493 : Cond.selects RX5 yX5_nearnessOf yX5_nearnessOf ∈ tbG := wd_t6 (i := 167) rfl rfl
theorem wd_1494 : Cond.code yX5_nearnessOf cX5_nearnessOf 4 (some FieldType.int) ∈ tbG := wd_t6 (i := 168) rfl rfl
theorem wd_1495 : Cond.methodLink RX5 69 yX5_tuneNote ∈ tbG := wd_t6 (i := 169) rfl rfl
theorem wd_1496 : Cond.methodLink RX5 73 yJ9_abs_0f7a4 ∈ tbG := wd_t6 (i := 170) rfl rfl
theorem wd_1497 : Cond.static yJ9_abs_0f7a4 ∈ tbG := wd_t6 (i := 171) rfl rfl
theorem wd_1498 : Cond.code yJ9_abs_0f7a4 cJ9_abs_0f7a4 1 (some FieldType.int) ∈ tbG := wd_t6 (i := 172) rfl rfl
theorem wd_1499 : Cond.methodLink RX5 78 yJ9_max_7cf53 ∈ tbG := wd_t6 (i := 173) rfl rfl
theorem wd_1500 : Cond.methodLink RL 238 yL_towers ∈ tbG := wd_t6 (i := 174) rfl rfl
theorem wd_1501 : Cond.static yL_towers ∈ tbG := wd_t6 (i := 175) rfl rfl
theorem wd_1502 : Cond.codeWith yL_towers cL_towers 6 (some FieldType.int) [(0, 12, 15, 18), (0, 12, 19, 13)] ∈ tbG := wd_t6 (i := 176) rfl rfl
theorem wd_1503 : Cond.methodLink RL 80 yX11_towers ∈ tbG := wd_t6 (i := 177) rfl rfl
theorem wd_1504 : Cond.instanceMethod yX11_towers ∈ tbG := wd_t6 (i := 178) rfl rfl
theorem wd_1505 : Cond.selects RX11 yX11_towers yX11_towers ∈ tbG := wd_t6 (i := 179) rfl rfl
theorem wd_1506 : Cond.code yX11_towers cX11_towers 5 (some FieldType.int) ∈ tbG := wd_t6 (i := 180) rfl rfl
theorem wd_1508 : Cond.methodLink RX11 371 yX10_begin ∈ tbG := wd_t6 (i := 182) rfl rfl
theorem wd_1509 : Cond.instanceMethod yX10_begin ∈ tbG := wd_t6 (i := 183) rfl rfl
theorem wd_1510 : Cond.selects RX10 yX10_begin yX10_begin ∈ tbG := wd_t6 (i := 184) rfl rfl
theorem wd_1511 : Cond.code yX10_begin cX10_begin 3 none ∈ tbG := wd_t6 (i := 185) rfl rfl
theorem wd_1512 : Cond.methodLink RX10 22 yX9_copyFrom ∈ tbG := wd_t6 (i := 186) rfl rfl
theorem wd_1513 : Cond.methodLink RX11 375 yX10_passDrawnDay ∈ tbG := wd_t6 (i := 187) rfl rfl
theorem wd_1514 : Cond.instanceMethod yX10_passDrawnDay ∈ tbG := wd_t6 (i := 188) rfl rfl
theorem wd_1515 : Cond.selects RX10 yX10_passDrawnDay yX10_passDrawnDay ∈ tbG := wd_t6 (i := 189) rfl rfl
theorem wd_1516 : Cond.code yX10_passDrawnDay cX10_passDrawnDay 5 none ∈ tbG := wd_t6 (i := 190) rfl rfl
theorem wd_1517 : Cond.methodLink RX10 27 yX10_draw ∈ tbG := wd_t6 (i := 191) rfl rfl
theorem wd_1519 : Cond.instanceMethod yX10_draw ∈ tbG := wd_t6 (i := 193) rfl rfl
theorem wd_1520 : Cond.code yX10_draw cX10_draw 2 (some FieldType.int) ∈ tbG := wd_t6 (i := 194) rfl rfl
theorem wd_1521 : Cond.constant RX10 26 1103515245 ∈ tbG := wd_t6 (i := 195) rfl rfl
theorem wd_1522 : Cond.methodLink RX10 36 yX9_placeOf ∈ tbG := wd_t6 (i := 196) rfl rfl
theorem wd_1523 : Cond.methodLink RX10 39 yX9_setPlace ∈ tbG := wd_t6 (i := 197) rfl rfl
theorem wd_1524 : Cond.methodLink RX10 43 yX9_soften ∈ tbG := wd_t6 (i := 198) rfl rfl
theorem wd_1525 : Cond.methodLink RX10 46 yX9_passDay ∈ tbG := wd_t6 (i := 199) rfl rfl
theorem wd_1526 : Cond.methodLink RX11 379 yX10_sounding ∈ tbG := wd_t6 (i := 200) rfl rfl
theorem wd_1527 : Cond.instanceMethod yX10_sounding ∈ tbG := wd_t6 (i := 201) rfl rfl
theorem wd_1528 : Cond.selects RX10 yX10_sounding yX10_sounding ∈ tbG := wd_t6 (i := 202) rfl rfl
theorem wd_1529 : Cond.code yX10_sounding cX10_sounding 4 (some FieldType.int) ∈ tbG := wd_t6 (i := 203) rfl rfl
theorem wd_1530 : Cond.methodLink RX10 50 yX9_softnessOf ∈ tbG := wd_t6 (i := 204) rfl rfl
theorem wd_1531 : Cond.methodLink RX11 383 yX10_gone ∈ tbG := wd_t6 (i := 205) rfl rfl
theorem wd_1532 : Cond.instanceMethod yX10_gone ∈ tbG := wd_t6 (i := 206) rfl rfl
theorem wd_1533 : Cond.selects RX10 yX10_gone yX10_gone ∈ tbG := wd_t6 (i := 207) rfl rfl
theorem wd_1534 : Cond.code yX10_gone cX10_gone 4 (some FieldType.int) ∈ tbG := wd_t6 (i := 208) rfl rfl
theorem wd_1535 : Cond.methodLink RX11 386 yX10_sizeInGarden ∈ tbG := wd_t6 (i := 209) rfl rfl
theorem wd_1536 : Cond.instanceMethod yX10_sizeInGarden ∈ tbG := wd_t6 (i := 210) rfl rfl
theorem wd_1537 : Cond.selects RX10 yX10_sizeInGarden yX10_sizeInGarden ∈ tbG := wd_t6 (i := 211) rfl rfl
theorem wd_1538 : Cond.code yX10_sizeInGarden cX10_sizeInGarden 4 (some FieldType.int) ∈ tbG := wd_t6 (i := 212) rfl rfl
theorem wd_1539 : Cond.methodLink RX10 56 yX9_sizeOf ∈ tbG := wd_t6 (i := 213) rfl rfl
theorem wd_1540 : Cond.methodLink RL 241 yL_needed ∈ tbG := wd_t6 (i := 214) rfl rfl
theorem wd_1541 : Cond.static yL_needed ∈ tbG := wd_t6 (i := 215) rfl rfl
theorem wd_1542 : Cond.codeWith yL_needed cL_needed 5 (some FieldType.int) [(0, 10, 13, 18)] ∈ tbG := wd_t6 (i := 216) rfl rfl
theorem wd_1543 : Cond.methodLink RL 83 yX11_needed ∈ tbG := wd_t6 (i := 217) rfl rfl
theorem wd_1544 : Cond.instanceMethod yX11_needed ∈ tbG := wd_t6 (i := 218) rfl rfl
theorem wd_1545 : Cond.selects RX11 yX11_needed yX11_needed ∈ tbG := wd_t6 (i := 219) rfl rfl
theorem wd_1546 : Cond.code yX11_needed cX11_needed 3 (some FieldType.int) ∈ tbG := wd_t6 (i := 220) rfl rfl
theorem wd_1547 : Cond.methodLink RX11 389 yX11_checkNote ∈ tbG := wd_t6 (i := 221) rfl rfl
theorem wd_1549 : Cond.instanceMethod yX11_checkNote ∈ tbG := wd_t6 (i := 223) rfl rfl
theorem wd_1550 : Cond.code yX11_checkNote cX11_checkNote 2 none ∈ tbG := wd_t6 (i := 224) rfl rfl
theorem wd_1552 : Cond.methodLink RX11 392 yX9_neededFor ∈ tbG := wd_t6 (i := 226) rfl rfl
theorem wd_1553 : Cond.instanceMethod yX9_neededFor ∈ tbG := wd_t6 (i := 227) rfl rfl
theorem wd_1554 : Cond.selects RX9 yX9_neededFor yX9_neededFor ∈ tbG := wd_t6 (i := 228) rfl rfl
theorem wd_1555 : Cond.code yX9_neededFor cX9_neededFor 6 (some FieldType.int) ∈ tbG := wd_t6 (i := 229) rfl rfl
theorem wd_1556 : Cond.methodLink RX9 79 yX9_roomToHollow ∈ tbG := wd_t6 (i := 230) rfl rfl
theorem wd_1557 : Cond.methodLink RX9 82 yX9_noteOf ∈ tbG := wd_t6 (i := 231) rfl rfl
theorem wd_1558 : Cond.methodLink RL 244 yL_grown ∈ tbG := wd_t6 (i := 232) rfl rfl
theorem wd_1559 : Cond.static yL_grown ∈ tbG := wd_t6 (i := 233) rfl rfl
theorem wd_1560 : Cond.codeWith yL_grown cL_grown 5 (some FieldType.int) [(0, 10, 13, 18)] ∈ tbG := wd_t6 (i := 234) rfl rfl
theorem wd_1561 : Cond.methodLink RL 86 yX11_grown ∈ tbG := wd_t6 (i := 235) rfl rfl
theorem wd_1562 : Cond.instanceMethod yX11_grown ∈ tbG := wd_t6 (i := 236) rfl rfl
theorem wd_1563 : Cond.selects RX11 yX11_grown yX11_grown ∈ tbG := wd_t6 (i := 237) rfl rfl
theorem wd_1564 : Cond.code yX11_grown cX11_grown 4 (some FieldType.int) ∈ tbG := wd_t6 (i := 238) rfl rfl
theorem wd_1565 : Cond.methodLink RL 247 yL_scale ∈ tbG := wd_t6 (i := 239) rfl rfl
theorem wd_1566 : Cond.static yL_scale ∈ tbG := wd_t7 (i := 0) rfl rfl
theorem wd_1567 : Cond.codeWith yL_scale cL_scale 4 (some FieldType.int) [(0, 9, 12, 18)] ∈ tbG := wd_t7 (i := 1) rfl rfl
theorem wd_1568 : Cond.methodLink RL 89 yX11_scale ∈ tbG := wd_t7 (i := 2) rfl rfl
theorem wd_1569 : Cond.instanceMethod yX11_scale ∈ tbG := wd_t7 (i := 3) rfl rfl
theorem wd_1570 : Cond.selects RX11 yX11_scale yX11_scale ∈ tbG := wd_t7 (i := 4) rfl rfl
theorem wd_1571 : Cond.code yX11_scale cX11_scale 7 (some FieldType.int) ∈ tbG := wd_t7 (i := 5) rfl rfl
theorem wd_1572 : Cond.methodLink RL 250 yL_mouth ∈ tbG := wd_t7 (i := 6) rfl rfl
theorem wd_1573 : Cond.static yL_mouth ∈ tbG := wd_t7 (i := 7) rfl rfl
theorem wd_1574 : Cond.codeWith yL_mouth cL_mouth 4 (some FieldType.int) [(0, 9, 12, 18)] ∈ tbG := wd_t7 (i := 8) rfl rfl
theorem wd_1575 : Cond.methodLink RL 92 yX11_mouth ∈ tbG := wd_t7 (i := 9) rfl rfl
theorem wd_1576 : Cond.instanceMethod yX11_mouth ∈ tbG := wd_t7 (i := 10) rfl rfl
theorem wd_1577 : Cond.selects RX11 yX11_mouth yX11_mouth ∈ tbG := wd_t7 (i := 11) rfl rfl
theorem wd_1578 : Cond.code yX11_mouth cX11_mouth 5 (some FieldType.int) ∈ tbG := wd_t7 (i := 12) rfl rfl
theorem wd_1579 : Cond.methodLink RX11 395 yX11_isBeyond ∈ tbG := wd_t7 (i := 13) rfl rfl
theorem wd_1581 : Cond.instanceMethod yX11_isBeyond ∈ tbG := wd_t7 (i := 15) rfl rfl
theorem wd_1582 : Cond.code yX11_isBeyond cX11_isBeyond 5 (some FieldType.boolean) ∈ tbG := wd_t7 (i := 16) rfl rfl
theorem wd_1583 : Cond.methodLink RL 253 yL_leads ∈ tbG := wd_t7 (i := 17) rfl rfl
theorem wd_1584 : Cond.static yL_leads ∈ tbG := wd_t7 (i := 18) rfl rfl
theorem wd_1585 : Cond.codeWith yL_leads cL_leads 4 (some FieldType.int) [(0, 9, 12, 18)] ∈ tbG := wd_t7 (i := 19) rfl rfl
theorem wd_1586 : Cond.methodLink RL 95 yX11_leads ∈ tbG := wd_t7 (i := 20) rfl rfl
theorem wd_1587 : Cond.instanceMethod yX11_leads ∈ tbG := wd_t7 (i := 21) rfl rfl
theorem wd_1588 : Cond.selects RX11 yX11_leads yX11_leads ∈ tbG := wd_t7 (i := 22) rfl rfl
theorem wd_1589 : Cond.code yX11_leads cX11_leads 2 (some FieldType.int) ∈ tbG := wd_t7 (i := 23) rfl rfl
theorem wd_1590 : Cond.methodLink RX11 399 yX7_leadsOf ∈ tbG := wd_t7 (i := 24) rfl rfl
theorem wd_1591 : Cond.instanceMethod yX7_leadsOf ∈ tbG := wd_t7 (i := 25) rfl rfl
theorem wd_1592 : Cond.selects RX7 yX7_leadsOf yX7_leadsOf ∈ tbG := wd_t7 (i := 26) rfl rfl
theorem wd_1593 : Cond.code yX7_leadsOf cX7_leadsOf 7 (some FieldType.int) ∈ tbG := wd_t7 (i := 27) rfl rfl
theorem wd_1594 : Cond.methodLink RX7 67 yX7_bellOf ∈ tbG := wd_t7 (i := 28) rfl rfl
theorem wd_1596 : Cond.instanceMethod yX7_bellOf ∈ tbG := wd_t7 (i := 30) rfl rfl
theorem wd_1597 : Cond.code yX7_bellOf cX7_bellOf 3 (some FieldType.int) ∈ tbG := wd_t7 (i := 31) rfl rfl
theorem wd_1598 : Cond.methodLink RX7 70 yX7_lengthRung ∈ tbG := wd_t7 (i := 32) rfl rfl
theorem wd_1599 : Cond.methodLink RL 256 yL_meets ∈ tbG := wd_t7 (i := 33) rfl rfl
theorem wd_1600 : Cond.static yL_meets ∈ tbG := wd_t7 (i := 34) rfl rfl
theorem wd_1601 : Cond.codeWith yL_meets cL_meets 5 (some FieldType.int) [(0, 10, 13, 18)] ∈ tbG := wd_t7 (i := 35) rfl rfl
theorem wd_1602 : Cond.methodLink RL 98 yX11_meets ∈ tbG := wd_t7 (i := 36) rfl rfl
theorem wd_1603 : Cond.instanceMethod yX11_meets ∈ tbG := wd_t7 (i := 37) rfl rfl
theorem wd_1604 : Cond.selects RX11 yX11_meets yX11_meets ∈ tbG := wd_t7 (i := 38) rfl rfl
theorem wd_1605 : Cond.code yX11_meets cX11_meets 3 (some FieldType.int) ∈ tbG := wd_t7 (i := 39) rfl rfl
theorem wd_1606 : Cond.methodLink RX11 402 yX7_meetingsOf ∈ tbG := wd_t7 (i := 40) rfl rfl
theorem wd_1607 : Cond.instanceMethod yX7_meetingsOf ∈ tbG := wd_t7 (i := 41) rfl rfl
theorem wd_1608 : Cond.selects RX7 yX7_meetingsOf yX7_meetingsOf ∈ tbG := wd_t7 (i := 42) rfl rfl
theorem wd_1609 : Cond.code yX7_meetingsOf cX7_meetingsOf 9 (some FieldType.int) ∈ tbG := wd_t7 (i := 43) rfl rfl
theorem wd_1610 : Cond.methodLink RX7 73 yX7_placeIn ∈ tbG := wd_t7 (i := 44) rfl rfl
theorem wd_1612 : Cond.instanceMethod yX7_placeIn ∈ tbG := wd_t7 (i := 46) rfl rfl
theorem wd_1613 : Cond.code yX7_placeIn cX7_placeIn 4 (some FieldType.int) ∈ tbG := wd_t7 (i := 47) rfl rfl
theorem wd_1614 : Cond.methodLink RX7 76 yJ9_abs_0f7a4 ∈ tbG := wd_t7 (i := 48) rfl rfl
theorem wd_1615 : Cond.methodLink RL 259 yL_without ∈ tbG := wd_t7 (i := 49) rfl rfl
theorem wd_1616 : Cond.static yL_without ∈ tbG := wd_t7 (i := 50) rfl rfl
theorem wd_1617 : Cond.codeWith yL_without cL_without 4 (some FieldType.int) [(0, 9, 12, 18)] ∈ tbG := wd_t7 (i := 51) rfl rfl
theorem wd_1618 : Cond.methodLink RL 101 yX11_without ∈ tbG := wd_t7 (i := 52) rfl rfl
theorem wd_1619 : Cond.instanceMethod yX11_without ∈ tbG := wd_t7 (i := 53) rfl rfl
theorem wd_1620 : Cond.selects RX11 yX11_without yX11_without ∈ tbG := wd_t7 (i := 54) rfl rfl
theorem wd_1621 : Cond.code yX11_without cX11_without 2 (some FieldType.int) ∈ tbG := wd_t7 (i := 55) rfl rfl
theorem wd_1622 : Cond.methodLink RL 262 yL_often ∈ tbG := wd_t7 (i := 56) rfl rfl
theorem wd_1623 : Cond.static yL_often ∈ tbG := wd_t7 (i := 57) rfl rfl
theorem wd_1624 : Cond.codeWith yL_often cL_often 4 (some FieldType.int) [(0, 9, 12, 18)] ∈ tbG := wd_t7 (i := 58) rfl rfl
theorem wd_1625 : Cond.methodLink RL 104 yX11_often ∈ tbG := wd_t7 (i := 59) rfl rfl
theorem wd_1626 : Cond.instanceMethod yX11_often ∈ tbG := wd_t7 (i := 60) rfl rfl
theorem wd_1627 : Cond.selects RX11 yX11_often yX11_often ∈ tbG := wd_t7 (i := 61) rfl rfl
theorem wd_1628 : Cond.code yX11_often cX11_often 4 (some FieldType.int) ∈ tbG := wd_t7 (i := 62) rfl rfl
theorem wd_1629 : Cond.classLink RL 108 RX12 ∈ tbG := wd_t7 (i := 63) rfl rfl
theorem wd_1630 : Cond.instantiable RX12 66 ∈ tbG := wd_t7 (i := 64) rfl rfl
theorem wd_1631 : Cond.methodLink RL 110 yX12_init ∈ tbG := wd_t7 (i := 65) rfl rfl
theorem wd_1632 : Cond.instanceMethod yX12_init ∈ tbG := wd_t7 (i := 66) rfl rfl
theorem wd_1633 : Cond.code yX12_init cX12_init 1 none ∈ tbG := wd_t7 (i := 67) rfl rfl
theorem wd_1634 : Cond.methodLink RX12 1 ⟨"java/lang/Object", "<init>", "()V"⟩ ∈ tbG := wd_t7 (i := 68) rfl rfl
theorem wd_1635 : Cond.fieldLink RX12 114 RX12 "thrown" "I" ∈ tbG := wd_t7 (i := 69) rfl rfl
theorem wd_1636 : Cond.fieldLink RX12 289 RX12 "roots" "I" ∈ tbG := wd_t7 (i := 70) rfl rfl
theorem wd_1637 : Cond.fieldLink RX12 292 RX12 "numbers" "I" ∈ tbG := wd_t7 (i := 71) rfl rfl
theorem wd_1638 : Cond.fieldLink RX12 7 RX12 "lasts" "I" ∈ tbG := wd_t7 (i := 72) rfl rfl
theorem wd_1639 : Cond.fieldLink RX12 295 RX12 "tunes" "I" ∈ tbG := wd_t7 (i := 73) rfl rfl
theorem wd_1640 : Cond.fieldLink RX12 298 RX12 "changes" "I" ∈ tbG := wd_t7 (i := 74) rfl rfl
theorem wd_1641 : Cond.fieldLink RX12 13 RX12 "noteAt" "I" ∈ tbG := wd_t7 (i := 75) rfl rfl
theorem wd_1642 : Cond.fieldLink RX12 16 RX12 "growsAt" "I" ∈ tbG := wd_t7 (i := 76) rfl rfl
theorem wd_1643 : Cond.fieldLink RX12 19 RX12 "kind" "[I" ∈ tbG := wd_t7 (i := 77) rfl rfl
theorem wd_1644 : Cond.fieldLink RX12 23 RX12 "weather" "[I" ∈ tbG := wd_t7 (i := 78) rfl rfl
theorem wd_1645 : Cond.fieldLink RX12 26 RX12 "tune" "[I" ∈ tbG := wd_t7 (i := 79) rfl rfl
theorem wd_1646 : Cond.fieldLink RX12 29 RX12 "code" "[I" ∈ tbG := wd_t7 (i := 80) rfl rfl
theorem wd_1647 : Cond.fieldLink RX12 32 RX12 "tape" "[I" ∈ tbG := wd_t7 (i := 81) rfl rfl
theorem wd_1648 : Cond.fieldLink RX12 117 RX12 "taped" "I" ∈ tbG := wd_t7 (i := 82) rfl rfl
theorem wd_1649 : Cond.fieldLink RX12 170 RX12 "faultKind" "I" ∈ tbG := wd_t7 (i := 83) rfl rfl
theorem wd_1650 : Cond.fieldLink RX12 35 RX12 "faultPlace" "I" ∈ tbG := wd_t7 (i := 84) rfl rfl
theorem wd_1651 : Cond.fieldLink RX12 38 RX12 "refused" "[I" ∈ tbG := wd_t7 (i := 85) rfl rfl
theorem wd_1652 : Cond.fieldLink RX12 124 RX12 "long1" "I" ∈ tbG := wd_t7 (i := 86) rfl rfl
theorem wd_1653 : Cond.fieldLink RX12 127 RX12 "next0" "I" ∈ tbG := wd_t7 (i := 87) rfl rfl
theorem wd_1654 : Cond.fieldLink RX12 147 RX12 "sort" "I" ∈ tbG := wd_t7 (i := 88) rfl rfl
theorem wd_1655 : Cond.fieldLink RX12 134 RX12 "place" "I" ∈ tbG := wd_t7 (i := 89) rfl rfl
theorem wd_1656 : Cond.fieldLink RX12 157 RX12 "long0" "I" ∈ tbG := wd_t7 (i := 90) rfl rfl
theorem wd_1657 : Cond.fieldLink RX12 141 RX12 "value" "I" ∈ tbG := wd_t7 (i := 91) rfl rfl
theorem wd_1658 : Cond.fieldLink RX12 144 RX12 "sign" "I" ∈ tbG := wd_t7 (i := 92) rfl rfl
theorem wd_1659 : Cond.fieldLink RX12 137 RX12 "word" "J" ∈ tbG := wd_t7 (i := 93) rfl rfl
theorem wd_1660 : Cond.fieldLink RX12 230 RX12 "newRoots" "I" ∈ tbG := wd_t7 (i := 94) rfl rfl
theorem wd_1661 : Cond.fieldLink RX12 250 RX12 "newNumbers" "I" ∈ tbG := wd_t7 (i := 95) rfl rfl
theorem wd_1662 : Cond.fieldLink RX12 261 RX12 "newLasts" "I" ∈ tbG := wd_t7 (i := 96) rfl rfl
theorem wd_1663 : Cond.fieldLink RX12 264 RX12 "newTunes" "I" ∈ tbG := wd_t7 (i := 97) rfl rfl
theorem wd_1664 : Cond.fieldLink RX12 267 RX12 "newChanges" "I" ∈ tbG := wd_t7 (i := 98) rfl rfl
theorem wd_1665 : Cond.fieldLink RX12 270 RX12 "newNoteAt" "I" ∈ tbG := wd_t7 (i := 99) rfl rfl
theorem wd_1666 : Cond.fieldLink RX12 276 RX12 "newGrowsAt" "I" ∈ tbG := wd_t7 (i := 100) rfl rfl
theorem wd_1667 : Cond.fieldLink RX12 183 RX12 "top" "I" ∈ tbG := wd_t7 (i := 101) rfl rfl
theorem wd_1668 : Cond.fieldLink RX12 186 RX12 "waiting" "I" ∈ tbG := wd_t7 (i := 102) rfl rfl
theorem wd_1669 : Cond.fieldLink RX12 202 RX12 "depth" "I" ∈ tbG := wd_t7 (i := 103) rfl rfl
theorem wd_1670 : Cond.fieldLink RX12 41 RX12 "newKind" "[I" ∈ tbG := wd_t7 (i := 104) rfl rfl
theorem wd_1671 : Cond.fieldLink RX12 44 RX12 "newWeather" "[I" ∈ tbG := wd_t7 (i := 105) rfl rfl
theorem wd_1672 : Cond.fieldLink RX12 47 RX12 "newTune" "[I" ∈ tbG := wd_t7 (i := 106) rfl rfl
theorem wd_1673 : Cond.fieldLink RX12 50 RX12 "newRow" "[I" ∈ tbG := wd_t7 (i := 107) rfl rfl
theorem wd_1674 : Cond.fieldLink RX12 53 RX12 "readCode" "[I" ∈ tbG := wd_t7 (i := 108) rfl rfl
theorem wd_1675 : Cond.fieldLink RX12 56 RX12 "waits" "[I" ∈ tbG := wd_t7 (i := 109) rfl rfl
theorem wd_1676 : Cond.fieldLink RX12 59 RX12 "tested" "[Z" ∈ tbG := wd_t7 (i := 110) rfl rfl
theorem wd_1677 : Cond.fieldLink RX12 63 RX12 "rows" "[I" ∈ tbG := wd_t7 (i := 111) rfl rfl
theorem wd_1678 : Cond.fieldLink RX12 66 RX12 "ahead" "[I" ∈ tbG := wd_t7 (i := 112) rfl rfl
theorem wd_1679 : Cond.fieldLink RX12 305 RX12 "acts" "I" ∈ tbG := wd_t7 (i := 113) rfl rfl
theorem wd_1680 : Cond.fieldLink RX12 69 RX12 "told" "[I" ∈ tbG := wd_t7 (i := 114) rfl rfl
theorem wd_1681 : Cond.fieldLink RX12 72 RX12 "pile" "[I" ∈ tbG := wd_t7 (i := 115) rfl rfl
theorem wd_1682 : Cond.fieldLink RX12 75 RX12 "drawnWeather" "I" ∈ tbG := wd_t7 (i := 116) rfl rfl
theorem wd_1683 : Cond.fieldLink RX12 78 RX12 "bell" "[I" ∈ tbG := wd_t7 (i := 117) rfl rfl
theorem wd_1684 : Cond.fieldLink RX12 81 RX12 "softer" "[I" ∈ tbG := wd_t7 (i := 118) rfl rfl
theorem wd_1685 : Cond.fieldLink RX12 84 RX12 "places" "[I" ∈ tbG := wd_t7 (i := 119) rfl rfl
theorem wd_1686 : Cond.fieldLink RX12 87 RX12 "numbersOf" "[I" ∈ tbG := wd_t7 (i := 120) rfl rfl
theorem wd_1687 : Cond.fieldLink RX12 408 RX12 "foundTwice" "Z" ∈ tbG := wd_t7 (i := 121) rfl rfl
theorem wd_1688 : Cond.fieldLink RX12 90 RX12 "costs" "[I" ∈ tbG := wd_t7 (i := 122) rfl rfl
theorem wd_1689 : Cond.fieldLink RX12 93 RX12 "leastFit" "[I" ∈ tbG := wd_t7 (i := 123) rfl rfl
theorem wd_1690 : Cond.fieldLink RX12 308 RX12 "heardMany" "I" ∈ tbG := wd_t7 (i := 124) rfl rfl
theorem wd_1691 : Cond.fieldLink RX12 96 RX12 "heard" "[I" ∈ tbG := wd_t7 (i := 125) rfl rfl
theorem wd_1692 : Cond.fieldLink RX12 99 RX12 "notesAt" "[I" ∈ tbG := wd_t7 (i := 126) rfl rfl
theorem wd_1693 : Cond.fieldLink RX12 102 RX12 "notesAll" "[I" ∈ tbG := wd_t7 (i := 127) rfl rfl
theorem wd_1694 : Cond.fieldLink RX12 442 RX12 "its" "I" ∈ tbG := wd_t7 (i := 128) rfl rfl
theorem wd_1695 : Cond.fieldLink RX12 311 RX12 "hasImage" "Z" ∈ tbG := wd_t7 (i := 129) rfl rfl
theorem wd_1696 : Cond.fieldLink RX12 458 RX12 "imageActs" "I" ∈ tbG := wd_t7 (i := 130) rfl rfl
theorem wd_1697 : Cond.fieldLink RX12 461 RX12 "imageHeard" "I" ∈ tbG := wd_t7 (i := 131) rfl rfl
theorem wd_1698 : Cond.fieldLink RX12 105 RX12 "imageRow" "[I" ∈ tbG := wd_t7 (i := 132) rfl rfl
theorem wd_1699 : Cond.fieldLink RX12 108 RX12 "imageAhead" "[I" ∈ tbG := wd_t7 (i := 133) rfl rfl
theorem wd_1700 : Cond.fieldLink RX12 111 RX12 "imageHears" "[I" ∈ tbG := wd_t7 (i := 134) rfl rfl
theorem wd_1834 : Cond.arrayClass FieldType.boolean ∈ tbG := wd_t8 (i := 28) rfl rfl
theorem wd_1835 : Cond.methodLink RL 122 yX12_thrown ∈ tbG := wd_t8 (i := 29) rfl rfl
theorem wd_1836 : Cond.instanceMethod yX12_thrown ∈ tbG := wd_t8 (i := 30) rfl rfl
theorem wd_1837 : Cond.selects RX12 yX12_thrown yX12_thrown ∈ tbG := wd_t8 (i := 31) rfl rfl
theorem wd_1838 : Cond.code yX12_thrown cX12_thrown 1 (some FieldType.int) ∈ tbG := wd_t8 (i := 32) rfl rfl
theorem wd_1839 : Cond.methodLink RL 115 yX12_feed ∈ tbG := wd_t8 (i := 33) rfl rfl
theorem wd_1840 : Cond.instanceMethod yX12_feed ∈ tbG := wd_t8 (i := 34) rfl rfl
theorem wd_1841 : Cond.selects RX12 yX12_feed yX12_feed ∈ tbG := wd_t8 (i := 35) rfl rfl
theorem wd_1842 : Cond.code yX12_feed cX12_feed 6 (some FieldType.int) ∈ tbG := wd_t8 (i := 36) rfl rfl
theorem wd_1843 : Cond.methodLink RX12 120 yX12_lays ∈ tbG := wd_t8 (i := 37) rfl rfl
theorem wd_1845 : Cond.instanceMethod yX12_lays ∈ tbG := wd_t8 (i := 39) rfl rfl
theorem wd_1846 : Cond.code yX12_lays cX12_lays 3 none ∈ tbG := wd_t8 (i := 40) rfl rfl
theorem wd_1847 : Cond.methodLink RL 121 yX12_tower ∈ tbG := wd_t8 (i := 41) rfl rfl
theorem wd_1848 : Cond.instanceMethod yX12_tower ∈ tbG := wd_t8 (i := 42) rfl rfl
theorem wd_1849 : Cond.selects RX12 yX12_tower yX12_tower ∈ tbG := wd_t8 (i := 43) rfl rfl
theorem wd_1850 : Cond.code yX12_tower cX12_tower 3 (some FieldType.int) ∈ tbG := wd_t8 (i := 44) rfl rfl
theorem wd_1851 : Cond.methodLink RX12 282 yX12_right ∈ tbG := wd_t8 (i := 45) rfl rfl
theorem wd_1853 : Cond.instanceMethod yX12_right ∈ tbG := wd_t8 (i := 47) rfl rfl
theorem wd_1854 : Cond.code yX12_right cX12_right 3 (some FieldType.boolean) ∈ tbG := wd_t8 (i := 48) rfl rfl
theorem wd_1855 : Cond.methodLink RX12 177 yX12_reads ∈ tbG := wd_t8 (i := 49) rfl rfl
theorem wd_1857 : Cond.instanceMethod yX12_reads ∈ tbG := wd_t8 (i := 51) rfl rfl
theorem wd_1858 : Cond.code yX12_reads cX12_reads 2 none ∈ tbG := wd_t8 (i := 52) rfl rfl
theorem wd_1859 : Cond.methodLink RX12 130 yX12_byteAt ∈ tbG := wd_t8 (i := 53) rfl rfl
theorem wd_1861 : Cond.instanceMethod yX12_byteAt ∈ tbG := wd_t8 (i := 55) rfl rfl
theorem wd_1862 : Cond.code yX12_byteAt cX12_byteAt 2 (some FieldType.int) ∈ tbG := wd_t8 (i := 56) rfl rfl
theorem wd_1863 : Cond.methodLink RX12 150 yX12_isLetter ∈ tbG := wd_t8 (i := 57) rfl rfl
theorem wd_1864 : Cond.static yX12_isLetter ∈ tbG := wd_t8 (i := 58) rfl rfl
theorem wd_1865 : Cond.code yX12_isLetter cX12_isLetter 1 (some FieldType.boolean) ∈ tbG := wd_t8 (i := 59) rfl rfl
theorem wd_1866 : Cond.methodLink RX12 154 yX12_isDigit ∈ tbG := wd_t8 (i := 60) rfl rfl
theorem wd_1867 : Cond.static yX12_isDigit ∈ tbG := wd_t8 (i := 61) rfl rfl
theorem wd_1868 : Cond.code yX12_isDigit cX12_isDigit 1 (some FieldType.boolean) ∈ tbG := wd_t8 (i := 62) rfl rfl
theorem wd_1869 : Cond.methodLink RX12 173 yX12_isGood ∈ tbG := wd_t8 (i := 63) rfl rfl
theorem wd_1871 : Cond.instanceMethod yX12_isGood ∈ tbG := wd_t8 (i := 65) rfl rfl
theorem wd_1872 : Cond.code yX12_isGood cX12_isGood 1 (some FieldType.boolean) ∈ tbG := wd_t8 (i := 66) rfl rfl
theorem wd_1873 : Cond.methodLink RX12 286 yX12_line ∈ tbG := wd_t8 (i := 67) rfl rfl
theorem wd_1875 : Cond.instanceMethod yX12_line ∈ tbG := wd_t8 (i := 69) rfl rfl
theorem wd_1876 : Cond.code yX12_line cX12_line 2 none ∈ tbG := wd_t8 (i := 70) rfl rfl
theorem wd_1877 : Cond.methodLink RX12 198 yX12_knownWord ∈ tbG := wd_t8 (i := 71) rfl rfl
theorem wd_1879 : Cond.instanceMethod yX12_knownWord ∈ tbG := wd_t8 (i := 73) rfl rfl
theorem wd_1880 : Cond.code yX12_knownWord cX12_knownWord 2 (some FieldType.int) ∈ tbG := wd_t8 (i := 74) rfl rfl
theorem wd_1881 : Cond.methodLink RX12 166 yX12_letters ∈ tbG := wd_t8 (i := 75) rfl rfl
theorem wd_1882 : Cond.static yX12_letters ∈ tbG := wd_t8 (i := 76) rfl rfl
theorem wd_1883 : Cond.code yX12_letters cX12_letters 1 (some FieldType.long) ∈ tbG := wd_t8 (i := 77) rfl rfl
theorem wd_1884 : Cond.methodLink RX12 162 yX12_spelled ∈ tbG := wd_t8 (i := 78) rfl rfl
theorem wd_1885 : Cond.static yX12_spelled ∈ tbG := wd_t8 (i := 79) rfl rfl
theorem wd_1886 : Cond.code yX12_spelled cX12_spelled 9 (some FieldType.long) ∈ tbG := wd_t8 (i := 80) rfl rfl
theorem wd_1887 : Cond.constantLong RX12 160 96 ∈ tbG := wd_t8 (i := 81) rfl rfl
theorem wd_1888 : Cond.methodLink RX12 247 yX12_readsRoot ∈ tbG := wd_t8 (i := 82) rfl rfl
theorem wd_1890 : Cond.instanceMethod yX12_readsRoot ∈ tbG := wd_t8 (i := 84) rfl rfl
theorem wd_1891 : Cond.code yX12_readsRoot cX12_readsRoot 4 none ∈ tbG := wd_t8 (i := 85) rfl rfl
theorem wd_1892 : Cond.methodLink RX12 180 yX12_wrong ∈ tbG := wd_t8 (i := 86) rfl rfl
theorem wd_1894 : Cond.instanceMethod yX12_wrong ∈ tbG := wd_t8 (i := 88) rfl rfl
theorem wd_1895 : Cond.code yX12_wrong cX12_wrong 2 none ∈ tbG := wd_t8 (i := 89) rfl rfl
theorem wd_1896 : Cond.methodLink RX12 233 yX12_number ∈ tbG := wd_t8 (i := 90) rfl rfl
theorem wd_1898 : Cond.instanceMethod yX12_number ∈ tbG := wd_t8 (i := 92) rfl rfl
theorem wd_1899 : Cond.code yX12_number cX12_number 4 (some FieldType.int) ∈ tbG := wd_t8 (i := 93) rfl rfl
theorem wd_1900 : Cond.methodLink RX12 237 yX12_hangsThere ∈ tbG := wd_t8 (i := 94) rfl rfl
theorem wd_1902 : Cond.instanceMethod yX12_hangsThere ∈ tbG := wd_t8 (i := 96) rfl rfl
theorem wd_1903 : Cond.code yX12_hangsThere cX12_hangsThere 3 (some FieldType.boolean) ∈ tbG := wd_t8 (i := 97) rfl rfl
theorem wd_1904 : Cond.methodLink RX12 253 yX12_begins ∈ tbG := wd_t8 (i := 98) rfl rfl
theorem wd_1906 : Cond.instanceMethod yX12_begins ∈ tbG := wd_t8 (i := 100) rfl rfl
theorem wd_1907 : Cond.code yX12_begins cX12_begins 2 (some FieldType.boolean) ∈ tbG := wd_t8 (i := 101) rfl rfl
theorem wd_1908 : Cond.methodLink RX12 257 yX12_readsMany ∈ tbG := wd_t8 (i := 102) rfl rfl
theorem wd_1910 : Cond.instanceMethod yX12_readsMany ∈ tbG := wd_t8 (i := 104) rfl rfl
theorem wd_1911 : Cond.code yX12_readsMany cX12_readsMany 9 (some FieldType.int) ∈ tbG := wd_t8 (i := 105) rfl rfl
theorem wd_1912 : Cond.methodLink RX12 244 yX12_isChange ∈ tbG := wd_t8 (i := 106) rfl rfl
theorem wd_1913 : Cond.static yX12_isChange ∈ tbG := wd_t8 (i := 107) rfl rfl
theorem wd_1914 : Cond.code yX12_isChange cX12_isChange 1 (some FieldType.boolean) ∈ tbG := wd_t8 (i := 108) rfl rfl
theorem wd_1915 : Cond.methodLink RX12 240 yX12_within ∈ tbG := wd_t8 (i := 109) rfl rfl
theorem wd_1916 : Cond.static yX12_within ∈ tbG := wd_t8 (i := 110) rfl rfl
theorem wd_1917 : Cond.code yX12_within cX12_within 3 (some FieldType.boolean) ∈ tbG := wd_t8 (i := 111) rfl rfl
theorem wd_1918 : Cond.methodLink RX12 273 yX12_expression ∈ tbG := wd_t8 (i := 112) rfl rfl
theorem wd_1920 : Cond.instanceMethod yX12_expression ∈ tbG := wd_t8 (i := 114) rfl rfl
theorem wd_1921 : Cond.code yX12_expression cX12_expression 3 none ∈ tbG := wd_t8 (i := 115) rfl rfl
theorem wd_1922 : Cond.methodLink RX12 211 yX12_deeper ∈ tbG := wd_t8 (i := 116) rfl rfl
theorem wd_1924 : Cond.instanceMethod yX12_deeper ∈ tbG := wd_t8 (i := 118) rfl rfl
theorem wd_1925 : Cond.code yX12_deeper cX12_deeper 1 none ∈ tbG := wd_t8 (i := 119) rfl rfl
theorem wd_1926 : Cond.methodLink RX12 205 yX12_isSign ∈ tbG := wd_t8 (i := 120) rfl rfl
theorem wd_1928 : Cond.instanceMethod yX12_isSign ∈ tbG := wd_t8 (i := 122) rfl rfl
theorem wd_1929 : Cond.code yX12_isSign cX12_isSign 2 (some FieldType.boolean) ∈ tbG := wd_t8 (i := 123) rfl rfl
theorem wd_1930 : Cond.methodLink RX12 220 yX12_operand ∈ tbG := wd_t8 (i := 124) rfl rfl
theorem wd_1932 : Cond.instanceMethod yX12_operand ∈ tbG := wd_t8 (i := 126) rfl rfl
theorem wd_1933 : Cond.code yX12_operand cX12_operand 5 none ∈ tbG := wd_t8 (i := 127) rfl rfl
theorem wd_1934 : Cond.methodLink RX12 208 yX12_waitsFor ∈ tbG := wd_t8 (i := 128) rfl rfl
theorem wd_1936 : Cond.instanceMethod yX12_waitsFor ∈ tbG := wd_t8 (i := 130) rfl rfl
theorem wd_1937 : Cond.code yX12_waitsFor cX12_waitsFor 2 none ∈ tbG := wd_t8 (i := 131) rfl rfl
theorem wd_1938 : Cond.methodLink RX12 214 yX12_part ∈ tbG := wd_t8 (i := 132) rfl rfl
theorem wd_1940 : Cond.instanceMethod yX12_part ∈ tbG := wd_t8 (i := 134) rfl rfl
theorem wd_1941 : Cond.code yX12_part cX12_part 2 none ∈ tbG := wd_t8 (i := 135) rfl rfl
theorem wd_1942 : Cond.methodLink RX12 195 yX12_puts ∈ tbG := wd_t8 (i := 136) rfl rfl
theorem wd_1944 : Cond.instanceMethod yX12_puts ∈ tbG := wd_t8 (i := 138) rfl rfl
theorem wd_1945 : Cond.code yX12_puts cX12_puts 2 none ∈ tbG := wd_t8 (i := 139) rfl rfl
theorem wd_1946 : Cond.methodLink RX12 217 yX12_drops ∈ tbG := wd_t8 (i := 140) rfl rfl
theorem wd_1948 : Cond.instanceMethod yX12_drops ∈ tbG := wd_t8 (i := 142) rfl rfl
theorem wd_1949 : Cond.code yX12_drops cX12_drops 2 none ∈ tbG := wd_t8 (i := 143) rfl rfl
theorem wd_1950 : Cond.methodLink RX12 189 yX12_isOpen ∈ tbG := wd_t8 (i := 144) rfl rfl
theorem wd_1951 : Cond.static yX12_isOpen ∈ tbG := wd_t8 (i := 145) rfl rfl
theorem wd_1952 : Cond.code yX12_isOpen cX12_isOpen 1 (some FieldType.boolean) ∈ tbG := wd_t8 (i := 146) rfl rfl
theorem wd_1953 : Cond.methodLink RX12 192 yX12_strength ∈ tbG := wd_t8 (i := 147) rfl rfl
theorem wd_1954 : Cond.static yX12_strength ∈ tbG := wd_t8 (i := 148) rfl rfl
theorem wd_1955 : Cond.code yX12_strength cX12_strength 1 (some FieldType.int) ∈ tbG := wd_t8 (i := 149) rfl rfl
theorem wd_1956 : Cond.methodLink RX12 224 yX12_isOpened ∈ tbG := wd_t8 (i := 150) rfl rfl
theorem wd_1958 : Cond.instanceMethod yX12_isOpened ∈ tbG := wd_t8 (i := 152) rfl rfl
theorem wd_1959 : Cond.code yX12_isOpened cX12_isOpened 2 (some FieldType.boolean) ∈ tbG := wd_t8 (i := 153) rfl rfl
theorem wd_1960 : Cond.methodLink RX12 227 yX12_closes ∈ tbG := wd_t8 (i := 154) rfl rfl
theorem wd_1962 : Cond.instanceMethod yX12_closes ∈ tbG := wd_t8 (i := 156) rfl rfl
theorem wd_1963 : Cond.code yX12_closes cX12_closes 1 none ∈ tbG := wd_t8 (i := 157) rfl rfl
theorem wd_1964 : Cond.methodLink RX12 279 yX12_need ∈ tbG := wd_t8 (i := 158) rfl rfl
theorem wd_1966 : Cond.instanceMethod yX12_need ∈ tbG := wd_t8 (i := 160) rfl rfl
theorem wd_1967 : Cond.code yX12_need cX12_need 2 none ∈ tbG := wd_t8 (i := 161) rfl rfl
theorem wd_1968 : Cond.methodLink RX12 301 yX12_copies ∈ tbG := wd_t8 (i := 162) rfl rfl
theorem wd_1970 : Cond.instanceMethod yX12_copies ∈ tbG := wd_t8 (i := 164) rfl rfl
theorem wd_1971 : Cond.code yX12_copies cX12_copies 4 none ∈ tbG := wd_t8 (i := 165) rfl rfl
theorem wd_1972 : Cond.methodLink RL 129 yX12_fault ∈ tbG := wd_t8 (i := 166) rfl rfl
theorem wd_1973 : Cond.instanceMethod yX12_fault ∈ tbG := wd_t8 (i := 167) rfl rfl
theorem wd_1974 : Cond.selects RX12 yX12_fault yX12_fault ∈ tbG := wd_t8 (i := 168) rfl rfl
theorem wd_1975 : Cond.code yX12_fault cX12_fault 1 (some FieldType.int) ∈ tbG := wd_t8 (i := 169) rfl rfl
theorem wd_1976 : Cond.methodLink RL 168 yX12_undo ∈ tbG := wd_t8 (i := 170) rfl rfl
theorem wd_1977 : Cond.instanceMethod yX12_undo ∈ tbG := wd_t8 (i := 171) rfl rfl
theorem wd_1978 : Cond.selects RX12 yX12_undo yX12_undo ∈ tbG := wd_t8 (i := 172) rfl rfl
theorem wd_1979 : Cond.code yX12_undo cX12_undo 2 (some FieldType.int) ∈ tbG := wd_t8 (i := 173) rfl rfl
theorem wd_1980 : Cond.methodLink RL 132 yX12_count ∈ tbG := wd_t8 (i := 174) rfl rfl
theorem wd_1981 : Cond.instanceMethod yX12_count ∈ tbG := wd_t8 (i := 175) rfl rfl
theorem wd_1982 : Cond.selects RX12 yX12_count yX12_count ∈ tbG := wd_t8 (i := 176) rfl rfl
theorem wd_1983 : Cond.code yX12_count cX12_count 2 (some FieldType.int) ∈ tbG := wd_t8 (i := 177) rfl rfl
theorem wd_1984 : Cond.methodLink RX12 354 yX12_bells ∈ tbG := wd_t8 (i := 178) rfl rfl
theorem wd_1986 : Cond.instanceMethod yX12_bells ∈ tbG := wd_t8 (i := 180) rfl rfl
theorem wd_1987 : Cond.code yX12_bells cX12_bells 5 (some FieldType.int) ∈ tbG := wd_t8 (i := 181) rfl rfl
theorem wd_1988 : Cond.methodLink RX12 351 yX12_whereIn ∈ tbG := wd_t8 (i := 182) rfl rfl
theorem wd_1990 : Cond.instanceMethod yX12_whereIn ∈ tbG := wd_t8 (i := 184) rfl rfl
theorem wd_1991 : Cond.code yX12_whereIn cX12_whereIn 5 (some FieldType.int) ∈ tbG := wd_t8 (i := 185) rfl rfl
theorem wd_1992 : Cond.methodLink RX12 319 yX12_weatherOf ∈ tbG := wd_t8 (i := 186) rfl rfl
theorem wd_1994 : Cond.instanceMethod yX12_weatherOf ∈ tbG := wd_t8 (i := 188) rfl rfl
theorem wd_1995 : Cond.code yX12_weatherOf cX12_weatherOf 2 (some FieldType.int) ∈ tbG := wd_t8 (i := 189) rfl rfl
theorem wd_1996 : Cond.methodLink RX12 357 yX12_soundingIn ∈ tbG := wd_t8 (i := 190) rfl rfl
theorem wd_1998 : Cond.instanceMethod yX12_soundingIn ∈ tbG := wd_t8 (i := 192) rfl rfl
theorem wd_1999 : Cond.code yX12_soundingIn cX12_soundingIn 4 (some FieldType.int) ∈ tbG := wd_t8 (i := 193) rfl rfl
theorem wd_2000 : Cond.methodLink RX12 345 yX12_sounds ∈ tbG := wd_t8 (i := 194) rfl rfl
theorem wd_2002 : Cond.instanceMethod yX12_sounds ∈ tbG := wd_t8 (i := 196) rfl rfl
theorem wd_2003 : Cond.code yX12_sounds cX12_sounds 3 (some FieldType.boolean) ∈ tbG := wd_t8 (i := 197) rfl rfl
theorem wd_2004 : Cond.methodLink RX12 322 yX12_hangs ∈ tbG := wd_t8 (i := 198) rfl rfl
theorem wd_2006 : Cond.instanceMethod yX12_hangs ∈ tbG := wd_t8 (i := 200) rfl rfl
theorem wd_2007 : Cond.code yX12_hangs cX12_hangs 3 (some FieldType.boolean) ∈ tbG := wd_t8 (i := 201) rfl rfl
theorem wd_2008 : Cond.methodLink RX12 360 yX12_notesIn ∈ tbG := wd_t8 (i := 202) rfl rfl
theorem wd_2010 : Cond.instanceMethod yX12_notesIn ∈ tbG := wd_t8 (i := 204) rfl rfl
theorem wd_2011 : Cond.code yX12_notesIn cX12_notesIn 4 (some FieldType.int) ∈ tbG := wd_t8 (i := 205) rfl rfl
theorem wd_2012 : Cond.methodLink RX12 348 yX12_noteOf ∈ tbG := wd_t8 (i := 206) rfl rfl
theorem wd_2014 : Cond.instanceMethod yX12_noteOf ∈ tbG := wd_t8 (i := 208) rfl rfl
theorem wd_2015 : Cond.code yX12_noteOf cX12_noteOf 3 (some FieldType.int) ∈ tbG := wd_t8 (i := 209) rfl rfl
theorem wd_2016 : Cond.methodLink RX12 326 yX12_kept ∈ tbG := wd_t8 (i := 210) rfl rfl
theorem wd_2017 : Cond.static yX12_kept ∈ tbG := wd_t8 (i := 211) rfl rfl
theorem wd_2018 : Cond.code yX12_kept cX12_kept 3 (some FieldType.int) ∈ tbG := wd_t8 (i := 212) rfl rfl
theorem wd_2019 : Cond.methodLink RX12 329 yX12_tells ∈ tbG := wd_t8 (i := 213) rfl rfl
theorem wd_2021 : Cond.instanceMethod yX12_tells ∈ tbG := wd_t8 (i := 215) rfl rfl
theorem wd_2022 : Cond.code yX12_tells cX12_tells 3 none ∈ tbG := wd_t8 (i := 216) rfl rfl
theorem wd_2023 : Cond.methodLink RX12 333 yX12_reckons ∈ tbG := wd_t8 (i := 217) rfl rfl
theorem wd_2025 : Cond.instanceMethod yX12_reckons ∈ tbG := wd_t8 (i := 219) rfl rfl
theorem wd_2026 : Cond.code yX12_reckons cX12_reckons 5 (some FieldType.int) ∈ tbG := wd_t8 (i := 220) rfl rfl
theorem wd_2027 : Cond.methodLink RX12 315 yX12_works ∈ tbG := wd_t8 (i := 221) rfl rfl
theorem wd_2028 : Cond.static yX12_works ∈ tbG := wd_t8 (i := 222) rfl rfl
theorem wd_2029 : Cond.code yX12_works cX12_works 3 (some FieldType.int) ∈ tbG := wd_t8 (i := 223) rfl rfl
theorem wd_2030 : Cond.methodLink RL 136 yX12_root ∈ tbG := wd_t8 (i := 224) rfl rfl
theorem wd_2031 : Cond.instanceMethod yX12_root ∈ tbG := wd_t8 (i := 225) rfl rfl
theorem wd_2032 : Cond.selects RX12 yX12_root yX12_root ∈ tbG := wd_t8 (i := 226) rfl rfl
theorem wd_2033 : Cond.code yX12_root cX12_root 3 (some FieldType.int) ∈ tbG := wd_t8 (i := 227) rfl rfl
theorem wd_2034 : Cond.methodLink RX12 363 yX12_isRoot ∈ tbG := wd_t8 (i := 228) rfl rfl
theorem wd_2036 : Cond.instanceMethod yX12_isRoot ∈ tbG := wd_t8 (i := 230) rfl rfl
theorem wd_2037 : Cond.code yX12_isRoot cX12_isRoot 2 (some FieldType.boolean) ∈ tbG := wd_t8 (i := 231) rfl rfl
theorem wd_2038 : Cond.methodLink RX12 366 yX12_isWhat ∈ tbG := wd_t8 (i := 232) rfl rfl
theorem wd_2040 : Cond.instanceMethod yX12_isWhat ∈ tbG := wd_t8 (i := 234) rfl rfl
theorem wd_2041 : Cond.code yX12_isWhat cX12_isWhat 3 (some FieldType.boolean) ∈ tbG := wd_t8 (i := 235) rfl rfl
theorem wd_2042 : Cond.methodLink RX12 369 yX12_mayBe ∈ tbG := wd_t8 (i := 236) rfl rfl
theorem wd_2044 : Cond.instanceMethod yX12_mayBe ∈ tbG := wd_t8 (i := 238) rfl rfl
theorem wd_2045 : Cond.code yX12_mayBe cX12_mayBe 4 (some FieldType.int) ∈ tbG := wd_t8 (i := 239) rfl rfl
theorem wd_2046 : Cond.methodLink RL 139 yX12_hook ∈ tbG := wd_t9 (i := 0) rfl rfl
theorem wd_2047 : Cond.instanceMethod yX12_hook ∈ tbG := wd_t9 (i := 1) rfl rfl
theorem wd_2048 : Cond.selects RX12 yX12_hook yX12_hook ∈ tbG := wd_t9 (i := 2) rfl rfl
theorem wd_2049 : Cond.code yX12_hook cX12_hook 3 (some FieldType.int) ∈ tbG := wd_t9 (i := 3) rfl rfl
theorem wd_2050 : Cond.methodLink RL 142 yX12_tune ∈ tbG := wd_t9 (i := 4) rfl rfl
theorem wd_2051 : Cond.instanceMethod yX12_tune ∈ tbG := wd_t9 (i := 5) rfl rfl
theorem wd_2052 : Cond.selects RX12 yX12_tune yX12_tune ∈ tbG := wd_t9 (i := 6) rfl rfl
theorem wd_2053 : Cond.code yX12_tune cX12_tune 2 (some FieldType.int) ∈ tbG := wd_t9 (i := 7) rfl rfl
theorem wd_2054 : Cond.methodLink RL 145 yX12_change ∈ tbG := wd_t9 (i := 8) rfl rfl
theorem wd_2055 : Cond.instanceMethod yX12_change ∈ tbG := wd_t9 (i := 9) rfl rfl
theorem wd_2056 : Cond.selects RX12 yX12_change yX12_change ∈ tbG := wd_t9 (i := 10) rfl rfl
theorem wd_2057 : Cond.code yX12_change cX12_change 2 (some FieldType.int) ∈ tbG := wd_t9 (i := 11) rfl rfl
theorem wd_2058 : Cond.methodLink RL 149 yX12_days ∈ tbG := wd_t9 (i := 12) rfl rfl
theorem wd_2059 : Cond.instanceMethod yX12_days ∈ tbG := wd_t9 (i := 13) rfl rfl
theorem wd_2060 : Cond.selects RX12 yX12_days yX12_days ∈ tbG := wd_t9 (i := 14) rfl rfl
theorem wd_2061 : Cond.code yX12_days cX12_days 3 (some FieldType.int) ∈ tbG := wd_t9 (i := 15) rfl rfl
theorem wd_2062 : Cond.methodLink RX12 372 yX12_refuses ∈ tbG := wd_t9 (i := 16) rfl rfl
theorem wd_2064 : Cond.instanceMethod yX12_refuses ∈ tbG := wd_t9 (i := 18) rfl rfl
theorem wd_2065 : Cond.code yX12_refuses cX12_refuses 2 (some FieldType.int) ∈ tbG := wd_t9 (i := 19) rfl rfl
theorem wd_2066 : Cond.methodLink RX12 375 yX12_keeps ∈ tbG := wd_t9 (i := 20) rfl rfl
theorem wd_2068 : Cond.instanceMethod yX12_keeps ∈ tbG := wd_t9 (i := 22) rfl rfl
theorem wd_2069 : Cond.code yX12_keeps cX12_keeps 2 none ∈ tbG := wd_t9 (i := 23) rfl rfl
theorem wd_2070 : Cond.methodLink RX12 342 yX12_dayGoes ∈ tbG := wd_t9 (i := 24) rfl rfl
theorem wd_2072 : Cond.instanceMethod yX12_dayGoes ∈ tbG := wd_t9 (i := 26) rfl rfl
theorem wd_2073 : Cond.code yX12_dayGoes cX12_dayGoes 4 none ∈ tbG := wd_t9 (i := 27) rfl rfl
theorem wd_2074 : Cond.methodLink RX12 336 yX12_growth ∈ tbG := wd_t9 (i := 28) rfl rfl
theorem wd_2076 : Cond.instanceMethod yX12_growth ∈ tbG := wd_t9 (i := 30) rfl rfl
theorem wd_2077 : Cond.code yX12_growth cX12_growth 3 (some FieldType.int) ∈ tbG := wd_t9 (i := 31) rfl rfl
theorem wd_2078 : Cond.methodLink RL 152 yX12_hang ∈ tbG := wd_t9 (i := 32) rfl rfl
theorem wd_2079 : Cond.instanceMethod yX12_hang ∈ tbG := wd_t9 (i := 33) rfl rfl
theorem wd_2080 : Cond.selects RX12 yX12_hang yX12_hang ∈ tbG := wd_t9 (i := 34) rfl rfl
theorem wd_2081 : Cond.code yX12_hang cX12_hang 4 (some FieldType.int) ∈ tbG := wd_t9 (i := 35) rfl rfl
theorem wd_2082 : Cond.methodLink RL 155 yX12_take ∈ tbG := wd_t9 (i := 36) rfl rfl
theorem wd_2083 : Cond.instanceMethod yX12_take ∈ tbG := wd_t9 (i := 37) rfl rfl
theorem wd_2084 : Cond.selects RX12 yX12_take yX12_take ∈ tbG := wd_t9 (i := 38) rfl rfl
theorem wd_2085 : Cond.code yX12_take cX12_take 3 (some FieldType.int) ∈ tbG := wd_t9 (i := 39) rfl rfl
theorem wd_2086 : Cond.methodLink RL 158 yX12_hollow ∈ tbG := wd_t9 (i := 40) rfl rfl
theorem wd_2087 : Cond.instanceMethod yX12_hollow ∈ tbG := wd_t9 (i := 41) rfl rfl
theorem wd_2088 : Cond.selects RX12 yX12_hollow yX12_hollow ∈ tbG := wd_t9 (i := 42) rfl rfl
theorem wd_2089 : Cond.code yX12_hollow cX12_hollow 3 (some FieldType.int) ∈ tbG := wd_t9 (i := 43) rfl rfl
theorem wd_2090 : Cond.methodLink RL 161 yX12_eat ∈ tbG := wd_t9 (i := 44) rfl rfl
theorem wd_2091 : Cond.instanceMethod yX12_eat ∈ tbG := wd_t9 (i := 45) rfl rfl
theorem wd_2092 : Cond.selects RX12 yX12_eat yX12_eat ∈ tbG := wd_t9 (i := 46) rfl rfl
theorem wd_2093 : Cond.code yX12_eat cX12_eat 2 (some FieldType.boolean) ∈ tbG := wd_t9 (i := 47) rfl rfl
theorem wd_2094 : Cond.methodLink RL 164 yX12_alter ∈ tbG := wd_t9 (i := 48) rfl rfl
theorem wd_2095 : Cond.instanceMethod yX12_alter ∈ tbG := wd_t9 (i := 49) rfl rfl
theorem wd_2096 : Cond.selects RX12 yX12_alter yX12_alter ∈ tbG := wd_t9 (i := 50) rfl rfl
theorem wd_2097 : Cond.code yX12_alter cX12_alter 4 (some FieldType.int) ∈ tbG := wd_t9 (i := 51) rfl rfl
theorem wd_2098 : Cond.methodLink RL 171 yX12_then ∈ tbG := wd_t9 (i := 52) rfl rfl
theorem wd_2099 : Cond.instanceMethod yX12_then ∈ tbG := wd_t9 (i := 53) rfl rfl
theorem wd_2100 : Cond.selects RX12 yX12_then yX12_then ∈ tbG := wd_t9 (i := 54) rfl rfl
theorem wd_2101 : Cond.code yX12_then cX12_then 3 (some FieldType.int) ∈ tbG := wd_t9 (i := 55) rfl rfl
theorem wd_2102 : Cond.methodLink RX12 378 yX12_isDays ∈ tbG := wd_t9 (i := 56) rfl rfl
theorem wd_2104 : Cond.instanceMethod yX12_isDays ∈ tbG := wd_t9 (i := 58) rfl rfl
theorem wd_2105 : Cond.code yX12_isDays cX12_isDays 3 (some FieldType.boolean) ∈ tbG := wd_t9 (i := 59) rfl rfl
theorem wd_2106 : Cond.methodLink RX12 381 yX12_daysGo ∈ tbG := wd_t9 (i := 60) rfl rfl
theorem wd_2108 : Cond.instanceMethod yX12_daysGo ∈ tbG := wd_t9 (i := 62) rfl rfl
theorem wd_2109 : Cond.code yX12_daysGo cX12_daysGo 3 none ∈ tbG := wd_t9 (i := 63) rfl rfl
theorem wd_2110 : Cond.methodLink RX12 339 yX12_tries ∈ tbG := wd_t9 (i := 64) rfl rfl
theorem wd_2112 : Cond.instanceMethod yX12_tries ∈ tbG := wd_t9 (i := 66) rfl rfl
theorem wd_2113 : Cond.code yX12_tries cX12_tries 2 none ∈ tbG := wd_t9 (i := 67) rfl rfl
theorem wd_2114 : Cond.methodLink RL 174 yX12_goes ∈ tbG := wd_t9 (i := 68) rfl rfl
theorem wd_2115 : Cond.instanceMethod yX12_goes ∈ tbG := wd_t9 (i := 69) rfl rfl
theorem wd_2116 : Cond.selects RX12 yX12_goes yX12_goes ∈ tbG := wd_t9 (i := 70) rfl rfl
theorem wd_2117 : Cond.code yX12_goes cX12_goes 3 (some FieldType.int) ∈ tbG := wd_t9 (i := 71) rfl rfl
theorem wd_2118 : Cond.methodLink RX12 384 yX12_softIn ∈ tbG := wd_t9 (i := 72) rfl rfl
theorem wd_2120 : Cond.instanceMethod yX12_softIn ∈ tbG := wd_t9 (i := 74) rfl rfl
theorem wd_2121 : Cond.code yX12_softIn cX12_softIn 3 (some FieldType.int) ∈ tbG := wd_t9 (i := 75) rfl rfl
theorem wd_2122 : Cond.methodLink RL 177 yX12_rings ∈ tbG := wd_t9 (i := 76) rfl rfl
theorem wd_2123 : Cond.instanceMethod yX12_rings ∈ tbG := wd_t9 (i := 77) rfl rfl
theorem wd_2124 : Cond.selects RX12 yX12_rings yX12_rings ∈ tbG := wd_t9 (i := 78) rfl rfl
theorem wd_2125 : Cond.code yX12_rings cX12_rings 2 (some FieldType.boolean) ∈ tbG := wd_t9 (i := 79) rfl rfl
theorem wd_2126 : Cond.methodLink RX12 387 yX12_hasTune ∈ tbG := wd_t9 (i := 80) rfl rfl
theorem wd_2128 : Cond.instanceMethod yX12_hasTune ∈ tbG := wd_t9 (i := 82) rfl rfl
theorem wd_2129 : Cond.code yX12_hasTune cX12_hasTune 3 (some FieldType.boolean) ∈ tbG := wd_t9 (i := 83) rfl rfl
theorem wd_2130 : Cond.methodLink RL 181 yX12_last ∈ tbG := wd_t9 (i := 84) rfl rfl
theorem wd_2131 : Cond.instanceMethod yX12_last ∈ tbG := wd_t9 (i := 85) rfl rfl
theorem wd_2132 : Cond.selects RX12 yX12_last yX12_last ∈ tbG := wd_t9 (i := 86) rfl rfl
theorem wd_2133 : Cond.code yX12_last cX12_last 3 (some FieldType.int) ∈ tbG := wd_t9 (i := 87) rfl rfl
theorem wd_2134 : Cond.methodLink RL 185 yX12_soft ∈ tbG := wd_t9 (i := 88) rfl rfl
theorem wd_2135 : Cond.instanceMethod yX12_soft ∈ tbG := wd_t9 (i := 89) rfl rfl
theorem wd_2136 : Cond.selects RX12 yX12_soft yX12_soft ∈ tbG := wd_t9 (i := 90) rfl rfl
theorem wd_2137 : Cond.code yX12_soft cX12_soft 3 (some FieldType.int) ∈ tbG := wd_t9 (i := 91) rfl rfl
theorem wd_2138 : Cond.methodLink RX12 390 yX12_laysSoft ∈ tbG := wd_t9 (i := 92) rfl rfl
theorem wd_2140 : Cond.instanceMethod yX12_laysSoft ∈ tbG := wd_t9 (i := 94) rfl rfl
theorem wd_2141 : Cond.code yX12_laysSoft cX12_laysSoft 2 none ∈ tbG := wd_t9 (i := 95) rfl rfl
theorem wd_2142 : Cond.methodLink RL 188 yX12_order ∈ tbG := wd_t9 (i := 96) rfl rfl
theorem wd_2143 : Cond.instanceMethod yX12_order ∈ tbG := wd_t9 (i := 97) rfl rfl
theorem wd_2144 : Cond.selects RX12 yX12_order yX12_order ∈ tbG := wd_t9 (i := 98) rfl rfl
theorem wd_2145 : Cond.code yX12_order cX12_order 6 (some FieldType.int) ∈ tbG := wd_t9 (i := 99) rfl rfl
theorem wd_2146 : Cond.methodLink RL 191 yX12_row ∈ tbG := wd_t9 (i := 100) rfl rfl
theorem wd_2147 : Cond.instanceMethod yX12_row ∈ tbG := wd_t9 (i := 101) rfl rfl
theorem wd_2148 : Cond.selects RX12 yX12_row yX12_row ∈ tbG := wd_t9 (i := 102) rfl rfl
theorem wd_2149 : Cond.code yX12_row cX12_row 2 (some FieldType.int) ∈ tbG := wd_t9 (i := 103) rfl rfl
theorem wd_2150 : Cond.methodLink RX12 399 yX12_isRow ∈ tbG := wd_t9 (i := 104) rfl rfl
theorem wd_2152 : Cond.instanceMethod yX12_isRow ∈ tbG := wd_t9 (i := 106) rfl rfl
theorem wd_2153 : Cond.code yX12_isRow cX12_isRow 3 (some FieldType.boolean) ∈ tbG := wd_t9 (i := 107) rfl rfl
theorem wd_2154 : Cond.methodLink RX12 402 yX12_ringsMany ∈ tbG := wd_t9 (i := 108) rfl rfl
theorem wd_2156 : Cond.instanceMethod yX12_ringsMany ∈ tbG := wd_t9 (i := 110) rfl rfl
theorem wd_2157 : Cond.code yX12_ringsMany cX12_ringsMany 4 (some FieldType.int) ∈ tbG := wd_t9 (i := 111) rfl rfl
theorem wd_2158 : Cond.methodLink RX12 393 yX12_rounds ∈ tbG := wd_t9 (i := 112) rfl rfl
theorem wd_2160 : Cond.instanceMethod yX12_rounds ∈ tbG := wd_t9 (i := 114) rfl rfl
theorem wd_2161 : Cond.code yX12_rounds cX12_rounds 2 none ∈ tbG := wd_t9 (i := 115) rfl rfl
theorem wd_2162 : Cond.methodLink RX12 396 yX12_rings0 ∈ tbG := wd_t9 (i := 116) rfl rfl
theorem wd_2164 : Cond.instanceMethod yX12_rings0 ∈ tbG := wd_t9 (i := 118) rfl rfl
theorem wd_2165 : Cond.code yX12_rings0 cX12_rings0 5 none ∈ tbG := wd_t9 (i := 119) rfl rfl
theorem wd_2166 : Cond.methodLink RX12 405 yX12_rowNumber ∈ tbG := wd_t9 (i := 120) rfl rfl
theorem wd_2168 : Cond.instanceMethod yX12_rowNumber ∈ tbG := wd_t9 (i := 122) rfl rfl
theorem wd_2169 : Cond.code yX12_rowNumber cX12_rowNumber 4 (some FieldType.int) ∈ tbG := wd_t9 (i := 123) rfl rfl
theorem wd_2170 : Cond.methodLink RL 194 yX12_at ∈ tbG := wd_t9 (i := 124) rfl rfl
theorem wd_2171 : Cond.instanceMethod yX12_at ∈ tbG := wd_t9 (i := 125) rfl rfl
theorem wd_2172 : Cond.selects RX12 yX12_at yX12_at ∈ tbG := wd_t9 (i := 126) rfl rfl
theorem wd_2173 : Cond.code yX12_at cX12_at 4 (some FieldType.int) ∈ tbG := wd_t9 (i := 127) rfl rfl
theorem wd_2174 : Cond.methodLink RL 198 yX12_length ∈ tbG := wd_t9 (i := 128) rfl rfl
theorem wd_2175 : Cond.instanceMethod yX12_length ∈ tbG := wd_t9 (i := 129) rfl rfl
theorem wd_2176 : Cond.selects RX12 yX12_length yX12_length ∈ tbG := wd_t9 (i := 130) rfl rfl
theorem wd_2177 : Cond.code yX12_length cX12_length 1 (some FieldType.int) ∈ tbG := wd_t9 (i := 131) rfl rfl
theorem wd_2178 : Cond.methodLink RX12 411 yX12_lengthNow ∈ tbG := wd_t9 (i := 132) rfl rfl
theorem wd_2180 : Cond.instanceMethod yX12_lengthNow ∈ tbG := wd_t9 (i := 134) rfl rfl
theorem wd_2181 : Cond.code yX12_lengthNow cX12_lengthNow 7 (some FieldType.int) ∈ tbG := wd_t9 (i := 135) rfl rfl
theorem wd_2182 : Cond.methodLink RL 203 yX12_isTrue ∈ tbG := wd_t9 (i := 136) rfl rfl
theorem wd_2183 : Cond.instanceMethod yX12_isTrue ∈ tbG := wd_t9 (i := 137) rfl rfl
theorem wd_2184 : Cond.selects RX12 yX12_isTrue yX12_isTrue ∈ tbG := wd_t9 (i := 138) rfl rfl
theorem wd_2185 : Cond.code yX12_isTrue cX12_isTrue 1 (some FieldType.boolean) ∈ tbG := wd_t9 (i := 139) rfl rfl
theorem wd_2186 : Cond.methodLink RL 207 yX12_longer ∈ tbG := wd_t9 (i := 140) rfl rfl
theorem wd_2187 : Cond.instanceMethod yX12_longer ∈ tbG := wd_t9 (i := 141) rfl rfl
theorem wd_2188 : Cond.selects RX12 yX12_longer yX12_longer ∈ tbG := wd_t9 (i := 142) rfl rfl
theorem wd_2189 : Cond.code yX12_longer cX12_longer 8 (some FieldType.int) ∈ tbG := wd_t9 (i := 143) rfl rfl
theorem wd_2190 : Cond.methodLink RL 210 yX12_fit ∈ tbG := wd_t9 (i := 144) rfl rfl
theorem wd_2191 : Cond.instanceMethod yX12_fit ∈ tbG := wd_t9 (i := 145) rfl rfl
theorem wd_2192 : Cond.selects RX12 yX12_fit yX12_fit ∈ tbG := wd_t9 (i := 146) rfl rfl
theorem wd_2193 : Cond.code yX12_fit cX12_fit 7 (some FieldType.int) ∈ tbG := wd_t9 (i := 147) rfl rfl
theorem wd_2194 : Cond.methodLink RX12 420 yX12_laysFit ∈ tbG := wd_t9 (i := 148) rfl rfl
theorem wd_2196 : Cond.instanceMethod yX12_laysFit ∈ tbG := wd_t9 (i := 150) rfl rfl
theorem wd_2197 : Cond.code yX12_laysFit cX12_laysFit 6 none ∈ tbG := wd_t9 (i := 151) rfl rfl
theorem wd_2198 : Cond.methodLink RX12 414 yX12_costOf ∈ tbG := wd_t9 (i := 152) rfl rfl
theorem wd_2200 : Cond.instanceMethod yX12_costOf ∈ tbG := wd_t9 (i := 154) rfl rfl
theorem wd_2201 : Cond.code yX12_costOf cX12_costOf 6 (some FieldType.int) ∈ tbG := wd_t9 (i := 155) rfl rfl
theorem wd_2202 : Cond.methodLink RX12 417 yX12_fitOf ∈ tbG := wd_t9 (i := 156) rfl rfl
theorem wd_2204 : Cond.instanceMethod yX12_fitOf ∈ tbG := wd_t9 (i := 158) rfl rfl
theorem wd_2205 : Cond.code yX12_fitOf cX12_fitOf 3 (some FieldType.int) ∈ tbG := wd_t9 (i := 159) rfl rfl
theorem wd_2206 : Cond.methodLink RL 214 yX12_keepers ∈ tbG := wd_t9 (i := 160) rfl rfl
theorem wd_2207 : Cond.instanceMethod yX12_keepers ∈ tbG := wd_t9 (i := 161) rfl rfl
theorem wd_2208 : Cond.selects RX12 yX12_keepers yX12_keepers ∈ tbG := wd_t9 (i := 162) rfl rfl
theorem wd_2209 : Cond.code yX12_keepers cX12_keepers 4 (some FieldType.int) ∈ tbG := wd_t9 (i := 163) rfl rfl
theorem wd_2210 : Cond.methodLink RX12 423 yX12_bits ∈ tbG := wd_t9 (i := 164) rfl rfl
theorem wd_2211 : Cond.static yX12_bits ∈ tbG := wd_t9 (i := 165) rfl rfl
theorem wd_2212 : Cond.code yX12_bits cX12_bits 3 (some FieldType.int) ∈ tbG := wd_t9 (i := 166) rfl rfl
theorem wd_2213 : Cond.methodLink RX12 426 yX12_notesOf ∈ tbG := wd_t9 (i := 167) rfl rfl
theorem wd_2215 : Cond.instanceMethod yX12_notesOf ∈ tbG := wd_t9 (i := 169) rfl rfl
theorem wd_2216 : Cond.code yX12_notesOf cX12_notesOf 4 (some FieldType.int) ∈ tbG := wd_t9 (i := 170) rfl rfl
theorem wd_2217 : Cond.methodLink RL 218 yX12_earliest ∈ tbG := wd_t9 (i := 171) rfl rfl
theorem wd_2218 : Cond.instanceMethod yX12_earliest ∈ tbG := wd_t9 (i := 172) rfl rfl
theorem wd_2219 : Cond.selects RX12 yX12_earliest yX12_earliest ∈ tbG := wd_t9 (i := 173) rfl rfl
theorem wd_2220 : Cond.code yX12_earliest cX12_earliest 4 (some FieldType.int) ∈ tbG := wd_t9 (i := 174) rfl rfl
theorem wd_2221 : Cond.methodLink RL 223 yX12_hear ∈ tbG := wd_t9 (i := 175) rfl rfl
theorem wd_2222 : Cond.instanceMethod yX12_hear ∈ tbG := wd_t9 (i := 176) rfl rfl
theorem wd_2223 : Cond.selects RX12 yX12_hear yX12_hear ∈ tbG := wd_t9 (i := 177) rfl rfl
theorem wd_2224 : Cond.code yX12_hear cX12_hear 4 (some FieldType.int) ∈ tbG := wd_t9 (i := 178) rfl rfl
theorem wd_2225 : Cond.methodLink RL 227 yX12_forget ∈ tbG := wd_t9 (i := 179) rfl rfl
theorem wd_2226 : Cond.instanceMethod yX12_forget ∈ tbG := wd_t9 (i := 180) rfl rfl
theorem wd_2227 : Cond.selects RX12 yX12_forget yX12_forget ∈ tbG := wd_t9 (i := 181) rfl rfl
theorem wd_2228 : Cond.code yX12_forget cX12_forget 1 none ∈ tbG := wd_t9 (i := 182) rfl rfl
theorem wd_2229 : Cond.methodLink RL 230 yX12_eaten ∈ tbG := wd_t9 (i := 183) rfl rfl
theorem wd_2230 : Cond.instanceMethod yX12_eaten ∈ tbG := wd_t9 (i := 184) rfl rfl
theorem wd_2231 : Cond.selects RX12 yX12_eaten yX12_eaten ∈ tbG := wd_t9 (i := 185) rfl rfl
theorem wd_2232 : Cond.code yX12_eaten cX12_eaten 5 (some FieldType.int) ∈ tbG := wd_t9 (i := 186) rfl rfl
theorem wd_2233 : Cond.methodLink RX12 429 yX12_isHeard ∈ tbG := wd_t9 (i := 187) rfl rfl
theorem wd_2235 : Cond.instanceMethod yX12_isHeard ∈ tbG := wd_t9 (i := 189) rfl rfl
theorem wd_2236 : Cond.code yX12_isHeard cX12_isHeard 4 (some FieldType.boolean) ∈ tbG := wd_t9 (i := 190) rfl rfl
theorem wd_2237 : Cond.methodLink RX12 432 yX12_isGuess ∈ tbG := wd_t9 (i := 191) rfl rfl
theorem wd_2239 : Cond.instanceMethod yX12_isGuess ∈ tbG := wd_t9 (i := 193) rfl rfl
theorem wd_2240 : Cond.code yX12_isGuess cX12_isGuess 2 (some FieldType.boolean) ∈ tbG := wd_t9 (i := 194) rfl rfl
theorem wd_2241 : Cond.methodLink RL 233 yX12_next ∈ tbG := wd_t9 (i := 195) rfl rfl
theorem wd_2242 : Cond.instanceMethod yX12_next ∈ tbG := wd_t9 (i := 196) rfl rfl
theorem wd_2243 : Cond.selects RX12 yX12_next yX12_next ∈ tbG := wd_t9 (i := 197) rfl rfl
theorem wd_2244 : Cond.code yX12_next cX12_next 10 (some FieldType.int) ∈ tbG := wd_t9 (i := 198) rfl rfl
theorem wd_2245 : Cond.methodLink RL 237 yX12_game ∈ tbG := wd_t9 (i := 199) rfl rfl
theorem wd_2246 : Cond.instanceMethod yX12_game ∈ tbG := wd_t9 (i := 200) rfl rfl
theorem wd_2247 : Cond.selects RX12 yX12_game yX12_game ∈ tbG := wd_t9 (i := 201) rfl rfl
theorem wd_2248 : Cond.code yX12_game cX12_game 11 (some FieldType.int) ∈ tbG := wd_t9 (i := 202) rfl rfl
theorem wd_2249 : Cond.methodLink RX12 438 yX12_gains ∈ tbG := wd_t9 (i := 203) rfl rfl
theorem wd_2251 : Cond.instanceMethod yX12_gains ∈ tbG := wd_t9 (i := 205) rfl rfl
theorem wd_2252 : Cond.code yX12_gains cX12_gains 9 (some FieldType.int) ∈ tbG := wd_t9 (i := 206) rfl rfl
theorem wd_2253 : Cond.methodLink RX12 435 yX12_noteWith ∈ tbG := wd_t9 (i := 207) rfl rfl
theorem wd_2255 : Cond.instanceMethod yX12_noteWith ∈ tbG := wd_t9 (i := 209) rfl rfl
theorem wd_2256 : Cond.code yX12_noteWith cX12_noteWith 3 (some FieldType.int) ∈ tbG := wd_t9 (i := 210) rfl rfl
theorem wd_2257 : Cond.methodLink RL 240 yX12_towers ∈ tbG := wd_t9 (i := 211) rfl rfl
theorem wd_2258 : Cond.instanceMethod yX12_towers ∈ tbG := wd_t9 (i := 212) rfl rfl
theorem wd_2259 : Cond.selects RX12 yX12_towers yX12_towers ∈ tbG := wd_t9 (i := 213) rfl rfl
theorem wd_2260 : Cond.code yX12_towers cX12_towers 7 (some FieldType.int) ∈ tbG := wd_t9 (i := 214) rfl rfl
theorem wd_2261 : Cond.methodLink RX12 449 yX12_happens ∈ tbG := wd_t9 (i := 215) rfl rfl
theorem wd_2263 : Cond.instanceMethod yX12_happens ∈ tbG := wd_t9 (i := 217) rfl rfl
theorem wd_2264 : Cond.code yX12_happens cX12_happens 3 none ∈ tbG := wd_t9 (i := 218) rfl rfl
theorem wd_2265 : Cond.methodLink RX12 446 yX12_draw ∈ tbG := wd_t9 (i := 219) rfl rfl
theorem wd_2267 : Cond.instanceMethod yX12_draw ∈ tbG := wd_t9 (i := 221) rfl rfl
theorem wd_2268 : Cond.code yX12_draw cX12_draw 2 (some FieldType.int) ∈ tbG := wd_t9 (i := 222) rfl rfl
theorem wd_2269 : Cond.constant RX12 445 1103515245 ∈ tbG := wd_t9 (i := 223) rfl rfl
theorem wd_2270 : Cond.methodLink RL 243 yX12_needed ∈ tbG := wd_t9 (i := 224) rfl rfl
theorem wd_2271 : Cond.instanceMethod yX12_needed ∈ tbG := wd_t9 (i := 225) rfl rfl
theorem wd_2272 : Cond.selects RX12 yX12_needed yX12_needed ∈ tbG := wd_t9 (i := 226) rfl rfl
theorem wd_2273 : Cond.code yX12_needed cX12_needed 4 (some FieldType.int) ∈ tbG := wd_t9 (i := 227) rfl rfl
theorem wd_2274 : Cond.methodLink RX12 452 yX12_isNote ∈ tbG := wd_t9 (i := 228) rfl rfl
theorem wd_2276 : Cond.instanceMethod yX12_isNote ∈ tbG := wd_t9 (i := 230) rfl rfl
theorem wd_2277 : Cond.code yX12_isNote cX12_isNote 2 (some FieldType.boolean) ∈ tbG := wd_t9 (i := 231) rfl rfl
theorem wd_2278 : Cond.methodLink RL 246 yX12_grown ∈ tbG := wd_t9 (i := 232) rfl rfl
theorem wd_2279 : Cond.instanceMethod yX12_grown ∈ tbG := wd_t9 (i := 233) rfl rfl
theorem wd_2280 : Cond.selects RX12 yX12_grown yX12_grown ∈ tbG := wd_t9 (i := 234) rfl rfl
theorem wd_2281 : Cond.code yX12_grown cX12_grown 4 (some FieldType.int) ∈ tbG := wd_t9 (i := 235) rfl rfl
theorem wd_2282 : Cond.methodLink RL 249 yX12_scale ∈ tbG := wd_t9 (i := 236) rfl rfl
theorem wd_2283 : Cond.instanceMethod yX12_scale ∈ tbG := wd_t9 (i := 237) rfl rfl
theorem wd_2284 : Cond.selects RX12 yX12_scale yX12_scale ∈ tbG := wd_t9 (i := 238) rfl rfl
theorem wd_2285 : Cond.code yX12_scale cX12_scale 7 (some FieldType.int) ∈ tbG := wd_t9 (i := 239) rfl rfl
theorem wd_2286 : Cond.methodLink RL 252 yX12_mouth ∈ tbG := wd_t10 (i := 0) rfl rfl
theorem wd_2287 : Cond.instanceMethod yX12_mouth ∈ tbG := wd_t10 (i := 1) rfl rfl
theorem wd_2288 : Cond.selects RX12 yX12_mouth yX12_mouth ∈ tbG := wd_t10 (i := 2) rfl rfl
theorem wd_2289 : Cond.code yX12_mouth cX12_mouth 6 (some FieldType.int) ∈ tbG := wd_t10 (i := 3) rfl rfl
theorem wd_2290 : Cond.methodLink RL 255 yX12_leads ∈ tbG := wd_t10 (i := 4) rfl rfl
theorem wd_2291 : Cond.instanceMethod yX12_leads ∈ tbG := wd_t10 (i := 5) rfl rfl
theorem wd_2292 : Cond.selects RX12 yX12_leads yX12_leads ∈ tbG := wd_t10 (i := 6) rfl rfl
theorem wd_2293 : Cond.code yX12_leads cX12_leads 6 (some FieldType.int) ∈ tbG := wd_t10 (i := 7) rfl rfl
theorem wd_2294 : Cond.methodLink RX12 455 yX12_placeOf ∈ tbG := wd_t10 (i := 8) rfl rfl
theorem wd_2296 : Cond.instanceMethod yX12_placeOf ∈ tbG := wd_t10 (i := 10) rfl rfl
theorem wd_2297 : Cond.code yX12_placeOf cX12_placeOf 4 (some FieldType.int) ∈ tbG := wd_t10 (i := 11) rfl rfl
theorem wd_2298 : Cond.methodLink RL 258 yX12_meets ∈ tbG := wd_t10 (i := 12) rfl rfl
theorem wd_2299 : Cond.instanceMethod yX12_meets ∈ tbG := wd_t10 (i := 13) rfl rfl
theorem wd_2300 : Cond.selects RX12 yX12_meets yX12_meets ∈ tbG := wd_t10 (i := 14) rfl rfl
theorem wd_2301 : Cond.code yX12_meets cX12_meets 8 (some FieldType.int) ∈ tbG := wd_t10 (i := 15) rfl rfl
theorem wd_2302 : Cond.methodLink RL 261 yX12_without ∈ tbG := wd_t10 (i := 16) rfl rfl
theorem wd_2303 : Cond.instanceMethod yX12_without ∈ tbG := wd_t10 (i := 17) rfl rfl
theorem wd_2304 : Cond.selects RX12 yX12_without yX12_without ∈ tbG := wd_t10 (i := 18) rfl rfl
theorem wd_2305 : Cond.code yX12_without cX12_without 4 (some FieldType.int) ∈ tbG := wd_t10 (i := 19) rfl rfl
theorem wd_2306 : Cond.methodLink RL 264 yX12_often ∈ tbG := wd_t10 (i := 20) rfl rfl
theorem wd_2307 : Cond.instanceMethod yX12_often ∈ tbG := wd_t10 (i := 21) rfl rfl
theorem wd_2308 : Cond.selects RX12 yX12_often yX12_often ∈ tbG := wd_t10 (i := 22) rfl rfl
theorem wd_2309 : Cond.code yX12_often cX12_often 4 (some FieldType.int) ∈ tbG := wd_t10 (i := 23) rfl rfl
theorem wd_2310 : Cond.methodLink RL 268 yX12_spare ∈ tbG := wd_t10 (i := 24) rfl rfl
theorem wd_2311 : Cond.instanceMethod yX12_spare ∈ tbG := wd_t10 (i := 25) rfl rfl
theorem wd_2312 : Cond.selects RX12 yX12_spare yX12_spare ∈ tbG := wd_t10 (i := 26) rfl rfl
theorem wd_2313 : Cond.code yX12_spare cX12_spare 4 (some FieldType.int) ∈ tbG := wd_t10 (i := 27) rfl rfl
theorem wd_2314 : Cond.methodLink RL 272 yX12_image ∈ tbG := wd_t10 (i := 28) rfl rfl
theorem wd_2315 : Cond.instanceMethod yX12_image ∈ tbG := wd_t10 (i := 29) rfl rfl
theorem wd_2316 : Cond.selects RX12 yX12_image yX12_image ∈ tbG := wd_t10 (i := 30) rfl rfl
theorem wd_2317 : Cond.code yX12_image cX12_image 2 none ∈ tbG := wd_t10 (i := 31) rfl rfl
theorem wd_2318 : Cond.methodLink RL 276 yX12_restore ∈ tbG := wd_t10 (i := 32) rfl rfl
theorem wd_2319 : Cond.instanceMethod yX12_restore ∈ tbG := wd_t10 (i := 33) rfl rfl
theorem wd_2320 : Cond.selects RX12 yX12_restore yX12_restore ∈ tbG := wd_t10 (i := 34) rfl rfl
theorem wd_2321 : Cond.code yX12_restore cX12_restore 2 (some FieldType.boolean) ∈ tbG := wd_t10 (i := 35) rfl rfl
theorem wd_2322 : Cond.arrayClass FieldType.long ∈ tbG := wd_t10 (i := 36) rfl rfl
theorem wd_2341 : Cond.fieldLink "java/lang/String" 9 "java/lang/String" "value" "[B" ∈ tbG := wd_t10 (i := 55) rfl rfl
theorem wd_2342 : Cond.fieldLink "java/lang/String" 15 "java/lang/String" "coder" "B" ∈ tbG := wd_t10 (i := 56) rfl rfl
