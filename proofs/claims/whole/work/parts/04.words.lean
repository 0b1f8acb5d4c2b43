def lw_t2 : List Cond := lw_tbl.filter goodWord
theorem ch_0 {w : Cond} (h : w ∈ k2_sels lw_privs) (hg : goodWord w = true) : w ∈ lw_t2 := List.mem_filter.mpr ⟨List.mem_append_left _ h, hg⟩
theorem ch_1 {w : Cond} (h : w ∈ tables_1_1) (hg : goodWord w = true) : w ∈ lw_t2 := List.mem_filter.mpr ⟨List.mem_append_right _ (List.mem_append_left _ h), hg⟩
theorem ch_2 {w : Cond} (h : w ∈ tables_1_2) (hg : goodWord w = true) : w ∈ lw_t2 := List.mem_filter.mpr ⟨List.mem_append_right _ (List.mem_append_right _ (List.mem_append_left _ h)), hg⟩
theorem ch_3 {w : Cond} (h : w ∈ tables_1_3) (hg : goodWord w = true) : w ∈ lw_t2 := List.mem_filter.mpr ⟨List.mem_append_right _ (List.mem_append_right _ (List.mem_append_right _ (List.mem_append_left _ h))), hg⟩
theorem ch_4 {w : Cond} (h : w ∈ tables_1_4) (hg : goodWord w = true) : w ∈ lw_t2 := List.mem_filter.mpr ⟨List.mem_append_right _ (List.mem_append_right _ (List.mem_append_right _ (List.mem_append_right _ (List.mem_append_left _ h)))), hg⟩
theorem ch_5 {w : Cond} (h : w ∈ tables_1_5) (hg : goodWord w = true) : w ∈ lw_t2 := List.mem_filter.mpr ⟨List.mem_append_right _ (List.mem_append_right _ (List.mem_append_right _ (List.mem_append_right _ (List.mem_append_right _ (List.mem_append_left _ h))))), hg⟩
theorem ch_6 {w : Cond} (h : w ∈ tables_1_6) (hg : goodWord w = true) : w ∈ lw_t2 := List.mem_filter.mpr ⟨List.mem_append_right _ (List.mem_append_right _ (List.mem_append_right _ (List.mem_append_right _ (List.mem_append_right _ (List.mem_append_right _ (List.mem_append_left _ h)))))), hg⟩
theorem ch_7 {w : Cond} (h : w ∈ tables_1_7) (hg : goodWord w = true) : w ∈ lw_t2 := List.mem_filter.mpr ⟨List.mem_append_right _ (List.mem_append_right _ (List.mem_append_right _ (List.mem_append_right _ (List.mem_append_right _ (List.mem_append_right _ (List.mem_append_right _ (List.mem_append_left _ h))))))), hg⟩
theorem ch_8 {w : Cond} (h : w ∈ tables_1_8) (hg : goodWord w = true) : w ∈ lw_t2 := List.mem_filter.mpr ⟨List.mem_append_right _ (List.mem_append_right _ (List.mem_append_right _ (List.mem_append_right _ (List.mem_append_right _ (List.mem_append_right _ (List.mem_append_right _ (List.mem_append_right _ (h)))))))), hg⟩
theorem wd_0 : Cond.selects RX5 yX5_setAsWithout yX5_setAsWithout ∈ lw_t2 := ch_0 (List.mem_of_getElem? (i := 0) (by decide +kernel)) rfl
theorem wd_1 : Cond.selects RX5 yX5_readClause yX5_readClause ∈ lw_t2 := ch_0 (List.mem_of_getElem? (i := 1) (by decide +kernel)) rfl
theorem wd_2 : Cond.selects RX5 yX5_hasRoomFor yX5_hasRoomFor ∈ lw_t2 := ch_0 (List.mem_of_getElem? (i := 2) (by decide +kernel)) rfl
theorem wd_3 : Cond.selects RX5 yX5_addRow yX5_addRow ∈ lw_t2 := ch_0 (List.mem_of_getElem? (i := 3) (by decide +kernel)) rfl
theorem wd_4 : Cond.selects RX5 yX5_readNumber yX5_readNumber ∈ lw_t2 := ch_0 (List.mem_of_getElem? (i := 4) (by decide +kernel)) rfl
theorem wd_5 : Cond.selects RX2 yX2_readClause yX2_readClause ∈ lw_t2 := ch_0 (List.mem_of_getElem? (i := 5) (by decide +kernel)) rfl
theorem wd_6 : Cond.selects RX2 yX2_skip yX2_skip ∈ lw_t2 := ch_0 (List.mem_of_getElem? (i := 6) (by decide +kernel)) rfl
theorem wd_7 : Cond.selects RX2 yX2_next yX2_next ∈ lw_t2 := ch_0 (List.mem_of_getElem? (i := 7) (by decide +kernel)) rfl
theorem wd_8 : Cond.selects RX2 yX2_readSum yX2_readSum ∈ lw_t2 := ch_0 (List.mem_of_getElem? (i := 8) (by decide +kernel)) rfl
theorem wd_9 : Cond.selects RX2 yX2_readTerm yX2_readTerm ∈ lw_t2 := ch_0 (List.mem_of_getElem? (i := 9) (by decide +kernel)) rfl
theorem wd_10 : Cond.selects RX2 yX2_readAtom yX2_readAtom ∈ lw_t2 := ch_0 (List.mem_of_getElem? (i := 10) (by decide +kernel)) rfl
theorem wd_11 : Cond.selects RX2 yX2_readNumber yX2_readNumber ∈ lw_t2 := ch_0 (List.mem_of_getElem? (i := 11) (by decide +kernel)) rfl
theorem wd_12 : Cond.selects RX2 yX2_readCondition yX2_readCondition ∈ lw_t2 := ch_0 (List.mem_of_getElem? (i := 12) (by decide +kernel)) rfl
theorem wd_13 : Cond.selects RX2 yX2_readTruth yX2_readTruth ∈ lw_t2 := ch_0 (List.mem_of_getElem? (i := 13) (by decide +kernel)) rfl
theorem wd_14 : Cond.selects RX2 yX2_readUnit yX2_readUnit ∈ lw_t2 := ch_0 (List.mem_of_getElem? (i := 14) (by decide +kernel)) rfl
theorem wd_15 : Cond.selects RX11 yX11_settle yX11_settle ∈ lw_t2 := ch_0 (List.mem_of_getElem? (i := 15) (by decide +kernel)) rfl
theorem wd_16 : Cond.selects RX4 yX4_measure yX4_measure ∈ lw_t2 := ch_0 (List.mem_of_getElem? (i := 16) (by decide +kernel)) rfl
theorem wd_17 : Cond.selects RX4 yX4_shortenBy yX4_shortenBy ∈ lw_t2 := ch_0 (List.mem_of_getElem? (i := 17) (by decide +kernel)) rfl
theorem wd_18 : Cond.selects RX0 yX0_ownDay yX0_ownDay ∈ lw_t2 := ch_0 (List.mem_of_getElem? (i := 18) (by decide +kernel)) rfl
theorem wd_19 : Cond.selects RX11 yX11_refuse yX11_refuse ∈ lw_t2 := ch_0 (List.mem_of_getElem? (i := 19) (by decide +kernel)) rfl
theorem wd_20 : Cond.selects RX0 yX0_beginYear yX0_beginYear ∈ lw_t2 := ch_0 (List.mem_of_getElem? (i := 20) (by decide +kernel)) rfl
theorem wd_21 : Cond.selects RX9 yX9_sum yX9_sum ∈ lw_t2 := ch_0 (List.mem_of_getElem? (i := 21) (by decide +kernel)) rfl
theorem wd_22 : Cond.selects RX9 yX9_bad yX9_bad ∈ lw_t2 := ch_0 (List.mem_of_getElem? (i := 22) (by decide +kernel)) rfl
theorem wd_23 : Cond.selects RX0 yX0_draw yX0_draw ∈ lw_t2 := ch_0 (List.mem_of_getElem? (i := 23) (by decide +kernel)) rfl
theorem wd_24 : Cond.selects RX3 yX3_foreseeDays yX3_foreseeDays ∈ lw_t2 := ch_0 (List.mem_of_getElem? (i := 24) (by decide +kernel)) rfl
theorem wd_25 : Cond.selects RX3 yX3_foreseeLowest yX3_foreseeLowest ∈ lw_t2 := ch_0 (List.mem_of_getElem? (i := 25) (by decide +kernel)) rfl
theorem wd_26 : Cond.selects RX3 yX3_leastRow yX3_leastRow ∈ lw_t2 := ch_0 (List.mem_of_getElem? (i := 26) (by decide +kernel)) rfl
theorem wd_27 : Cond.selects RX0 yX0_shouldBuy yX0_shouldBuy ∈ lw_t2 := ch_0 (List.mem_of_getElem? (i := 27) (by decide +kernel)) rfl
theorem wd_28 : Cond.selects RX3 yX3_isRest yX3_isRest ∈ lw_t2 := ch_0 (List.mem_of_getElem? (i := 28) (by decide +kernel)) rfl
theorem wd_29 : Cond.selects RX8 yX8_allSets yX8_allSets ∈ lw_t2 := ch_0 (List.mem_of_getElem? (i := 29) (by decide +kernel)) rfl
theorem wd_30 : Cond.selects RX8 yX8_fits yX8_fits ∈ lw_t2 := ch_0 (List.mem_of_getElem? (i := 30) (by decide +kernel)) rfl
theorem wd_31 : Cond.selects RX8 yX8_apart yX8_apart ∈ lw_t2 := ch_0 (List.mem_of_getElem? (i := 31) (by decide +kernel)) rfl
theorem wd_32 : Cond.selects RX3 yX3_spreadParts yX3_spreadParts ∈ lw_t2 := ch_0 (List.mem_of_getElem? (i := 32) (by decide +kernel)) rfl
theorem wd_33 : Cond.selects RX7 yX7_reachedWithout yX7_reachedWithout ∈ lw_t2 := ch_0 (List.mem_of_getElem? (i := 33) (by decide +kernel)) rfl
theorem wd_34 : Cond.selects "java/lang/Throwable" ⟨"java/lang/Throwable", "fillInStackTrace", "(I)Ljava/lang/Throwable;"⟩ ⟨"java/lang/Throwable", "fillInStackTrace", "(I)Ljava/lang/Throwable;"⟩ ∈ lw_t2 := ch_0 (List.mem_of_getElem? (i := 34) (by decide +kernel)) rfl
theorem wd_35 : Cond.selects RX12 yX12_readParish yX12_readParish ∈ lw_t2 := ch_0 (List.mem_of_getElem? (i := 35) (by decide +kernel)) rfl
theorem wd_36 : Cond.selects RX12 yX12_look yX12_look ∈ lw_t2 := ch_0 (List.mem_of_getElem? (i := 36) (by decide +kernel)) rfl
theorem wd_37 : Cond.selects RX12 yX12_here yX12_here ∈ lw_t2 := ch_0 (List.mem_of_getElem? (i := 37) (by decide +kernel)) rfl
theorem wd_38 : Cond.selects RX12 yX12_items yX12_items ∈ lw_t2 := ch_0 (List.mem_of_getElem? (i := 38) (by decide +kernel)) rfl
theorem wd_39 : Cond.selects RX12 yX12_number yX12_number ∈ lw_t2 := ch_0 (List.mem_of_getElem? (i := 39) (by decide +kernel)) rfl
theorem wd_40 : Cond.selects RX12 yX12_bad yX12_bad ∈ lw_t2 := ch_0 (List.mem_of_getElem? (i := 40) (by decide +kernel)) rfl
theorem wd_41 : Cond.selects RX12 yX12_isWhole yX12_isWhole ∈ lw_t2 := ch_0 (List.mem_of_getElem? (i := 41) (by decide +kernel)) rfl
theorem wd_42 : Cond.selects RX12 yX12_readLaw yX12_readLaw ∈ lw_t2 := ch_0 (List.mem_of_getElem? (i := 42) (by decide +kernel)) rfl
theorem wd_43 : Cond.selects RX12 yX12_open yX12_open ∈ lw_t2 := ch_0 (List.mem_of_getElem? (i := 43) (by decide +kernel)) rfl
theorem wd_44 : Cond.selects RX12 yX12_clause yX12_clause ∈ lw_t2 := ch_0 (List.mem_of_getElem? (i := 44) (by decide +kernel)) rfl
theorem wd_45 : Cond.selects RX12 yX12_condition yX12_condition ∈ lw_t2 := ch_0 (List.mem_of_getElem? (i := 45) (by decide +kernel)) rfl
theorem wd_46 : Cond.selects RX12 yX12_unit yX12_unit ∈ lw_t2 := ch_0 (List.mem_of_getElem? (i := 46) (by decide +kernel)) rfl
theorem wd_47 : Cond.selects RX12 yX12_opens yX12_opens ∈ lw_t2 := ch_0 (List.mem_of_getElem? (i := 47) (by decide +kernel)) rfl
theorem wd_48 : Cond.selects RX12 yX12_put yX12_put ∈ lw_t2 := ch_0 (List.mem_of_getElem? (i := 48) (by decide +kernel)) rfl
theorem wd_49 : Cond.selects RX12 yX12_closes yX12_closes ∈ lw_t2 := ch_0 (List.mem_of_getElem? (i := 49) (by decide +kernel)) rfl
theorem wd_50 : Cond.selects RX12 yX12_sum yX12_sum ∈ lw_t2 := ch_0 (List.mem_of_getElem? (i := 50) (by decide +kernel)) rfl
theorem wd_51 : Cond.selects RX12 yX12_term yX12_term ∈ lw_t2 := ch_0 (List.mem_of_getElem? (i := 51) (by decide +kernel)) rfl
theorem wd_52 : Cond.selects RX12 yX12_atom yX12_atom ∈ lw_t2 := ch_0 (List.mem_of_getElem? (i := 52) (by decide +kernel)) rfl
theorem wd_53 : Cond.selects RX12 yX12_plainNumber yX12_plainNumber ∈ lw_t2 := ch_0 (List.mem_of_getElem? (i := 53) (by decide +kernel)) rfl
theorem wd_54 : Cond.selects RX12 yX12_compare yX12_compare ∈ lw_t2 := ch_0 (List.mem_of_getElem? (i := 54) (by decide +kernel)) rfl
theorem wd_55 : Cond.selects RX12 yX12_goOnAnd yX12_goOnAnd ∈ lw_t2 := ch_0 (List.mem_of_getElem? (i := 55) (by decide +kernel)) rfl
theorem wd_56 : Cond.selects RX12 yX12_goOnOr yX12_goOnOr ∈ lw_t2 := ch_0 (List.mem_of_getElem? (i := 56) (by decide +kernel)) rfl
theorem wd_57 : Cond.selects RX12 yX12_atEnd yX12_atEnd ∈ lw_t2 := ch_0 (List.mem_of_getElem? (i := 57) (by decide +kernel)) rfl
theorem wd_58 : Cond.selects RX12 yX12_takeParish yX12_takeParish ∈ lw_t2 := ch_0 (List.mem_of_getElem? (i := 58) (by decide +kernel)) rfl
theorem wd_59 : Cond.selects RX12 yX12_of yX12_of ∈ lw_t2 := ch_0 (List.mem_of_getElem? (i := 59) (by decide +kernel)) rfl
theorem wd_60 : Cond.selects RX12 yX12_laySteps yX12_laySteps ∈ lw_t2 := ch_0 (List.mem_of_getElem? (i := 60) (by decide +kernel)) rfl
theorem wd_61 : Cond.selects RX12 yX12_isStretch yX12_isStretch ∈ lw_t2 := ch_0 (List.mem_of_getElem? (i := 61) (by decide +kernel)) rfl
theorem wd_62 : Cond.selects RX12 yX12_isHouse yX12_isHouse ∈ lw_t2 := ch_0 (List.mem_of_getElem? (i := 62) (by decide +kernel)) rfl
theorem wd_63 : Cond.selects RX12 yX12_ofHouse yX12_ofHouse ∈ lw_t2 := ch_0 (List.mem_of_getElem? (i := 63) (by decide +kernel)) rfl
theorem wd_64 : Cond.selects RX12 yX12_comes yX12_comes ∈ lw_t2 := ch_0 (List.mem_of_getElem? (i := 64) (by decide +kernel)) rfl
theorem wd_65 : Cond.selects RX12 yX12_haulOf yX12_haulOf ∈ lw_t2 := ch_0 (List.mem_of_getElem? (i := 65) (by decide +kernel)) rfl
theorem wd_66 : Cond.selects RX12 yX12_doesNow yX12_doesNow ∈ lw_t2 := ch_0 (List.mem_of_getElem? (i := 66) (by decide +kernel)) rfl
theorem wd_67 : Cond.selects RX12 yX12_doesBy yX12_doesBy ∈ lw_t2 := ch_0 (List.mem_of_getElem? (i := 67) (by decide +kernel)) rfl
theorem wd_68 : Cond.selects RX12 yX12_worthOf yX12_worthOf ∈ lw_t2 := ch_0 (List.mem_of_getElem? (i := 68) (by decide +kernel)) rfl
theorem wd_69 : Cond.selects RX12 yX12_workOut yX12_workOut ∈ lw_t2 := ch_0 (List.mem_of_getElem? (i := 69) (by decide +kernel)) rfl
theorem wd_70 : Cond.selects RX12 yX12_isWinter yX12_isWinter ∈ lw_t2 := ch_0 (List.mem_of_getElem? (i := 70) (by decide +kernel)) rfl
theorem wd_71 : Cond.selects RX12 yX12_isRefused yX12_isRefused ∈ lw_t2 := ch_0 (List.mem_of_getElem? (i := 71) (by decide +kernel)) rfl
theorem wd_72 : Cond.selects RX12 yX12_keep yX12_keep ∈ lw_t2 := ch_0 (List.mem_of_getElem? (i := 72) (by decide +kernel)) rfl
theorem wd_73 : Cond.selects RX12 yX12_workNow yX12_workNow ∈ lw_t2 := ch_0 (List.mem_of_getElem? (i := 73) (by decide +kernel)) rfl
theorem wd_74 : Cond.selects RX12 yX12_isAt yX12_isAt ∈ lw_t2 := ch_0 (List.mem_of_getElem? (i := 74) (by decide +kernel)) rfl
theorem wd_75 : Cond.selects RX12 yX12_areSeasons yX12_areSeasons ∈ lw_t2 := ch_0 (List.mem_of_getElem? (i := 75) (by decide +kernel)) rfl
theorem wd_76 : Cond.selects RX12 yX12_passSeason yX12_passSeason ∈ lw_t2 := ch_0 (List.mem_of_getElem? (i := 76) (by decide +kernel)) rfl
theorem wd_77 : Cond.selects RX12 yX12_wearOn yX12_wearOn ∈ lw_t2 := ch_0 (List.mem_of_getElem? (i := 77) (by decide +kernel)) rfl
theorem wd_78 : Cond.selects RX12 yX12_sumOf yX12_sumOf ∈ lw_t2 := ch_0 (List.mem_of_getElem? (i := 78) (by decide +kernel)) rfl
theorem wd_79 : Cond.selects RX12 yX12_drawDay yX12_drawDay ∈ lw_t2 := ch_0 (List.mem_of_getElem? (i := 79) (by decide +kernel)) rfl
theorem wd_80 : Cond.selects RX12 yX12_draw yX12_draw ∈ lw_t2 := ch_0 (List.mem_of_getElem? (i := 80) (by decide +kernel)) rfl
theorem wd_81 : Cond.selects RX12 yX12_canMend yX12_canMend ∈ lw_t2 := ch_0 (List.mem_of_getElem? (i := 81) (by decide +kernel)) rfl
theorem wd_82 : Cond.selects RX12 yX12_layWay yX12_layWay ∈ lw_t2 := ch_0 (List.mem_of_getElem? (i := 82) (by decide +kernel)) rfl
theorem wd_83 : Cond.selects RX12 yX12_tryWay yX12_tryWay ∈ lw_t2 := ch_0 (List.mem_of_getElem? (i := 83) (by decide +kernel)) rfl
theorem wd_84 : Cond.selects RX12 yX12_areTwo yX12_areTwo ∈ lw_t2 := ch_0 (List.mem_of_getElem? (i := 84) (by decide +kernel)) rfl
theorem wd_85 : Cond.selects RX12 yX12_gameOf yX12_gameOf ∈ lw_t2 := ch_0 (List.mem_of_getElem? (i := 85) (by decide +kernel)) rfl
theorem wd_86 : Cond.selects RX12 yX12_isRest yX12_isRest ∈ lw_t2 := ch_0 (List.mem_of_getElem? (i := 86) (by decide +kernel)) rfl
theorem wd_87 : Cond.selects RX12 yX12_roadOf yX12_roadOf ∈ lw_t2 := ch_0 (List.mem_of_getElem? (i := 87) (by decide +kernel)) rfl
theorem wd_88 : Cond.selects RX12 yX12_useOfAll yX12_useOfAll ∈ lw_t2 := ch_0 (List.mem_of_getElem? (i := 88) (by decide +kernel)) rfl
theorem wd_89 : Cond.selects RX12 yX12_useOf yX12_useOf ∈ lw_t2 := ch_0 (List.mem_of_getElem? (i := 89) (by decide +kernel)) rfl
theorem wd_90 : Cond.selects RX12 yX12_areFeigning yX12_areFeigning ∈ lw_t2 := ch_0 (List.mem_of_getElem? (i := 90) (by decide +kernel)) rfl
theorem wd_91 : Cond.selects RX12 yX12_isFeigned yX12_isFeigned ∈ lw_t2 := ch_0 (List.mem_of_getElem? (i := 91) (by decide +kernel)) rfl
theorem wd_92 : Cond.selects RX12 yX12_worn yX12_worn ∈ lw_t2 := ch_0 (List.mem_of_getElem? (i := 92) (by decide +kernel)) rfl
theorem wd_93 : Cond.selects RX12 yX12_reachedBut yX12_reachedBut ∈ lw_t2 := ch_0 (List.mem_of_getElem? (i := 93) (by decide +kernel)) rfl
theorem wd_94 : Cond.initialized RL ∈ lw_t2 := ch_1 (List.mem_of_getElem? (i := 0) (by decide +kernel)) rfl
theorem wd_95 : Cond.initialized RX11 ∈ lw_t2 := ch_1 (List.mem_of_getElem? (i := 1) (by decide +kernel)) rfl
theorem wd_96 : Cond.initialized RX10 ∈ lw_t2 := ch_1 (List.mem_of_getElem? (i := 2) (by decide +kernel)) rfl
theorem wd_97 : Cond.initialized RX4 ∈ lw_t2 := ch_1 (List.mem_of_getElem? (i := 3) (by decide +kernel)) rfl
theorem wd_98 : Cond.initialized RX5 ∈ lw_t2 := ch_1 (List.mem_of_getElem? (i := 4) (by decide +kernel)) rfl
theorem wd_99 : Cond.initialized RX2 ∈ lw_t2 := ch_1 (List.mem_of_getElem? (i := 5) (by decide +kernel)) rfl
theorem wd_100 : Cond.initialized RX1 ∈ lw_t2 := ch_1 (List.mem_of_getElem? (i := 6) (by decide +kernel)) rfl
theorem wd_101 : Cond.initialized RX9 ∈ lw_t2 := ch_1 (List.mem_of_getElem? (i := 7) (by decide +kernel)) rfl
theorem wd_102 : Cond.initialized RX6 ∈ lw_t2 := ch_1 (List.mem_of_getElem? (i := 8) (by decide +kernel)) rfl
theorem wd_103 : Cond.initialized RX0 ∈ lw_t2 := ch_1 (List.mem_of_getElem? (i := 9) (by decide +kernel)) rfl
theorem wd_104 : Cond.initialized RX7 ∈ lw_t2 := ch_1 (List.mem_of_getElem? (i := 10) (by decide +kernel)) rfl
theorem wd_105 : Cond.initialized RX8 ∈ lw_t2 := ch_1 (List.mem_of_getElem? (i := 11) (by decide +kernel)) rfl
theorem wd_106 : Cond.initialized RX3 ∈ lw_t2 := ch_1 (List.mem_of_getElem? (i := 12) (by decide +kernel)) rfl
theorem wd_107 : Cond.initialized RX12 ∈ lw_t2 := ch_1 (List.mem_of_getElem? (i := 13) (by decide +kernel)) rfl
theorem wd_108 : Cond.initialized RJ10 ∈ lw_t2 := ch_1 (List.mem_of_getElem? (i := 14) (by decide +kernel)) rfl
theorem wd_109 : Cond.initialized RJ7 ∈ lw_t2 := ch_1 (List.mem_of_getElem? (i := 15) (by decide +kernel)) rfl
theorem wd_110 : Cond.initialized RJ9 ∈ lw_t2 := ch_1 (List.mem_of_getElem? (i := 16) (by decide +kernel)) rfl
theorem wd_111 : Cond.initialized "java/lang/Throwable" ∈ lw_t2 := ch_1 (List.mem_of_getElem? (i := 17) (by decide +kernel)) rfl
theorem wd_112 : Cond.initialized "java/lang/Exception" ∈ lw_t2 := ch_1 (List.mem_of_getElem? (i := 18) (by decide +kernel)) rfl
theorem wd_113 : Cond.initialized "java/lang/RuntimeException" ∈ lw_t2 := ch_1 (List.mem_of_getElem? (i := 19) (by decide +kernel)) rfl
theorem wd_114 : Cond.initialized "java/util/NoSuchElementException" ∈ lw_t2 := ch_1 (List.mem_of_getElem? (i := 20) (by decide +kernel)) rfl
theorem wd_115 : Cond.initialized RJ6 ∈ lw_t2 := ch_1 (List.mem_of_getElem? (i := 21) (by decide +kernel)) rfl
theorem wd_116 : Cond.classLink RL 8 "OwedDays" ∈ lw_t2 := ch_1 (List.mem_of_getElem? (i := 22) (by decide +kernel)) rfl
theorem wd_117 : Cond.instantiable RX11 13 ∈ lw_t2 := ch_1 (List.mem_of_getElem? (i := 23) (by decide +kernel)) rfl
theorem wd_118 : Cond.methodLink RL 15 yX11_init ∈ lw_t2 := ch_1 (List.mem_of_getElem? (i := 24) (by decide +kernel)) rfl
theorem wd_119 : Cond.instanceMethod yX11_init ∈ lw_t2 := ch_1 (List.mem_of_getElem? (i := 25) (by decide +kernel)) rfl
set_option maxRecDepth 100000 in
theorem wd_120 : Cond.code yX11_init cX11_init 1 none ∈ lw_t2 := ch_1 (List.mem_of_getElem? (i := 26) rfl) rfl
theorem wd_121 : Cond.methodLink RX11 1 ⟨"java/lang/Object", "<init>", "()V"⟩ ∈ lw_t2 := ch_1 (List.mem_of_getElem? (i := 27) (by decide +kernel)) rfl
theorem wd_122 : Cond.instanceMethod ⟨"java/lang/Object", "<init>", "()V"⟩ ∈ lw_t2 := ch_1 (List.mem_of_getElem? (i := 28) (by decide +kernel)) rfl
set_option maxRecDepth 100000 in
theorem wd_123 : Cond.code ⟨"java/lang/Object", "<init>", "()V"⟩ object_method_1_code 1 none ∈ lw_t2 := ch_1 (List.mem_of_getElem? (i := 29) rfl) rfl
theorem wd_124 : Cond.classLink RX11 7 "OwedDays$Tape" ∈ lw_t2 := ch_1 (List.mem_of_getElem? (i := 30) (by decide +kernel)) rfl
theorem wd_125 : Cond.instantiable RX10 2 ∈ lw_t2 := ch_1 (List.mem_of_getElem? (i := 31) (by decide +kernel)) rfl
theorem wd_126 : Cond.methodLink RX11 9 yX10_init ∈ lw_t2 := ch_1 (List.mem_of_getElem? (i := 32) (by decide +kernel)) rfl
theorem wd_127 : Cond.instanceMethod yX10_init ∈ lw_t2 := ch_1 (List.mem_of_getElem? (i := 33) (by decide +kernel)) rfl
set_option maxRecDepth 100000 in
theorem wd_128 : Cond.code yX10_init cX10_init 1 none ∈ lw_t2 := ch_1 (List.mem_of_getElem? (i := 34) rfl) rfl
theorem wd_129 : Cond.methodLink RX10 3 ⟨"java/lang/Object", "<init>", "()V"⟩ ∈ lw_t2 := ch_1 (List.mem_of_getElem? (i := 35) (by decide +kernel)) rfl
theorem wd_130 : Cond.fieldLink RX10 9 "OwedDays$Tape" "bytes" "[B" ∈ lw_t2 := ch_1 (List.mem_of_getElem? (i := 36) (by decide +kernel)) rfl
theorem wd_131 : Cond.fieldLink RX10 15 "OwedDays$Tape" "length" "I" ∈ lw_t2 := ch_1 (List.mem_of_getElem? (i := 37) (by decide +kernel)) rfl
theorem wd_132 : Cond.laysFinal RX10 "OwedDays$Tape" "bytes" "[B" ∈ lw_t2 := ch_1 (List.mem_of_getElem? (i := 38) (by decide +kernel)) rfl
theorem wd_134 : Cond.lays RX10 "OwedDays$Tape" "length" "I" ∈ lw_t2 := ch_1 (List.mem_of_getElem? (i := 40) (by decide +kernel)) rfl
theorem wd_137 : Cond.arrayClass FieldType.byte ∈ lw_t2 := ch_1 (List.mem_of_getElem? (i := 43) (by decide +kernel)) rfl
theorem wd_138 : Cond.classLink RX11 16 "OwedDays$Parish" ∈ lw_t2 := ch_1 (List.mem_of_getElem? (i := 44) (by decide +kernel)) rfl
theorem wd_139 : Cond.instantiable RX4 4 ∈ lw_t2 := ch_1 (List.mem_of_getElem? (i := 45) (by decide +kernel)) rfl
theorem wd_140 : Cond.methodLink RX11 18 yX4_init ∈ lw_t2 := ch_1 (List.mem_of_getElem? (i := 46) (by decide +kernel)) rfl
theorem wd_141 : Cond.instanceMethod yX4_init ∈ lw_t2 := ch_1 (List.mem_of_getElem? (i := 47) (by decide +kernel)) rfl
set_option maxRecDepth 100000 in
theorem wd_142 : Cond.code yX4_init cX4_init 1 none ∈ lw_t2 := ch_1 (List.mem_of_getElem? (i := 48) rfl) rfl
theorem wd_143 : Cond.methodLink RX4 3 ⟨"java/lang/Object", "<init>", "()V"⟩ ∈ lw_t2 := ch_1 (List.mem_of_getElem? (i := 49) (by decide +kernel)) rfl
theorem wd_144 : Cond.fieldLink RX4 11 "OwedDays$Parish" "rows" "[I" ∈ lw_t2 := ch_1 (List.mem_of_getElem? (i := 50) (by decide +kernel)) rfl
theorem wd_145 : Cond.fieldLink RX4 15 "OwedDays$Parish" "steps" "[I" ∈ lw_t2 := ch_1 (List.mem_of_getElem? (i := 51) (by decide +kernel)) rfl
theorem wd_146 : Cond.fieldLink RX4 18 "OwedDays$Parish" "stretches" "I" ∈ lw_t2 := ch_1 (List.mem_of_getElem? (i := 52) (by decide +kernel)) rfl
theorem wd_147 : Cond.fieldLink RX4 22 "OwedDays$Parish" "houses" "I" ∈ lw_t2 := ch_1 (List.mem_of_getElem? (i := 53) (by decide +kernel)) rfl
theorem wd_148 : Cond.laysFinal RX4 "OwedDays$Parish" "rows" "[I" ∈ lw_t2 := ch_1 (List.mem_of_getElem? (i := 54) (by decide +kernel)) rfl
theorem wd_150 : Cond.laysFinal RX4 "OwedDays$Parish" "steps" "[I" ∈ lw_t2 := ch_1 (List.mem_of_getElem? (i := 56) (by decide +kernel)) rfl
theorem wd_152 : Cond.lays RX4 "OwedDays$Parish" "stretches" "I" ∈ lw_t2 := ch_1 (List.mem_of_getElem? (i := 58) (by decide +kernel)) rfl
theorem wd_154 : Cond.lays RX4 "OwedDays$Parish" "houses" "I" ∈ lw_t2 := ch_1 (List.mem_of_getElem? (i := 60) (by decide +kernel)) rfl
theorem wd_157 : Cond.arrayClass FieldType.int ∈ lw_t2 := ch_1 (List.mem_of_getElem? (i := 63) (by decide +kernel)) rfl
theorem wd_158 : Cond.classLink RX11 23 "OwedDays$ParishReader" ∈ lw_t2 := ch_1 (List.mem_of_getElem? (i := 64) (by decide +kernel)) rfl
theorem wd_159 : Cond.instantiable RX5 4 ∈ lw_t2 := ch_1 (List.mem_of_getElem? (i := 65) (by decide +kernel)) rfl
theorem wd_160 : Cond.methodLink RX11 25 yX5_init ∈ lw_t2 := ch_1 (List.mem_of_getElem? (i := 66) (by decide +kernel)) rfl
theorem wd_161 : Cond.instanceMethod yX5_init ∈ lw_t2 := ch_1 (List.mem_of_getElem? (i := 67) (by decide +kernel)) rfl
set_option maxRecDepth 100000 in
theorem wd_162 : Cond.code yX5_init cX5_init 2 none ∈ lw_t2 := ch_1 (List.mem_of_getElem? (i := 68) rfl) rfl
theorem wd_163 : Cond.methodLink RX5 3 ⟨"java/lang/Object", "<init>", "()V"⟩ ∈ lw_t2 := ch_1 (List.mem_of_getElem? (i := 69) (by decide +kernel)) rfl
theorem wd_164 : Cond.classLink RX5 15 "OwedDays$Parish" ∈ lw_t2 := ch_1 (List.mem_of_getElem? (i := 70) (by decide +kernel)) rfl
theorem wd_165 : Cond.methodLink RX5 17 yX4_init ∈ lw_t2 := ch_1 (List.mem_of_getElem? (i := 71) (by decide +kernel)) rfl
theorem wd_166 : Cond.fieldLink RX5 9 "OwedDays$ParishReader" "tape" "LOwedDays$Tape;" ∈ lw_t2 := ch_1 (List.mem_of_getElem? (i := 72) (by decide +kernel)) rfl
theorem wd_167 : Cond.fieldLink RX5 18 "OwedDays$ParishReader" "draft" "LOwedDays$Parish;" ∈ lw_t2 := ch_1 (List.mem_of_getElem? (i := 73) (by decide +kernel)) rfl
theorem wd_168 : Cond.fieldLink RX5 22 "OwedDays$ParishReader" "hasRules" "Z" ∈ lw_t2 := ch_1 (List.mem_of_getElem? (i := 74) (by decide +kernel)) rfl
theorem wd_169 : Cond.fieldLink RX5 26 "OwedDays$ParishReader" "at" "I" ∈ lw_t2 := ch_1 (List.mem_of_getElem? (i := 75) (by decide +kernel)) rfl
theorem wd_170 : Cond.laysFinal RX5 "OwedDays$ParishReader" "tape" "LOwedDays$Tape;" ∈ lw_t2 := ch_1 (List.mem_of_getElem? (i := 76) (by decide +kernel)) rfl
theorem wd_172 : Cond.laysFinal RX5 "OwedDays$ParishReader" "draft" "LOwedDays$Parish;" ∈ lw_t2 := ch_1 (List.mem_of_getElem? (i := 78) (by decide +kernel)) rfl
theorem wd_174 : Cond.lays RX5 "OwedDays$ParishReader" "hasRules" "Z" ∈ lw_t2 := ch_1 (List.mem_of_getElem? (i := 80) (by decide +kernel)) rfl
theorem wd_176 : Cond.lays RX5 "OwedDays$ParishReader" "at" "I" ∈ lw_t2 := ch_1 (List.mem_of_getElem? (i := 82) (by decide +kernel)) rfl
theorem wd_179 : Cond.classLink RX11 32 "OwedDays$LawReader" ∈ lw_t2 := ch_1 (List.mem_of_getElem? (i := 85) (by decide +kernel)) rfl
theorem wd_180 : Cond.instantiable RX2 3 ∈ lw_t2 := ch_1 (List.mem_of_getElem? (i := 86) (by decide +kernel)) rfl
theorem wd_181 : Cond.methodLink RX11 34 yX2_init ∈ lw_t2 := ch_1 (List.mem_of_getElem? (i := 87) (by decide +kernel)) rfl
theorem wd_182 : Cond.instanceMethod yX2_init ∈ lw_t2 := ch_1 (List.mem_of_getElem? (i := 88) (by decide +kernel)) rfl
set_option maxRecDepth 100000 in
theorem wd_183 : Cond.code yX2_init cX2_init 2 none ∈ lw_t2 := ch_1 (List.mem_of_getElem? (i := 89) rfl) rfl
theorem wd_184 : Cond.methodLink RX2 3 ⟨"java/lang/Object", "<init>", "()V"⟩ ∈ lw_t2 := ch_1 (List.mem_of_getElem? (i := 90) (by decide +kernel)) rfl
theorem wd_185 : Cond.classLink RX2 15 "OwedDays$Law" ∈ lw_t2 := ch_1 (List.mem_of_getElem? (i := 91) (by decide +kernel)) rfl
theorem wd_186 : Cond.instantiable RX1 3 ∈ lw_t2 := ch_1 (List.mem_of_getElem? (i := 92) (by decide +kernel)) rfl
theorem wd_187 : Cond.methodLink RX2 17 yX1_init ∈ lw_t2 := ch_1 (List.mem_of_getElem? (i := 93) (by decide +kernel)) rfl
theorem wd_188 : Cond.instanceMethod yX1_init ∈ lw_t2 := ch_1 (List.mem_of_getElem? (i := 94) (by decide +kernel)) rfl
set_option maxRecDepth 100000 in
theorem wd_189 : Cond.code yX1_init cX1_init 1 none ∈ lw_t2 := ch_1 (List.mem_of_getElem? (i := 95) rfl) rfl
theorem wd_190 : Cond.methodLink RX1 3 ⟨"java/lang/Object", "<init>", "()V"⟩ ∈ lw_t2 := ch_1 (List.mem_of_getElem? (i := 96) (by decide +kernel)) rfl
theorem wd_191 : Cond.fieldLink RX1 9 "OwedDays$Law" "codes" "[I" ∈ lw_t2 := ch_1 (List.mem_of_getElem? (i := 97) (by decide +kernel)) rfl
theorem wd_192 : Cond.fieldLink RX1 15 "OwedDays$Law" "stack" "[I" ∈ lw_t2 := ch_1 (List.mem_of_getElem? (i := 98) (by decide +kernel)) rfl
theorem wd_193 : Cond.fieldLink RX1 18 "OwedDays$Law" "length" "I" ∈ lw_t2 := ch_1 (List.mem_of_getElem? (i := 99) (by decide +kernel)) rfl
theorem wd_194 : Cond.laysFinal RX1 "OwedDays$Law" "codes" "[I" ∈ lw_t2 := ch_1 (List.mem_of_getElem? (i := 100) (by decide +kernel)) rfl
theorem wd_196 : Cond.laysFinal RX1 "OwedDays$Law" "stack" "[I" ∈ lw_t2 := ch_1 (List.mem_of_getElem? (i := 102) (by decide +kernel)) rfl
theorem wd_198 : Cond.lays RX1 "OwedDays$Law" "length" "I" ∈ lw_t2 := ch_1 (List.mem_of_getElem? (i := 104) (by decide +kernel)) rfl
theorem wd_201 : Cond.fieldLink RX2 9 "OwedDays$LawReader" "tape" "LOwedDays$Tape;" ∈ lw_t2 := ch_1 (List.mem_of_getElem? (i := 107) (by decide +kernel)) rfl
theorem wd_202 : Cond.fieldLink RX2 18 "OwedDays$LawReader" "draft" "LOwedDays$Law;" ∈ lw_t2 := ch_1 (List.mem_of_getElem? (i := 108) (by decide +kernel)) rfl
theorem wd_203 : Cond.fieldLink RX2 22 "OwedDays$LawReader" "at" "I" ∈ lw_t2 := ch_1 (List.mem_of_getElem? (i := 109) (by decide +kernel)) rfl
theorem wd_204 : Cond.laysFinal RX2 "OwedDays$LawReader" "tape" "LOwedDays$Tape;" ∈ lw_t2 := ch_1 (List.mem_of_getElem? (i := 110) (by decide +kernel)) rfl
theorem wd_206 : Cond.laysFinal RX2 "OwedDays$LawReader" "draft" "LOwedDays$Law;" ∈ lw_t2 := ch_1 (List.mem_of_getElem? (i := 112) (by decide +kernel)) rfl
theorem wd_208 : Cond.lays RX2 "OwedDays$LawReader" "at" "I" ∈ lw_t2 := ch_1 (List.mem_of_getElem? (i := 114) (by decide +kernel)) rfl
theorem wd_211 : Cond.classLink RX11 39 "OwedDays$State" ∈ lw_t2 := ch_1 (List.mem_of_getElem? (i := 117) (by decide +kernel)) rfl
theorem wd_212 : Cond.instantiable RX9 2 ∈ lw_t2 := ch_1 (List.mem_of_getElem? (i := 118) (by decide +kernel)) rfl
theorem wd_213 : Cond.methodLink RX11 41 yX9_init ∈ lw_t2 := ch_1 (List.mem_of_getElem? (i := 119) (by decide +kernel)) rfl
theorem wd_214 : Cond.instanceMethod yX9_init ∈ lw_t2 := ch_1 (List.mem_of_getElem? (i := 120) (by decide +kernel)) rfl
set_option maxRecDepth 100000 in
theorem wd_215 : Cond.code yX9_init cX9_init 1 none ∈ lw_t2 := ch_1 (List.mem_of_getElem? (i := 121) rfl) rfl
theorem wd_216 : Cond.methodLink RX9 3 ⟨"java/lang/Object", "<init>", "()V"⟩ ∈ lw_t2 := ch_1 (List.mem_of_getElem? (i := 122) (by decide +kernel)) rfl
theorem wd_217 : Cond.fieldLink RX9 11 "OwedDays$State" "row" "[I" ∈ lw_t2 := ch_1 (List.mem_of_getElem? (i := 123) (by decide +kernel)) rfl
theorem wd_218 : Cond.fieldLink RX9 15 "OwedDays$State" "log" "[I" ∈ lw_t2 := ch_1 (List.mem_of_getElem? (i := 124) (by decide +kernel)) rfl
theorem wd_219 : Cond.laysFinal RX9 "OwedDays$State" "row" "[I" ∈ lw_t2 := ch_1 (List.mem_of_getElem? (i := 125) (by decide +kernel)) rfl
theorem wd_221 : Cond.laysFinal RX9 "OwedDays$State" "log" "[I" ∈ lw_t2 := ch_1 (List.mem_of_getElem? (i := 127) (by decide +kernel)) rfl
theorem wd_224 : Cond.classLink RX11 53 "OwedDays$Past" ∈ lw_t2 := ch_1 (List.mem_of_getElem? (i := 130) (by decide +kernel)) rfl
theorem wd_225 : Cond.instantiable RX6 3 ∈ lw_t2 := ch_1 (List.mem_of_getElem? (i := 131) (by decide +kernel)) rfl
theorem wd_226 : Cond.methodLink RX11 55 yX6_init ∈ lw_t2 := ch_1 (List.mem_of_getElem? (i := 132) (by decide +kernel)) rfl
theorem wd_227 : Cond.instanceMethod yX6_init ∈ lw_t2 := ch_1 (List.mem_of_getElem? (i := 133) (by decide +kernel)) rfl
set_option maxRecDepth 100000 in
theorem wd_228 : Cond.code yX6_init cX6_init 1 none ∈ lw_t2 := ch_1 (List.mem_of_getElem? (i := 134) rfl) rfl
theorem wd_229 : Cond.methodLink RX6 1 ⟨"java/lang/Object", "<init>", "()V"⟩ ∈ lw_t2 := ch_1 (List.mem_of_getElem? (i := 135) (by decide +kernel)) rfl
theorem wd_230 : Cond.fieldLink RX6 11 "OwedDays$Past" "rows" "[I" ∈ lw_t2 := ch_1 (List.mem_of_getElem? (i := 136) (by decide +kernel)) rfl
theorem wd_231 : Cond.fieldLink RX6 15 "OwedDays$Past" "size" "I" ∈ lw_t2 := ch_1 (List.mem_of_getElem? (i := 137) (by decide +kernel)) rfl
theorem wd_232 : Cond.fieldLink RX6 19 "OwedDays$Past" "next" "I" ∈ lw_t2 := ch_1 (List.mem_of_getElem? (i := 138) (by decide +kernel)) rfl
theorem wd_233 : Cond.laysFinal RX6 "OwedDays$Past" "rows" "[I" ∈ lw_t2 := ch_1 (List.mem_of_getElem? (i := 139) (by decide +kernel)) rfl
theorem wd_235 : Cond.lays RX6 "OwedDays$Past" "size" "I" ∈ lw_t2 := ch_1 (List.mem_of_getElem? (i := 141) (by decide +kernel)) rfl
theorem wd_237 : Cond.lays RX6 "OwedDays$Past" "next" "I" ∈ lw_t2 := ch_1 (List.mem_of_getElem? (i := 143) (by decide +kernel)) rfl
theorem wd_240 : Cond.classLink RX11 60 "OwedDays$Labour" ∈ lw_t2 := ch_1 (List.mem_of_getElem? (i := 146) (by decide +kernel)) rfl
theorem wd_241 : Cond.instantiable RX0 7 ∈ lw_t2 := ch_1 (List.mem_of_getElem? (i := 147) (by decide +kernel)) rfl
theorem wd_242 : Cond.methodLink RX11 62 yX0_init ∈ lw_t2 := ch_1 (List.mem_of_getElem? (i := 148) (by decide +kernel)) rfl
theorem wd_243 : Cond.instanceMethod yX0_init ∈ lw_t2 := ch_1 (List.mem_of_getElem? (i := 149) (by decide +kernel)) rfl
set_option maxRecDepth 100000 in
theorem wd_244 : Cond.code yX0_init cX0_init 4 none ∈ lw_t2 := ch_1 (List.mem_of_getElem? (i := 150) rfl) rfl
theorem wd_245 : Cond.methodLink RX0 3 ⟨"java/lang/Object", "<init>", "()V"⟩ ∈ lw_t2 := ch_1 (List.mem_of_getElem? (i := 151) (by decide +kernel)) rfl
theorem wd_246 : Cond.classLink RX0 19 "OwedDays$Law" ∈ lw_t2 := ch_1 (List.mem_of_getElem? (i := 152) (by decide +kernel)) rfl
theorem wd_248 : Cond.methodLink RX0 25 yX1_init ∈ lw_t2 := ch_1 (List.mem_of_getElem? (i := 154) (by decide +kernel)) rfl
theorem wd_249 : Cond.fieldLink RX0 9 "OwedDays$Labour" "parish" "LOwedDays$Parish;" ∈ lw_t2 := ch_1 (List.mem_of_getElem? (i := 155) (by decide +kernel)) rfl
theorem wd_250 : Cond.fieldLink RX0 15 "OwedDays$Labour" "state" "LOwedDays$State;" ∈ lw_t2 := ch_1 (List.mem_of_getElem? (i := 156) (by decide +kernel)) rfl
theorem wd_251 : Cond.fieldLink RX0 21 "OwedDays$Labour" "laws" "[LOwedDays$Law;" ∈ lw_t2 := ch_1 (List.mem_of_getElem? (i := 157) (by decide +kernel)) rfl
theorem wd_252 : Cond.fieldLink RX0 26 "OwedDays$Labour" "letters" "[I" ∈ lw_t2 := ch_1 (List.mem_of_getElem? (i := 158) (by decide +kernel)) rfl
theorem wd_253 : Cond.fieldLink RX0 30 "OwedDays$Labour" "lawCount" "I" ∈ lw_t2 := ch_1 (List.mem_of_getElem? (i := 159) (by decide +kernel)) rfl
theorem wd_254 : Cond.fieldLink RX0 34 "OwedDays$Labour" "holding" "I" ∈ lw_t2 := ch_1 (List.mem_of_getElem? (i := 160) (by decide +kernel)) rfl
theorem wd_255 : Cond.fieldLink RX0 37 "OwedDays$Labour" "drawn" "J" ∈ lw_t2 := ch_1 (List.mem_of_getElem? (i := 161) (by decide +kernel)) rfl
theorem wd_256 : Cond.laysFinal RX0 "OwedDays$Labour" "parish" "LOwedDays$Parish;" ∈ lw_t2 := ch_1 (List.mem_of_getElem? (i := 162) (by decide +kernel)) rfl
theorem wd_258 : Cond.laysFinal RX0 "OwedDays$Labour" "state" "LOwedDays$State;" ∈ lw_t2 := ch_1 (List.mem_of_getElem? (i := 164) (by decide +kernel)) rfl
theorem wd_260 : Cond.laysFinal RX0 "OwedDays$Labour" "laws" "[LOwedDays$Law;" ∈ lw_t2 := ch_1 (List.mem_of_getElem? (i := 166) (by decide +kernel)) rfl
theorem wd_262 : Cond.laysFinal RX0 "OwedDays$Labour" "letters" "[I" ∈ lw_t2 := ch_1 (List.mem_of_getElem? (i := 168) (by decide +kernel)) rfl
theorem wd_264 : Cond.lays RX0 "OwedDays$Labour" "lawCount" "I" ∈ lw_t2 := ch_1 (List.mem_of_getElem? (i := 170) (by decide +kernel)) rfl
theorem wd_266 : Cond.lays RX0 "OwedDays$Labour" "holding" "I" ∈ lw_t2 := ch_1 (List.mem_of_getElem? (i := 172) (by decide +kernel)) rfl
theorem wd_268 : Cond.lays RX0 "OwedDays$Labour" "drawn" "J" ∈ lw_t2 := ch_1 (List.mem_of_getElem? (i := 174) (by decide +kernel)) rfl
theorem wd_271 : Cond.classLink RX11 69 "OwedDays$Roads" ∈ lw_t2 := ch_1 (List.mem_of_getElem? (i := 177) (by decide +kernel)) rfl
theorem wd_272 : Cond.instantiable RX7 3 ∈ lw_t2 := ch_1 (List.mem_of_getElem? (i := 178) (by decide +kernel)) rfl
theorem wd_273 : Cond.methodLink RX11 71 yX7_init ∈ lw_t2 := ch_1 (List.mem_of_getElem? (i := 179) (by decide +kernel)) rfl
theorem wd_274 : Cond.instanceMethod yX7_init ∈ lw_t2 := ch_1 (List.mem_of_getElem? (i := 180) (by decide +kernel)) rfl
set_option maxRecDepth 100000 in
theorem wd_275 : Cond.code yX7_init cX7_init 3 none ∈ lw_t2 := ch_1 (List.mem_of_getElem? (i := 181) rfl) rfl
theorem wd_276 : Cond.methodLink RX7 3 ⟨"java/lang/Object", "<init>", "()V"⟩ ∈ lw_t2 := ch_1 (List.mem_of_getElem? (i := 182) (by decide +kernel)) rfl
theorem wd_277 : Cond.fieldLink RX7 9 "OwedDays$Roads" "parish" "LOwedDays$Parish;" ∈ lw_t2 := ch_1 (List.mem_of_getElem? (i := 183) (by decide +kernel)) rfl
theorem wd_278 : Cond.fieldLink RX7 15 "OwedDays$Roads" "state" "LOwedDays$State;" ∈ lw_t2 := ch_1 (List.mem_of_getElem? (i := 184) (by decide +kernel)) rfl
theorem wd_279 : Cond.fieldLink RX7 19 "OwedDays$Roads" "ways" "[I" ∈ lw_t2 := ch_1 (List.mem_of_getElem? (i := 185) (by decide +kernel)) rfl
theorem wd_280 : Cond.laysFinal RX7 "OwedDays$Roads" "parish" "LOwedDays$Parish;" ∈ lw_t2 := ch_1 (List.mem_of_getElem? (i := 186) (by decide +kernel)) rfl
theorem wd_282 : Cond.laysFinal RX7 "OwedDays$Roads" "state" "LOwedDays$State;" ∈ lw_t2 := ch_1 (List.mem_of_getElem? (i := 188) (by decide +kernel)) rfl
theorem wd_284 : Cond.laysFinal RX7 "OwedDays$Roads" "ways" "[I" ∈ lw_t2 := ch_1 (List.mem_of_getElem? (i := 190) (by decide +kernel)) rfl
theorem wd_287 : Cond.classLink RX11 76 "OwedDays$Sightings" ∈ lw_t2 := ch_1 (List.mem_of_getElem? (i := 193) (by decide +kernel)) rfl
theorem wd_288 : Cond.instantiable RX8 4 ∈ lw_t2 := ch_1 (List.mem_of_getElem? (i := 194) (by decide +kernel)) rfl
theorem wd_289 : Cond.methodLink RX11 78 yX8_init ∈ lw_t2 := ch_1 (List.mem_of_getElem? (i := 195) (by decide +kernel)) rfl
theorem wd_290 : Cond.instanceMethod yX8_init ∈ lw_t2 := ch_1 (List.mem_of_getElem? (i := 196) (by decide +kernel)) rfl
set_option maxRecDepth 100000 in
theorem wd_291 : Cond.code yX8_init cX8_init 2 none ∈ lw_t2 := ch_1 (List.mem_of_getElem? (i := 197) rfl) rfl
theorem wd_292 : Cond.methodLink RX8 3 ⟨"java/lang/Object", "<init>", "()V"⟩ ∈ lw_t2 := ch_1 (List.mem_of_getElem? (i := 198) (by decide +kernel)) rfl
theorem wd_293 : Cond.fieldLink RX8 9 "OwedDays$Sightings" "parish" "LOwedDays$Parish;" ∈ lw_t2 := ch_1 (List.mem_of_getElem? (i := 199) (by decide +kernel)) rfl
theorem wd_294 : Cond.fieldLink RX8 15 "OwedDays$Sightings" "sets" "[I" ∈ lw_t2 := ch_1 (List.mem_of_getElem? (i := 200) (by decide +kernel)) rfl
theorem wd_295 : Cond.fieldLink RX8 19 "OwedDays$Sightings" "better" "[Z" ∈ lw_t2 := ch_1 (List.mem_of_getElem? (i := 201) (by decide +kernel)) rfl
theorem wd_296 : Cond.fieldLink RX8 23 "OwedDays$Sightings" "size" "I" ∈ lw_t2 := ch_1 (List.mem_of_getElem? (i := 202) (by decide +kernel)) rfl
theorem wd_297 : Cond.laysFinal RX8 "OwedDays$Sightings" "parish" "LOwedDays$Parish;" ∈ lw_t2 := ch_1 (List.mem_of_getElem? (i := 203) (by decide +kernel)) rfl
theorem wd_299 : Cond.laysFinal RX8 "OwedDays$Sightings" "sets" "[I" ∈ lw_t2 := ch_1 (List.mem_of_getElem? (i := 205) (by decide +kernel)) rfl
theorem wd_301 : Cond.laysFinal RX8 "OwedDays$Sightings" "better" "[Z" ∈ lw_t2 := ch_1 (List.mem_of_getElem? (i := 207) (by decide +kernel)) rfl
theorem wd_303 : Cond.lays RX8 "OwedDays$Sightings" "size" "I" ∈ lw_t2 := ch_1 (List.mem_of_getElem? (i := 209) (by decide +kernel)) rfl
theorem wd_306 : Cond.arrayClass FieldType.boolean ∈ lw_t2 := ch_1 (List.mem_of_getElem? (i := 212) (by decide +kernel)) rfl
theorem wd_307 : Cond.classLink RX11 85 "OwedDays$Outlook" ∈ lw_t2 := ch_1 (List.mem_of_getElem? (i := 213) (by decide +kernel)) rfl
theorem wd_308 : Cond.instantiable RX3 10 ∈ lw_t2 := ch_1 (List.mem_of_getElem? (i := 214) (by decide +kernel)) rfl
theorem wd_309 : Cond.methodLink RX11 87 yX3_init ∈ lw_t2 := ch_1 (List.mem_of_getElem? (i := 215) (by decide +kernel)) rfl
theorem wd_310 : Cond.instanceMethod yX3_init ∈ lw_t2 := ch_1 (List.mem_of_getElem? (i := 216) (by decide +kernel)) rfl
set_option maxRecDepth 100000 in
theorem wd_311 : Cond.code yX3_init cX3_init 4 none ∈ lw_t2 := ch_1 (List.mem_of_getElem? (i := 217) rfl) rfl
theorem wd_312 : Cond.methodLink RX3 3 ⟨"java/lang/Object", "<init>", "()V"⟩ ∈ lw_t2 := ch_1 (List.mem_of_getElem? (i := 218) (by decide +kernel)) rfl
theorem wd_313 : Cond.fieldLink RX3 9 "OwedDays$Outlook" "parish" "LOwedDays$Parish;" ∈ lw_t2 := ch_1 (List.mem_of_getElem? (i := 219) (by decide +kernel)) rfl
theorem wd_314 : Cond.fieldLink RX3 15 "OwedDays$Outlook" "state" "LOwedDays$State;" ∈ lw_t2 := ch_1 (List.mem_of_getElem? (i := 220) (by decide +kernel)) rfl
theorem wd_315 : Cond.fieldLink RX3 19 "OwedDays$Outlook" "labour" "LOwedDays$Labour;" ∈ lw_t2 := ch_1 (List.mem_of_getElem? (i := 221) (by decide +kernel)) rfl
theorem wd_316 : Cond.fieldLink RX3 23 "OwedDays$Outlook" "daysLeft" "[I" ∈ lw_t2 := ch_1 (List.mem_of_getElem? (i := 222) (by decide +kernel)) rfl
theorem wd_317 : Cond.fieldLink RX3 27 "OwedDays$Outlook" "behind" "[I" ∈ lw_t2 := ch_1 (List.mem_of_getElem? (i := 223) (by decide +kernel)) rfl
theorem wd_318 : Cond.fieldLink RX3 30 "OwedDays$Outlook" "reachedIn" "[I" ∈ lw_t2 := ch_1 (List.mem_of_getElem? (i := 224) (by decide +kernel)) rfl
theorem wd_319 : Cond.fieldLink RX3 33 "OwedDays$Outlook" "lowest" "[I" ∈ lw_t2 := ch_1 (List.mem_of_getElem? (i := 225) (by decide +kernel)) rfl
theorem wd_320 : Cond.fieldLink RX3 36 "OwedDays$Outlook" "parts" "[I" ∈ lw_t2 := ch_1 (List.mem_of_getElem? (i := 226) (by decide +kernel)) rfl
theorem wd_321 : Cond.fieldLink RX3 39 "OwedDays$Outlook" "oneDoes" "[I" ∈ lw_t2 := ch_1 (List.mem_of_getElem? (i := 227) (by decide +kernel)) rfl
theorem wd_322 : Cond.fieldLink RX3 42 "OwedDays$Outlook" "otherDoes" "[I" ∈ lw_t2 := ch_1 (List.mem_of_getElem? (i := 228) (by decide +kernel)) rfl
theorem wd_323 : Cond.laysFinal RX3 "OwedDays$Outlook" "parish" "LOwedDays$Parish;" ∈ lw_t2 := ch_1 (List.mem_of_getElem? (i := 229) (by decide +kernel)) rfl
theorem wd_325 : Cond.laysFinal RX3 "OwedDays$Outlook" "state" "LOwedDays$State;" ∈ lw_t2 := ch_1 (List.mem_of_getElem? (i := 231) (by decide +kernel)) rfl
theorem wd_327 : Cond.laysFinal RX3 "OwedDays$Outlook" "labour" "LOwedDays$Labour;" ∈ lw_t2 := ch_1 (List.mem_of_getElem? (i := 233) (by decide +kernel)) rfl
theorem wd_329 : Cond.laysFinal RX3 "OwedDays$Outlook" "daysLeft" "[I" ∈ lw_t2 := ch_1 (List.mem_of_getElem? (i := 235) (by decide +kernel)) rfl
theorem wd_331 : Cond.laysFinal RX3 "OwedDays$Outlook" "behind" "[I" ∈ lw_t2 := ch_1 (List.mem_of_getElem? (i := 237) (by decide +kernel)) rfl
theorem wd_333 : Cond.laysFinal RX3 "OwedDays$Outlook" "reachedIn" "[I" ∈ lw_t2 := ch_1 (List.mem_of_getElem? (i := 239) (by decide +kernel)) rfl
theorem wd_335 : Cond.laysFinal RX3 "OwedDays$Outlook" "lowest" "[I" ∈ lw_t2 := ch_2 (List.mem_of_getElem? (i := 1) (by decide +kernel)) rfl
theorem wd_337 : Cond.laysFinal RX3 "OwedDays$Outlook" "parts" "[I" ∈ lw_t2 := ch_2 (List.mem_of_getElem? (i := 3) (by decide +kernel)) rfl
theorem wd_339 : Cond.laysFinal RX3 "OwedDays$Outlook" "oneDoes" "[I" ∈ lw_t2 := ch_2 (List.mem_of_getElem? (i := 5) (by decide +kernel)) rfl
theorem wd_341 : Cond.laysFinal RX3 "OwedDays$Outlook" "otherDoes" "[I" ∈ lw_t2 := ch_2 (List.mem_of_getElem? (i := 7) (by decide +kernel)) rfl
theorem wd_344 : Cond.fieldLink RX11 10 "OwedDays" "tape" "LOwedDays$Tape;" ∈ lw_t2 := ch_2 (List.mem_of_getElem? (i := 10) (by decide +kernel)) rfl
theorem wd_345 : Cond.fieldLink RX11 19 "OwedDays" "parish" "LOwedDays$Parish;" ∈ lw_t2 := ch_2 (List.mem_of_getElem? (i := 11) (by decide +kernel)) rfl
theorem wd_346 : Cond.fieldLink RX11 28 "OwedDays" "parishReader" "LOwedDays$ParishReader;" ∈ lw_t2 := ch_2 (List.mem_of_getElem? (i := 12) (by decide +kernel)) rfl
theorem wd_347 : Cond.fieldLink RX11 35 "OwedDays" "lawReader" "LOwedDays$LawReader;" ∈ lw_t2 := ch_2 (List.mem_of_getElem? (i := 13) (by decide +kernel)) rfl
theorem wd_348 : Cond.fieldLink RX11 42 "OwedDays" "state" "LOwedDays$State;" ∈ lw_t2 := ch_2 (List.mem_of_getElem? (i := 14) (by decide +kernel)) rfl
theorem wd_349 : Cond.fieldLink RX11 46 "OwedDays" "kept" "LOwedDays$State;" ∈ lw_t2 := ch_2 (List.mem_of_getElem? (i := 15) (by decide +kernel)) rfl
theorem wd_350 : Cond.fieldLink RX11 49 "OwedDays" "isKept" "Z" ∈ lw_t2 := ch_2 (List.mem_of_getElem? (i := 16) (by decide +kernel)) rfl
theorem wd_351 : Cond.fieldLink RX11 56 "OwedDays" "past" "LOwedDays$Past;" ∈ lw_t2 := ch_2 (List.mem_of_getElem? (i := 17) (by decide +kernel)) rfl
theorem wd_352 : Cond.fieldLink RX11 65 "OwedDays" "labour" "LOwedDays$Labour;" ∈ lw_t2 := ch_2 (List.mem_of_getElem? (i := 18) (by decide +kernel)) rfl
theorem wd_353 : Cond.fieldLink RX11 72 "OwedDays" "roads" "LOwedDays$Roads;" ∈ lw_t2 := ch_2 (List.mem_of_getElem? (i := 19) (by decide +kernel)) rfl
theorem wd_354 : Cond.fieldLink RX11 81 "OwedDays" "sightings" "LOwedDays$Sightings;" ∈ lw_t2 := ch_2 (List.mem_of_getElem? (i := 20) (by decide +kernel)) rfl
theorem wd_355 : Cond.fieldLink RX11 90 "OwedDays" "outlook" "LOwedDays$Outlook;" ∈ lw_t2 := ch_2 (List.mem_of_getElem? (i := 21) (by decide +kernel)) rfl
theorem wd_356 : Cond.fieldLink RX11 94 "OwedDays" "refused" "[I" ∈ lw_t2 := ch_2 (List.mem_of_getElem? (i := 22) (by decide +kernel)) rfl
theorem wd_357 : Cond.laysFinal RX11 "OwedDays" "tape" "LOwedDays$Tape;" ∈ lw_t2 := ch_2 (List.mem_of_getElem? (i := 23) (by decide +kernel)) rfl
theorem wd_359 : Cond.laysFinal RX11 "OwedDays" "parish" "LOwedDays$Parish;" ∈ lw_t2 := ch_2 (List.mem_of_getElem? (i := 25) (by decide +kernel)) rfl
theorem wd_361 : Cond.laysFinal RX11 "OwedDays" "parishReader" "LOwedDays$ParishReader;" ∈ lw_t2 := ch_2 (List.mem_of_getElem? (i := 27) (by decide +kernel)) rfl
theorem wd_363 : Cond.laysFinal RX11 "OwedDays" "lawReader" "LOwedDays$LawReader;" ∈ lw_t2 := ch_2 (List.mem_of_getElem? (i := 29) (by decide +kernel)) rfl
theorem wd_365 : Cond.laysFinal RX11 "OwedDays" "state" "LOwedDays$State;" ∈ lw_t2 := ch_2 (List.mem_of_getElem? (i := 31) (by decide +kernel)) rfl
theorem wd_367 : Cond.laysFinal RX11 "OwedDays" "kept" "LOwedDays$State;" ∈ lw_t2 := ch_2 (List.mem_of_getElem? (i := 33) (by decide +kernel)) rfl
theorem wd_369 : Cond.lays RX11 "OwedDays" "isKept" "Z" ∈ lw_t2 := ch_2 (List.mem_of_getElem? (i := 35) (by decide +kernel)) rfl
theorem wd_371 : Cond.laysFinal RX11 "OwedDays" "past" "LOwedDays$Past;" ∈ lw_t2 := ch_2 (List.mem_of_getElem? (i := 37) (by decide +kernel)) rfl
theorem wd_373 : Cond.laysFinal RX11 "OwedDays" "labour" "LOwedDays$Labour;" ∈ lw_t2 := ch_2 (List.mem_of_getElem? (i := 39) (by decide +kernel)) rfl
theorem wd_375 : Cond.laysFinal RX11 "OwedDays" "roads" "LOwedDays$Roads;" ∈ lw_t2 := ch_2 (List.mem_of_getElem? (i := 41) (by decide +kernel)) rfl
theorem wd_377 : Cond.laysFinal RX11 "OwedDays" "sightings" "LOwedDays$Sightings;" ∈ lw_t2 := ch_2 (List.mem_of_getElem? (i := 43) (by decide +kernel)) rfl
theorem wd_379 : Cond.laysFinal RX11 "OwedDays" "outlook" "LOwedDays$Outlook;" ∈ lw_t2 := ch_2 (List.mem_of_getElem? (i := 45) (by decide +kernel)) rfl
theorem wd_381 : Cond.laysFinal RX11 "OwedDays" "refused" "[I" ∈ lw_t2 := ch_2 (List.mem_of_getElem? (i := 47) (by decide +kernel)) rfl
theorem wd_384 : Cond.methodLink RL 19 yX11_feed ∈ lw_t2 := ch_2 (List.mem_of_getElem? (i := 50) (by decide +kernel)) rfl
theorem wd_385 : Cond.instanceMethod yX11_feed ∈ lw_t2 := ch_2 (List.mem_of_getElem? (i := 51) (by decide +kernel)) rfl
theorem wd_386 : Cond.selects RX11 yX11_feed yX11_feed ∈ lw_t2 := ch_2 (List.mem_of_getElem? (i := 52) (by decide +kernel)) rfl
set_option maxRecDepth 100000 in
theorem wd_387 : Cond.code yX11_feed cX11_feed 7 (some FieldType.int) ∈ lw_t2 := ch_2 (List.mem_of_getElem? (i := 53) rfl) rfl
theorem wd_388 : Cond.methodLink RX11 98 yX10_signsIn ∈ lw_t2 := ch_2 (List.mem_of_getElem? (i := 54) (by decide +kernel)) rfl
theorem wd_389 : Cond.static yX10_signsIn ∈ lw_t2 := ch_2 (List.mem_of_getElem? (i := 55) (by decide +kernel)) rfl
set_option maxRecDepth 100000 in
theorem wd_390 : Cond.code yX10_signsIn cX10_signsIn 3 (some FieldType.int) ∈ lw_t2 := ch_2 (List.mem_of_getElem? (i := 56) rfl) rfl
theorem wd_391 : Cond.methodLink RX11 102 yX10_size ∈ lw_t2 := ch_2 (List.mem_of_getElem? (i := 57) (by decide +kernel)) rfl
theorem wd_392 : Cond.instanceMethod yX10_size ∈ lw_t2 := ch_2 (List.mem_of_getElem? (i := 58) (by decide +kernel)) rfl
theorem wd_393 : Cond.selects RX10 yX10_size yX10_size ∈ lw_t2 := ch_2 (List.mem_of_getElem? (i := 59) (by decide +kernel)) rfl
set_option maxRecDepth 100000 in
theorem wd_394 : Cond.code yX10_size cX10_size 1 (some FieldType.int) ∈ lw_t2 := ch_2 (List.mem_of_getElem? (i := 60) rfl) rfl
theorem wd_395 : Cond.methodLink RX11 106 yX10_add ∈ lw_t2 := ch_2 (List.mem_of_getElem? (i := 61) (by decide +kernel)) rfl
theorem wd_396 : Cond.instanceMethod yX10_add ∈ lw_t2 := ch_2 (List.mem_of_getElem? (i := 62) (by decide +kernel)) rfl
theorem wd_397 : Cond.selects RX10 yX10_add yX10_add ∈ lw_t2 := ch_2 (List.mem_of_getElem? (i := 63) (by decide +kernel)) rfl
set_option maxRecDepth 100000 in
theorem wd_398 : Cond.code yX10_add cX10_add 4 none ∈ lw_t2 := ch_2 (List.mem_of_getElem? (i := 64) rfl) rfl
theorem wd_399 : Cond.methodLink RL 24 yX11_end ∈ lw_t2 := ch_2 (List.mem_of_getElem? (i := 65) (by decide +kernel)) rfl
theorem wd_400 : Cond.instanceMethod yX11_end ∈ lw_t2 := ch_2 (List.mem_of_getElem? (i := 66) (by decide +kernel)) rfl
theorem wd_401 : Cond.selects RX11 yX11_end yX11_end ∈ lw_t2 := ch_2 (List.mem_of_getElem? (i := 67) (by decide +kernel)) rfl
set_option maxRecDepth 100000 in
theorem wd_402 : Cond.code yX11_end cX11_end 2 (some FieldType.boolean) ∈ lw_t2 := ch_2 (List.mem_of_getElem? (i := 68) rfl) rfl
theorem wd_403 : Cond.methodLink RX11 110 yX10_shorten ∈ lw_t2 := ch_2 (List.mem_of_getElem? (i := 69) (by decide +kernel)) rfl
theorem wd_404 : Cond.instanceMethod yX10_shorten ∈ lw_t2 := ch_2 (List.mem_of_getElem? (i := 70) (by decide +kernel)) rfl
theorem wd_405 : Cond.selects RX10 yX10_shorten yX10_shorten ∈ lw_t2 := ch_2 (List.mem_of_getElem? (i := 71) (by decide +kernel)) rfl
set_option maxRecDepth 100000 in
theorem wd_406 : Cond.code yX10_shorten cX10_shorten 2 (some FieldType.boolean) ∈ lw_t2 := ch_2 (List.mem_of_getElem? (i := 72) rfl) rfl
theorem wd_407 : Cond.methodLink RL 29 yX11_fault ∈ lw_t2 := ch_2 (List.mem_of_getElem? (i := 73) (by decide +kernel)) rfl
theorem wd_408 : Cond.instanceMethod yX11_fault ∈ lw_t2 := ch_2 (List.mem_of_getElem? (i := 74) (by decide +kernel)) rfl
theorem wd_409 : Cond.selects RX11 yX11_fault yX11_fault ∈ lw_t2 := ch_2 (List.mem_of_getElem? (i := 75) (by decide +kernel)) rfl
set_option maxRecDepth 100000 in
theorem wd_410 : Cond.code yX11_fault cX11_fault 2 (some FieldType.int) ∈ lw_t2 := ch_2 (List.mem_of_getElem? (i := 76) rfl) rfl
theorem wd_411 : Cond.methodLink RX11 114 yX5_firstWrong ∈ lw_t2 := ch_2 (List.mem_of_getElem? (i := 77) (by decide +kernel)) rfl
theorem wd_412 : Cond.instanceMethod yX5_firstWrong ∈ lw_t2 := ch_2 (List.mem_of_getElem? (i := 78) (by decide +kernel)) rfl
theorem wd_413 : Cond.selects RX5 yX5_firstWrong yX5_firstWrong ∈ lw_t2 := ch_2 (List.mem_of_getElem? (i := 79) (by decide +kernel)) rfl
set_option maxRecDepth 100000 in
theorem wd_414 : Cond.code yX5_firstWrong cX5_firstWrong 2 (some FieldType.int) ∈ lw_t2 := ch_2 (List.mem_of_getElem? (i := 80) rfl) rfl
theorem wd_415 : Cond.methodLink RX5 30 yX4_empty ∈ lw_t2 := ch_2 (List.mem_of_getElem? (i := 81) (by decide +kernel)) rfl
theorem wd_416 : Cond.instanceMethod yX4_empty ∈ lw_t2 := ch_2 (List.mem_of_getElem? (i := 82) (by decide +kernel)) rfl
theorem wd_417 : Cond.selects RX4 yX4_empty yX4_empty ∈ lw_t2 := ch_2 (List.mem_of_getElem? (i := 83) (by decide +kernel)) rfl
set_option maxRecDepth 100000 in
theorem wd_418 : Cond.code yX4_empty cX4_empty 1 none ∈ lw_t2 := ch_2 (List.mem_of_getElem? (i := 84) rfl) rfl
theorem wd_419 : Cond.methodLink RX5 33 yX5_setAsWithout ∈ lw_t2 := ch_2 (List.mem_of_getElem? (i := 85) (by decide +kernel)) rfl
theorem wd_421 : Cond.instanceMethod yX5_setAsWithout ∈ lw_t2 := ch_2 (List.mem_of_getElem? (i := 87) (by decide +kernel)) rfl
set_option maxRecDepth 100000 in
theorem wd_422 : Cond.code yX5_setAsWithout cX5_setAsWithout 5 none ∈ lw_t2 := ch_2 (List.mem_of_getElem? (i := 88) rfl) rfl
theorem wd_423 : Cond.fieldLink RX5 77 "OwedDays$ParishReader" "FIRST_LETTER" "[I" ∈ lw_t2 := ch_2 (List.mem_of_getElem? (i := 89) (by decide +kernel)) rfl
theorem wd_425 : Cond.fieldLink RX5 108 "OwedDays$ParishReader" "WITHOUT" "[I" ∈ lw_t2 := ch_2 (List.mem_of_getElem? (i := 91) (by decide +kernel)) rfl
theorem wd_427 : Cond.methodLink RX5 94 yX4_set ∈ lw_t2 := ch_2 (List.mem_of_getElem? (i := 93) (by decide +kernel)) rfl
theorem wd_428 : Cond.instanceMethod yX4_set ∈ lw_t2 := ch_2 (List.mem_of_getElem? (i := 94) (by decide +kernel)) rfl
theorem wd_429 : Cond.selects RX4 yX4_set yX4_set ∈ lw_t2 := ch_2 (List.mem_of_getElem? (i := 95) (by decide +kernel)) rfl
set_option maxRecDepth 100000 in
theorem wd_430 : Cond.code yX4_set cX4_set 4 none ∈ lw_t2 := ch_2 (List.mem_of_getElem? (i := 96) rfl) rfl
theorem wd_431 : Cond.methodLink RX5 37 yX5_readClause ∈ lw_t2 := ch_2 (List.mem_of_getElem? (i := 97) (by decide +kernel)) rfl
theorem wd_433 : Cond.instanceMethod yX5_readClause ∈ lw_t2 := ch_2 (List.mem_of_getElem? (i := 99) (by decide +kernel)) rfl
set_option maxRecDepth 100000 in
theorem wd_434 : Cond.code yX5_readClause cX5_readClause 6 (some FieldType.boolean) ∈ lw_t2 := ch_2 (List.mem_of_getElem? (i := 100) rfl) rfl
theorem wd_435 : Cond.methodLink RX5 56 yX10_pastBlanks ∈ lw_t2 := ch_2 (List.mem_of_getElem? (i := 101) (by decide +kernel)) rfl
theorem wd_436 : Cond.instanceMethod yX10_pastBlanks ∈ lw_t2 := ch_2 (List.mem_of_getElem? (i := 102) (by decide +kernel)) rfl
theorem wd_437 : Cond.selects RX10 yX10_pastBlanks yX10_pastBlanks ∈ lw_t2 := ch_2 (List.mem_of_getElem? (i := 103) (by decide +kernel)) rfl
set_option maxRecDepth 100000 in
theorem wd_438 : Cond.code yX10_pastBlanks cX10_pastBlanks 3 (some FieldType.int) ∈ lw_t2 := ch_2 (List.mem_of_getElem? (i := 104) rfl) rfl
theorem wd_439 : Cond.methodLink RX5 60 yX10_sign ∈ lw_t2 := ch_2 (List.mem_of_getElem? (i := 105) (by decide +kernel)) rfl
theorem wd_440 : Cond.instanceMethod yX10_sign ∈ lw_t2 := ch_2 (List.mem_of_getElem? (i := 106) (by decide +kernel)) rfl
theorem wd_441 : Cond.selects RX10 yX10_sign yX10_sign ∈ lw_t2 := ch_2 (List.mem_of_getElem? (i := 107) (by decide +kernel)) rfl
set_option maxRecDepth 100000 in
theorem wd_442 : Cond.code yX10_sign cX10_sign 2 (some FieldType.int) ∈ lw_t2 := ch_2 (List.mem_of_getElem? (i := 108) rfl) rfl
theorem wd_443 : Cond.methodLink RX5 63 yX5_sortOf ∈ lw_t2 := ch_2 (List.mem_of_getElem? (i := 109) (by decide +kernel)) rfl
theorem wd_444 : Cond.static yX5_sortOf ∈ lw_t2 := ch_2 (List.mem_of_getElem? (i := 110) (by decide +kernel)) rfl
set_option maxRecDepth 100000 in
theorem wd_445 : Cond.code yX5_sortOf cX5_sortOf 1 (some FieldType.int) ∈ lw_t2 := ch_2 (List.mem_of_getElem? (i := 111) rfl) rfl
theorem wd_446 : Cond.methodLink RX5 66 yX5_hasRoomFor ∈ lw_t2 := ch_2 (List.mem_of_getElem? (i := 112) (by decide +kernel)) rfl
theorem wd_448 : Cond.instanceMethod yX5_hasRoomFor ∈ lw_t2 := ch_2 (List.mem_of_getElem? (i := 114) (by decide +kernel)) rfl
set_option maxRecDepth 100000 in
theorem wd_449 : Cond.code yX5_hasRoomFor cX5_hasRoomFor 2 (some FieldType.boolean) ∈ lw_t2 := ch_2 (List.mem_of_getElem? (i := 115) rfl) rfl
theorem wd_450 : Cond.methodLink RX5 47 yX4_stretches ∈ lw_t2 := ch_2 (List.mem_of_getElem? (i := 116) (by decide +kernel)) rfl
theorem wd_451 : Cond.instanceMethod yX4_stretches ∈ lw_t2 := ch_2 (List.mem_of_getElem? (i := 117) (by decide +kernel)) rfl
theorem wd_452 : Cond.selects RX4 yX4_stretches yX4_stretches ∈ lw_t2 := ch_2 (List.mem_of_getElem? (i := 118) (by decide +kernel)) rfl
set_option maxRecDepth 100000 in
theorem wd_453 : Cond.code yX4_stretches cX4_stretches 1 (some FieldType.int) ∈ lw_t2 := ch_2 (List.mem_of_getElem? (i := 119) rfl) rfl
theorem wd_454 : Cond.methodLink RX5 50 yX4_houses ∈ lw_t2 := ch_2 (List.mem_of_getElem? (i := 120) (by decide +kernel)) rfl
theorem wd_455 : Cond.instanceMethod yX4_houses ∈ lw_t2 := ch_2 (List.mem_of_getElem? (i := 121) (by decide +kernel)) rfl
theorem wd_456 : Cond.selects RX4 yX4_houses yX4_houses ∈ lw_t2 := ch_2 (List.mem_of_getElem? (i := 122) (by decide +kernel)) rfl
set_option maxRecDepth 100000 in
theorem wd_457 : Cond.code yX4_houses cX4_houses 1 (some FieldType.int) ∈ lw_t2 := ch_2 (List.mem_of_getElem? (i := 123) rfl) rfl
theorem wd_458 : Cond.methodLink RX5 70 yX5_addRow ∈ lw_t2 := ch_2 (List.mem_of_getElem? (i := 124) (by decide +kernel)) rfl
theorem wd_460 : Cond.instanceMethod yX5_addRow ∈ lw_t2 := ch_2 (List.mem_of_getElem? (i := 126) (by decide +kernel)) rfl
set_option maxRecDepth 100000 in
theorem wd_461 : Cond.code yX5_addRow cX5_addRow 2 (some FieldType.int) ∈ lw_t2 := ch_2 (List.mem_of_getElem? (i := 127) rfl) rfl
theorem wd_462 : Cond.methodLink RX5 102 yX4_addStretch ∈ lw_t2 := ch_2 (List.mem_of_getElem? (i := 128) (by decide +kernel)) rfl
theorem wd_463 : Cond.instanceMethod yX4_addStretch ∈ lw_t2 := ch_2 (List.mem_of_getElem? (i := 129) (by decide +kernel)) rfl
theorem wd_464 : Cond.selects RX4 yX4_addStretch yX4_addStretch ∈ lw_t2 := ch_2 (List.mem_of_getElem? (i := 130) (by decide +kernel)) rfl
set_option maxRecDepth 100000 in
theorem wd_465 : Cond.code yX4_addStretch cX4_addStretch 1 (some FieldType.int) ∈ lw_t2 := ch_2 (List.mem_of_getElem? (i := 131) rfl) rfl
theorem wd_466 : Cond.methodLink RX5 105 yX4_addHouse ∈ lw_t2 := ch_2 (List.mem_of_getElem? (i := 132) (by decide +kernel)) rfl
theorem wd_467 : Cond.instanceMethod yX4_addHouse ∈ lw_t2 := ch_2 (List.mem_of_getElem? (i := 133) (by decide +kernel)) rfl
theorem wd_468 : Cond.selects RX4 yX4_addHouse yX4_addHouse ∈ lw_t2 := ch_2 (List.mem_of_getElem? (i := 134) (by decide +kernel)) rfl
set_option maxRecDepth 100000 in
theorem wd_469 : Cond.code yX4_addHouse cX4_addHouse 1 (some FieldType.int) ∈ lw_t2 := ch_2 (List.mem_of_getElem? (i := 135) rfl) rfl
theorem wd_470 : Cond.methodLink RX5 41 yX10_size ∈ lw_t2 := ch_2 (List.mem_of_getElem? (i := 136) (by decide +kernel)) rfl
theorem wd_471 : Cond.methodLink RX5 73 yX5_letterOf ∈ lw_t2 := ch_2 (List.mem_of_getElem? (i := 137) (by decide +kernel)) rfl
theorem wd_472 : Cond.static yX5_letterOf ∈ lw_t2 := ch_2 (List.mem_of_getElem? (i := 138) (by decide +kernel)) rfl
set_option maxRecDepth 100000 in
theorem wd_473 : Cond.code yX5_letterOf cX5_letterOf 3 (some FieldType.int) ∈ lw_t2 := ch_2 (List.mem_of_getElem? (i := 139) rfl) rfl
theorem wd_474 : Cond.fieldLink RX5 98 "OwedDays$ParishReader" "LETTERS" "[C" ∈ lw_t2 := ch_2 (List.mem_of_getElem? (i := 140) (by decide +kernel)) rfl
theorem wd_476 : Cond.methodLink RX5 81 yX5_readNumber ∈ lw_t2 := ch_2 (List.mem_of_getElem? (i := 142) (by decide +kernel)) rfl
theorem wd_478 : Cond.instanceMethod yX5_readNumber ∈ lw_t2 := ch_2 (List.mem_of_getElem? (i := 144) (by decide +kernel)) rfl
set_option maxRecDepth 100000 in
theorem wd_479 : Cond.code yX5_readNumber cX5_readNumber 5 (some FieldType.boolean) ∈ lw_t2 := ch_2 (List.mem_of_getElem? (i := 145) rfl) rfl
theorem wd_480 : Cond.methodLink RX5 85 yX10_isDigit ∈ lw_t2 := ch_2 (List.mem_of_getElem? (i := 146) (by decide +kernel)) rfl
theorem wd_481 : Cond.instanceMethod yX10_isDigit ∈ lw_t2 := ch_2 (List.mem_of_getElem? (i := 147) (by decide +kernel)) rfl
theorem wd_482 : Cond.selects RX10 yX10_isDigit yX10_isDigit ∈ lw_t2 := ch_2 (List.mem_of_getElem? (i := 148) (by decide +kernel)) rfl
set_option maxRecDepth 100000 in
theorem wd_483 : Cond.code yX10_isDigit cX10_isDigit 3 (some FieldType.boolean) ∈ lw_t2 := ch_2 (List.mem_of_getElem? (i := 149) rfl) rfl
theorem wd_484 : Cond.methodLink RX10 19 yX10_sign ∈ lw_t2 := ch_2 (List.mem_of_getElem? (i := 150) (by decide +kernel)) rfl
theorem wd_485 : Cond.fieldLink RX5 88 "OwedDays$ParishReader" "LOWEST" "[I" ∈ lw_t2 := ch_2 (List.mem_of_getElem? (i := 151) (by decide +kernel)) rfl
theorem wd_487 : Cond.fieldLink RX5 91 "OwedDays$ParishReader" "HIGHEST" "[I" ∈ lw_t2 := ch_2 (List.mem_of_getElem? (i := 153) (by decide +kernel)) rfl
theorem wd_489 : Cond.methodLink RX5 53 yX4_hasLoop ∈ lw_t2 := ch_2 (List.mem_of_getElem? (i := 155) (by decide +kernel)) rfl
theorem wd_490 : Cond.instanceMethod yX4_hasLoop ∈ lw_t2 := ch_2 (List.mem_of_getElem? (i := 156) (by decide +kernel)) rfl
theorem wd_491 : Cond.selects RX4 yX4_hasLoop yX4_hasLoop ∈ lw_t2 := ch_2 (List.mem_of_getElem? (i := 157) (by decide +kernel)) rfl
set_option maxRecDepth 100000 in
theorem wd_492 : Cond.code yX4_hasLoop cX4_hasLoop 2 (some FieldType.boolean) ∈ lw_t2 := ch_2 (List.mem_of_getElem? (i := 158) rfl) rfl
theorem wd_493 : Cond.methodLink RX4 34 yX4_ofStretch ∈ lw_t2 := ch_2 (List.mem_of_getElem? (i := 159) (by decide +kernel)) rfl
theorem wd_494 : Cond.instanceMethod yX4_ofStretch ∈ lw_t2 := ch_2 (List.mem_of_getElem? (i := 160) (by decide +kernel)) rfl
theorem wd_495 : Cond.selects RX4 yX4_ofStretch yX4_ofStretch ∈ lw_t2 := ch_2 (List.mem_of_getElem? (i := 161) (by decide +kernel)) rfl
set_option maxRecDepth 100000 in
theorem wd_496 : Cond.code yX4_ofStretch cX4_ofStretch 3 (some FieldType.int) ∈ lw_t2 := ch_2 (List.mem_of_getElem? (i := 162) rfl) rfl
theorem wd_497 : Cond.methodLink RX11 117 yX2_firstWrong ∈ lw_t2 := ch_2 (List.mem_of_getElem? (i := 163) (by decide +kernel)) rfl
theorem wd_498 : Cond.instanceMethod yX2_firstWrong ∈ lw_t2 := ch_2 (List.mem_of_getElem? (i := 164) (by decide +kernel)) rfl
theorem wd_499 : Cond.selects RX2 yX2_firstWrong yX2_firstWrong ∈ lw_t2 := ch_2 (List.mem_of_getElem? (i := 165) (by decide +kernel)) rfl
set_option maxRecDepth 100000 in
theorem wd_500 : Cond.code yX2_firstWrong cX2_firstWrong 2 (some FieldType.int) ∈ lw_t2 := ch_2 (List.mem_of_getElem? (i := 166) rfl) rfl
theorem wd_501 : Cond.methodLink RX2 26 yX1_empty ∈ lw_t2 := ch_2 (List.mem_of_getElem? (i := 167) (by decide +kernel)) rfl
theorem wd_502 : Cond.instanceMethod yX1_empty ∈ lw_t2 := ch_2 (List.mem_of_getElem? (i := 168) (by decide +kernel)) rfl
theorem wd_503 : Cond.selects RX1 yX1_empty yX1_empty ∈ lw_t2 := ch_2 (List.mem_of_getElem? (i := 169) (by decide +kernel)) rfl
set_option maxRecDepth 100000 in
theorem wd_504 : Cond.code yX1_empty cX1_empty 1 none ∈ lw_t2 := ch_2 (List.mem_of_getElem? (i := 170) rfl) rfl
theorem wd_505 : Cond.methodLink RX2 29 yX2_readClause ∈ lw_t2 := ch_2 (List.mem_of_getElem? (i := 171) (by decide +kernel)) rfl
theorem wd_507 : Cond.instanceMethod yX2_readClause ∈ lw_t2 := ch_2 (List.mem_of_getElem? (i := 173) (by decide +kernel)) rfl
set_option maxRecDepth 100000 in
theorem wd_508 : Cond.code yX2_readClause cX2_readClause 3 (some FieldType.boolean) ∈ lw_t2 := ch_2 (List.mem_of_getElem? (i := 174) rfl) rfl
theorem wd_509 : Cond.methodLink RX2 37 yX2_skip ∈ lw_t2 := ch_2 (List.mem_of_getElem? (i := 175) (by decide +kernel)) rfl
theorem wd_511 : Cond.instanceMethod yX2_skip ∈ lw_t2 := ch_2 (List.mem_of_getElem? (i := 177) (by decide +kernel)) rfl
set_option maxRecDepth 100000 in
theorem wd_512 : Cond.code yX2_skip cX2_skip 2 (some FieldType.boolean) ∈ lw_t2 := ch_2 (List.mem_of_getElem? (i := 178) rfl) rfl
theorem wd_513 : Cond.methodLink RX2 33 yX2_next ∈ lw_t2 := ch_2 (List.mem_of_getElem? (i := 179) (by decide +kernel)) rfl
theorem wd_515 : Cond.instanceMethod yX2_next ∈ lw_t2 := ch_2 (List.mem_of_getElem? (i := 181) (by decide +kernel)) rfl
set_option maxRecDepth 100000 in
theorem wd_516 : Cond.code yX2_next cX2_next 1 (some FieldType.int) ∈ lw_t2 := ch_2 (List.mem_of_getElem? (i := 182) rfl) rfl
theorem wd_517 : Cond.methodLink RX2 89 yX10_pastBlanks ∈ lw_t2 := ch_2 (List.mem_of_getElem? (i := 183) (by decide +kernel)) rfl
theorem wd_518 : Cond.methodLink RX2 85 yX10_sign ∈ lw_t2 := ch_2 (List.mem_of_getElem? (i := 184) (by decide +kernel)) rfl
theorem wd_519 : Cond.methodLink RX2 41 yX2_readSum ∈ lw_t2 := ch_2 (List.mem_of_getElem? (i := 185) (by decide +kernel)) rfl
theorem wd_521 : Cond.instanceMethod yX2_readSum ∈ lw_t2 := ch_2 (List.mem_of_getElem? (i := 187) (by decide +kernel)) rfl
set_option maxRecDepth 100000 in
theorem wd_522 : Cond.code yX2_readSum cX2_readSum 4 (some FieldType.boolean) ∈ lw_t2 := ch_2 (List.mem_of_getElem? (i := 188) rfl) rfl
theorem wd_523 : Cond.methodLink RX2 67 yX2_readTerm ∈ lw_t2 := ch_2 (List.mem_of_getElem? (i := 189) (by decide +kernel)) rfl
theorem wd_525 : Cond.instanceMethod yX2_readTerm ∈ lw_t2 := ch_2 (List.mem_of_getElem? (i := 191) (by decide +kernel)) rfl
set_option maxRecDepth 100000 in
theorem wd_526 : Cond.code yX2_readTerm cX2_readTerm 4 (some FieldType.boolean) ∈ lw_t2 := ch_2 (List.mem_of_getElem? (i := 192) rfl) rfl
theorem wd_527 : Cond.methodLink RX2 70 yX2_readAtom ∈ lw_t2 := ch_2 (List.mem_of_getElem? (i := 193) (by decide +kernel)) rfl
theorem wd_529 : Cond.instanceMethod yX2_readAtom ∈ lw_t2 := ch_2 (List.mem_of_getElem? (i := 195) (by decide +kernel)) rfl
set_option maxRecDepth 100000 in
theorem wd_530 : Cond.code yX2_readAtom cX2_readAtom 4 (some FieldType.boolean) ∈ lw_t2 := ch_2 (List.mem_of_getElem? (i := 196) rfl) rfl
theorem wd_531 : Cond.methodLink RX2 73 yX10_isDigit ∈ lw_t2 := ch_2 (List.mem_of_getElem? (i := 197) (by decide +kernel)) rfl
theorem wd_532 : Cond.methodLink RX2 78 yX2_readNumber ∈ lw_t2 := ch_2 (List.mem_of_getElem? (i := 198) (by decide +kernel)) rfl
theorem wd_534 : Cond.instanceMethod yX2_readNumber ∈ lw_t2 := ch_2 (List.mem_of_getElem? (i := 200) (by decide +kernel)) rfl
set_option maxRecDepth 100000 in
theorem wd_535 : Cond.code yX2_readNumber cX2_readNumber 3 (some FieldType.boolean) ∈ lw_t2 := ch_2 (List.mem_of_getElem? (i := 201) rfl) rfl
theorem wd_536 : Cond.methodLink RX2 54 yX1_add ∈ lw_t2 := ch_2 (List.mem_of_getElem? (i := 202) (by decide +kernel)) rfl
theorem wd_537 : Cond.instanceMethod yX1_add ∈ lw_t2 := ch_2 (List.mem_of_getElem? (i := 203) (by decide +kernel)) rfl
theorem wd_538 : Cond.selects RX1 yX1_add yX1_add ∈ lw_t2 := ch_2 (List.mem_of_getElem? (i := 204) (by decide +kernel)) rfl
set_option maxRecDepth 100000 in
theorem wd_539 : Cond.code yX1_add cX1_add 2 none ∈ lw_t2 := ch_2 (List.mem_of_getElem? (i := 205) rfl) rfl
theorem wd_540 : Cond.fieldLink RX2 81 "OwedDays$LawReader" "LETTERS" "[C" ∈ lw_t2 := ch_2 (List.mem_of_getElem? (i := 206) (by decide +kernel)) rfl
theorem wd_542 : Cond.methodLink RX2 44 yX2_isComparison ∈ lw_t2 := ch_2 (List.mem_of_getElem? (i := 208) (by decide +kernel)) rfl
theorem wd_543 : Cond.static yX2_isComparison ∈ lw_t2 := ch_2 (List.mem_of_getElem? (i := 209) (by decide +kernel)) rfl
set_option maxRecDepth 100000 in
theorem wd_544 : Cond.code yX2_isComparison cX2_isComparison 1 (some FieldType.boolean) ∈ lw_t2 := ch_2 (List.mem_of_getElem? (i := 210) rfl) rfl
theorem wd_545 : Cond.methodLink RX2 47 yX2_readCondition ∈ lw_t2 := ch_2 (List.mem_of_getElem? (i := 211) (by decide +kernel)) rfl
theorem wd_547 : Cond.instanceMethod yX2_readCondition ∈ lw_t2 := ch_2 (List.mem_of_getElem? (i := 213) (by decide +kernel)) rfl
set_option maxRecDepth 100000 in
theorem wd_548 : Cond.code yX2_readCondition cX2_readCondition 4 (some FieldType.boolean) ∈ lw_t2 := ch_2 (List.mem_of_getElem? (i := 214) rfl) rfl
theorem wd_549 : Cond.methodLink RX2 61 yX2_readTruth ∈ lw_t2 := ch_2 (List.mem_of_getElem? (i := 215) (by decide +kernel)) rfl
theorem wd_551 : Cond.instanceMethod yX2_readTruth ∈ lw_t2 := ch_2 (List.mem_of_getElem? (i := 217) (by decide +kernel)) rfl
set_option maxRecDepth 100000 in
theorem wd_552 : Cond.code yX2_readTruth cX2_readTruth 4 (some FieldType.boolean) ∈ lw_t2 := ch_2 (List.mem_of_getElem? (i := 218) rfl) rfl
theorem wd_553 : Cond.methodLink RX2 64 yX2_readUnit ∈ lw_t2 := ch_2 (List.mem_of_getElem? (i := 219) (by decide +kernel)) rfl
theorem wd_555 : Cond.instanceMethod yX2_readUnit ∈ lw_t2 := ch_2 (List.mem_of_getElem? (i := 221) (by decide +kernel)) rfl
set_option maxRecDepth 100000 in
theorem wd_556 : Cond.code yX2_readUnit cX2_readUnit 5 (some FieldType.boolean) ∈ lw_t2 := ch_2 (List.mem_of_getElem? (i := 222) rfl) rfl
theorem wd_557 : Cond.methodLink RX2 51 yX1_size ∈ lw_t2 := ch_2 (List.mem_of_getElem? (i := 223) (by decide +kernel)) rfl
theorem wd_558 : Cond.instanceMethod yX1_size ∈ lw_t2 := ch_2 (List.mem_of_getElem? (i := 224) (by decide +kernel)) rfl
theorem wd_559 : Cond.selects RX1 yX1_size yX1_size ∈ lw_t2 := ch_2 (List.mem_of_getElem? (i := 225) (by decide +kernel)) rfl
set_option maxRecDepth 100000 in
theorem wd_560 : Cond.code yX1_size cX1_size 1 (some FieldType.int) ∈ lw_t2 := ch_2 (List.mem_of_getElem? (i := 226) rfl) rfl
theorem wd_561 : Cond.methodLink RX2 58 yX1_leapFrom ∈ lw_t2 := ch_2 (List.mem_of_getElem? (i := 227) (by decide +kernel)) rfl
theorem wd_562 : Cond.instanceMethod yX1_leapFrom ∈ lw_t2 := ch_2 (List.mem_of_getElem? (i := 228) (by decide +kernel)) rfl
theorem wd_563 : Cond.selects RX1 yX1_leapFrom yX1_leapFrom ∈ lw_t2 := ch_2 (List.mem_of_getElem? (i := 229) (by decide +kernel)) rfl
set_option maxRecDepth 100000 in
theorem wd_564 : Cond.code yX1_leapFrom cX1_leapFrom 2 none ∈ lw_t2 := ch_2 (List.mem_of_getElem? (i := 230) rfl) rfl
theorem wd_565 : Cond.methodLink RL 34 yX11_text ∈ lw_t2 := ch_2 (List.mem_of_getElem? (i := 231) (by decide +kernel)) rfl
theorem wd_566 : Cond.instanceMethod yX11_text ∈ lw_t2 := ch_2 (List.mem_of_getElem? (i := 232) (by decide +kernel)) rfl
theorem wd_567 : Cond.selects RX11 yX11_text yX11_text ∈ lw_t2 := ch_2 (List.mem_of_getElem? (i := 233) (by decide +kernel)) rfl
set_option maxRecDepth 100000 in
theorem wd_568 : Cond.code yX11_text cX11_text 2 (some FieldType.int) ∈ lw_t2 := ch_2 (List.mem_of_getElem? (i := 234) rfl) rfl
theorem wd_569 : Cond.methodLink RX11 118 yX11_settle ∈ lw_t2 := ch_2 (List.mem_of_getElem? (i := 235) (by decide +kernel)) rfl
theorem wd_571 : Cond.instanceMethod yX11_settle ∈ lw_t2 := ch_2 (List.mem_of_getElem? (i := 237) (by decide +kernel)) rfl
set_option maxRecDepth 100000 in
theorem wd_572 : Cond.code yX11_settle cX11_settle 1 none ∈ lw_t2 := ch_2 (List.mem_of_getElem? (i := 238) rfl) rfl
theorem wd_573 : Cond.methodLink RX11 359 yX5_draft ∈ lw_t2 := ch_2 (List.mem_of_getElem? (i := 239) (by decide +kernel)) rfl
theorem wd_574 : Cond.instanceMethod yX5_draft ∈ lw_t2 := ch_3 (List.mem_of_getElem? (i := 0) (by decide +kernel)) rfl
theorem wd_575 : Cond.selects RX5 yX5_draft yX5_draft ∈ lw_t2 := ch_3 (List.mem_of_getElem? (i := 1) (by decide +kernel)) rfl
set_option maxRecDepth 100000 in
theorem wd_576 : Cond.code yX5_draft cX5_draft 1 (some (FieldType.object "OwedDays$Parish")) ∈ lw_t2 := ch_3 (List.mem_of_getElem? (i := 2) rfl) rfl
theorem wd_577 : Cond.methodLink RX11 362 yX4_take ∈ lw_t2 := ch_3 (List.mem_of_getElem? (i := 3) (by decide +kernel)) rfl
theorem wd_578 : Cond.instanceMethod yX4_take ∈ lw_t2 := ch_3 (List.mem_of_getElem? (i := 4) (by decide +kernel)) rfl
theorem wd_579 : Cond.selects RX4 yX4_take yX4_take ∈ lw_t2 := ch_3 (List.mem_of_getElem? (i := 5) (by decide +kernel)) rfl
set_option maxRecDepth 100000 in
theorem wd_580 : Cond.code yX4_take cX4_take 2 none ∈ lw_t2 := ch_3 (List.mem_of_getElem? (i := 6) rfl) rfl
theorem wd_581 : Cond.methodLink RX4 25 ⟨"java/lang/System", "arraycopy", "(Ljava/lang/Object;ILjava/lang/Object;II)V"⟩ ∈ lw_t2 := ch_3 (List.mem_of_getElem? (i := 7) (by decide +kernel)) rfl
theorem wd_582 : Cond.static ⟨"java/lang/System", "arraycopy", "(Ljava/lang/Object;ILjava/lang/Object;II)V"⟩ ∈ lw_t2 := ch_3 (List.mem_of_getElem? (i := 8) (by decide +kernel)) rfl
theorem wd_583 : Cond.native ⟨"java/lang/System", "arraycopy", "(Ljava/lang/Object;ILjava/lang/Object;II)V"⟩ ∈ lw_t2 := ch_3 (List.mem_of_getElem? (i := 9) (by decide +kernel)) rfl
theorem wd_584 : Cond.methodLink RX4 31 yX4_measure ∈ lw_t2 := ch_3 (List.mem_of_getElem? (i := 10) (by decide +kernel)) rfl
theorem wd_586 : Cond.instanceMethod yX4_measure ∈ lw_t2 := ch_3 (List.mem_of_getElem? (i := 12) (by decide +kernel)) rfl
set_option maxRecDepth 100000 in
theorem wd_587 : Cond.code yX4_measure cX4_measure 4 none ∈ lw_t2 := ch_3 (List.mem_of_getElem? (i := 13) rfl) rfl
theorem wd_588 : Cond.methodLink RX4 41 yJ7_fill_53178 ∈ lw_t2 := ch_3 (List.mem_of_getElem? (i := 14) (by decide +kernel)) rfl
theorem wd_589 : Cond.static yJ7_fill_53178 ∈ lw_t2 := ch_3 (List.mem_of_getElem? (i := 15) (by decide +kernel)) rfl
set_option maxRecDepth 100000 in
theorem wd_590 : Cond.code yJ7_fill_53178 cJ7_fill_53178 4 none ∈ lw_t2 := ch_3 (List.mem_of_getElem? (i := 16) rfl) rfl
theorem wd_591 : Cond.methodLink RX4 47 yX4_shortenBy ∈ lw_t2 := ch_3 (List.mem_of_getElem? (i := 17) (by decide +kernel)) rfl
theorem wd_593 : Cond.instanceMethod yX4_shortenBy ∈ lw_t2 := ch_3 (List.mem_of_getElem? (i := 19) (by decide +kernel)) rfl
set_option maxRecDepth 100000 in
theorem wd_594 : Cond.code yX4_shortenBy cX4_shortenBy 5 none ∈ lw_t2 := ch_3 (List.mem_of_getElem? (i := 20) rfl) rfl
theorem wd_595 : Cond.methodLink RX11 365 yX9_begin ∈ lw_t2 := ch_3 (List.mem_of_getElem? (i := 21) (by decide +kernel)) rfl
theorem wd_596 : Cond.instanceMethod yX9_begin ∈ lw_t2 := ch_3 (List.mem_of_getElem? (i := 22) (by decide +kernel)) rfl
theorem wd_597 : Cond.selects RX9 yX9_begin yX9_begin ∈ lw_t2 := ch_3 (List.mem_of_getElem? (i := 23) (by decide +kernel)) rfl
set_option maxRecDepth 100000 in
theorem wd_598 : Cond.code yX9_begin cX9_begin 3 none ∈ lw_t2 := ch_3 (List.mem_of_getElem? (i := 24) rfl) rfl
theorem wd_599 : Cond.methodLink RX9 18 yJ7_fill_53178 ∈ lw_t2 := ch_3 (List.mem_of_getElem? (i := 25) (by decide +kernel)) rfl
theorem wd_600 : Cond.methodLink RX9 24 yX4_stretches ∈ lw_t2 := ch_3 (List.mem_of_getElem? (i := 26) (by decide +kernel)) rfl
theorem wd_601 : Cond.methodLink RX9 30 yX4_ofStretch ∈ lw_t2 := ch_3 (List.mem_of_getElem? (i := 27) (by decide +kernel)) rfl
theorem wd_602 : Cond.methodLink RX9 34 yX4_houses ∈ lw_t2 := ch_3 (List.mem_of_getElem? (i := 28) (by decide +kernel)) rfl
theorem wd_603 : Cond.methodLink RX9 37 yX4_ofRules ∈ lw_t2 := ch_3 (List.mem_of_getElem? (i := 29) (by decide +kernel)) rfl
theorem wd_604 : Cond.instanceMethod yX4_ofRules ∈ lw_t2 := ch_3 (List.mem_of_getElem? (i := 30) (by decide +kernel)) rfl
theorem wd_605 : Cond.selects RX4 yX4_ofRules yX4_ofRules ∈ lw_t2 := ch_3 (List.mem_of_getElem? (i := 31) (by decide +kernel)) rfl
set_option maxRecDepth 100000 in
theorem wd_606 : Cond.code yX4_ofRules cX4_ofRules 2 (some FieldType.int) ∈ lw_t2 := ch_3 (List.mem_of_getElem? (i := 32) rfl) rfl
theorem wd_607 : Cond.methodLink RX11 334 yX6_forget ∈ lw_t2 := ch_3 (List.mem_of_getElem? (i := 33) (by decide +kernel)) rfl
theorem wd_608 : Cond.instanceMethod yX6_forget ∈ lw_t2 := ch_3 (List.mem_of_getElem? (i := 34) (by decide +kernel)) rfl
theorem wd_609 : Cond.selects RX6 yX6_forget yX6_forget ∈ lw_t2 := ch_3 (List.mem_of_getElem? (i := 35) (by decide +kernel)) rfl
set_option maxRecDepth 100000 in
theorem wd_610 : Cond.code yX6_forget cX6_forget 1 none ∈ lw_t2 := ch_3 (List.mem_of_getElem? (i := 36) rfl) rfl
theorem wd_611 : Cond.methodLink RX11 368 yX8_forget ∈ lw_t2 := ch_3 (List.mem_of_getElem? (i := 37) (by decide +kernel)) rfl
theorem wd_612 : Cond.instanceMethod yX8_forget ∈ lw_t2 := ch_3 (List.mem_of_getElem? (i := 38) (by decide +kernel)) rfl
theorem wd_613 : Cond.selects RX8 yX8_forget yX8_forget ∈ lw_t2 := ch_3 (List.mem_of_getElem? (i := 39) (by decide +kernel)) rfl
set_option maxRecDepth 100000 in
theorem wd_614 : Cond.code yX8_forget cX8_forget 1 none ∈ lw_t2 := ch_3 (List.mem_of_getElem? (i := 40) rfl) rfl
theorem wd_615 : Cond.methodLink RX11 121 yX4_stretches ∈ lw_t2 := ch_3 (List.mem_of_getElem? (i := 41) (by decide +kernel)) rfl
theorem wd_616 : Cond.methodLink RX11 124 yX0_laws ∈ lw_t2 := ch_3 (List.mem_of_getElem? (i := 42) (by decide +kernel)) rfl
theorem wd_617 : Cond.instanceMethod yX0_laws ∈ lw_t2 := ch_3 (List.mem_of_getElem? (i := 43) (by decide +kernel)) rfl
theorem wd_618 : Cond.selects RX0 yX0_laws yX0_laws ∈ lw_t2 := ch_3 (List.mem_of_getElem? (i := 44) (by decide +kernel)) rfl
set_option maxRecDepth 100000 in
theorem wd_619 : Cond.code yX0_laws cX0_laws 1 (some FieldType.int) ∈ lw_t2 := ch_3 (List.mem_of_getElem? (i := 45) rfl) rfl
theorem wd_620 : Cond.methodLink RX11 127 yX2_draft ∈ lw_t2 := ch_3 (List.mem_of_getElem? (i := 46) (by decide +kernel)) rfl
theorem wd_621 : Cond.instanceMethod yX2_draft ∈ lw_t2 := ch_3 (List.mem_of_getElem? (i := 47) (by decide +kernel)) rfl
theorem wd_622 : Cond.selects RX2 yX2_draft yX2_draft ∈ lw_t2 := ch_3 (List.mem_of_getElem? (i := 48) (by decide +kernel)) rfl
set_option maxRecDepth 100000 in
theorem wd_623 : Cond.code yX2_draft cX2_draft 1 (some (FieldType.object "OwedDays$Law")) ∈ lw_t2 := ch_3 (List.mem_of_getElem? (i := 49) rfl) rfl
theorem wd_624 : Cond.methodLink RX11 131 yX0_addLaw ∈ lw_t2 := ch_3 (List.mem_of_getElem? (i := 50) (by decide +kernel)) rfl
theorem wd_625 : Cond.instanceMethod yX0_addLaw ∈ lw_t2 := ch_3 (List.mem_of_getElem? (i := 51) (by decide +kernel)) rfl
theorem wd_626 : Cond.selects RX0 yX0_addLaw yX0_addLaw ∈ lw_t2 := ch_3 (List.mem_of_getElem? (i := 52) (by decide +kernel)) rfl
set_option maxRecDepth 100000 in
theorem wd_627 : Cond.code yX0_addLaw cX0_addLaw 2 (some FieldType.int) ∈ lw_t2 := ch_3 (List.mem_of_getElem? (i := 53) rfl) rfl
theorem wd_628 : Cond.methodLink RX0 41 yX1_take ∈ lw_t2 := ch_3 (List.mem_of_getElem? (i := 54) (by decide +kernel)) rfl
theorem wd_629 : Cond.instanceMethod yX1_take ∈ lw_t2 := ch_3 (List.mem_of_getElem? (i := 55) (by decide +kernel)) rfl
theorem wd_630 : Cond.selects RX1 yX1_take yX1_take ∈ lw_t2 := ch_3 (List.mem_of_getElem? (i := 56) (by decide +kernel)) rfl
set_option maxRecDepth 100000 in
theorem wd_631 : Cond.code yX1_take cX1_take 2 none ∈ lw_t2 := ch_3 (List.mem_of_getElem? (i := 57) rfl) rfl
theorem wd_632 : Cond.methodLink RX1 22 ⟨"java/lang/System", "arraycopy", "(Ljava/lang/Object;ILjava/lang/Object;II)V"⟩ ∈ lw_t2 := ch_3 (List.mem_of_getElem? (i := 58) (by decide +kernel)) rfl
theorem wd_633 : Cond.methodLink RL 38 yX11_rule ∈ lw_t2 := ch_3 (List.mem_of_getElem? (i := 59) (by decide +kernel)) rfl
theorem wd_634 : Cond.instanceMethod yX11_rule ∈ lw_t2 := ch_3 (List.mem_of_getElem? (i := 60) (by decide +kernel)) rfl
theorem wd_635 : Cond.selects RX11 yX11_rule yX11_rule ∈ lw_t2 := ch_3 (List.mem_of_getElem? (i := 61) (by decide +kernel)) rfl
set_option maxRecDepth 100000 in
theorem wd_636 : Cond.code yX11_rule cX11_rule 2 (some FieldType.int) ∈ lw_t2 := ch_3 (List.mem_of_getElem? (i := 62) rfl) rfl
theorem wd_637 : Cond.methodLink RX11 135 yX4_isNone ∈ lw_t2 := ch_3 (List.mem_of_getElem? (i := 63) (by decide +kernel)) rfl
theorem wd_638 : Cond.instanceMethod yX4_isNone ∈ lw_t2 := ch_3 (List.mem_of_getElem? (i := 64) (by decide +kernel)) rfl
theorem wd_639 : Cond.selects RX4 yX4_isNone yX4_isNone ∈ lw_t2 := ch_3 (List.mem_of_getElem? (i := 65) (by decide +kernel)) rfl
set_option maxRecDepth 100000 in
theorem wd_640 : Cond.code yX4_isNone cX4_isNone 1 (some FieldType.boolean) ∈ lw_t2 := ch_3 (List.mem_of_getElem? (i := 66) rfl) rfl
theorem wd_641 : Cond.methodLink RX11 139 yX4_ofRules ∈ lw_t2 := ch_3 (List.mem_of_getElem? (i := 67) (by decide +kernel)) rfl
theorem wd_642 : Cond.methodLink RL 42 yX11_stretch ∈ lw_t2 := ch_3 (List.mem_of_getElem? (i := 68) (by decide +kernel)) rfl
theorem wd_643 : Cond.instanceMethod yX11_stretch ∈ lw_t2 := ch_3 (List.mem_of_getElem? (i := 69) (by decide +kernel)) rfl
theorem wd_644 : Cond.selects RX11 yX11_stretch yX11_stretch ∈ lw_t2 := ch_3 (List.mem_of_getElem? (i := 70) (by decide +kernel)) rfl
set_option maxRecDepth 100000 in
theorem wd_645 : Cond.code yX11_stretch cX11_stretch 3 (some FieldType.int) ∈ lw_t2 := ch_3 (List.mem_of_getElem? (i := 71) rfl) rfl
theorem wd_646 : Cond.methodLink RX11 142 yX4_hasStretch ∈ lw_t2 := ch_3 (List.mem_of_getElem? (i := 72) (by decide +kernel)) rfl
theorem wd_647 : Cond.instanceMethod yX4_hasStretch ∈ lw_t2 := ch_3 (List.mem_of_getElem? (i := 73) (by decide +kernel)) rfl
theorem wd_648 : Cond.selects RX4 yX4_hasStretch yX4_hasStretch ∈ lw_t2 := ch_3 (List.mem_of_getElem? (i := 74) (by decide +kernel)) rfl
set_option maxRecDepth 100000 in
theorem wd_649 : Cond.code yX4_hasStretch cX4_hasStretch 2 (some FieldType.boolean) ∈ lw_t2 := ch_3 (List.mem_of_getElem? (i := 75) rfl) rfl
theorem wd_650 : Cond.methodLink RX11 145 yX4_ofStretch ∈ lw_t2 := ch_3 (List.mem_of_getElem? (i := 76) (by decide +kernel)) rfl
theorem wd_651 : Cond.methodLink RX11 149 yX9_wear ∈ lw_t2 := ch_3 (List.mem_of_getElem? (i := 77) (by decide +kernel)) rfl
theorem wd_652 : Cond.instanceMethod yX9_wear ∈ lw_t2 := ch_3 (List.mem_of_getElem? (i := 78) (by decide +kernel)) rfl
theorem wd_653 : Cond.selects RX9 yX9_wear yX9_wear ∈ lw_t2 := ch_3 (List.mem_of_getElem? (i := 79) (by decide +kernel)) rfl
set_option maxRecDepth 100000 in
theorem wd_654 : Cond.code yX9_wear cX9_wear 2 (some FieldType.int) ∈ lw_t2 := ch_3 (List.mem_of_getElem? (i := 80) rfl) rfl
theorem wd_655 : Cond.methodLink RX11 152 yX9_wet ∈ lw_t2 := ch_3 (List.mem_of_getElem? (i := 81) (by decide +kernel)) rfl
theorem wd_656 : Cond.instanceMethod yX9_wet ∈ lw_t2 := ch_3 (List.mem_of_getElem? (i := 82) (by decide +kernel)) rfl
theorem wd_657 : Cond.selects RX9 yX9_wet yX9_wet ∈ lw_t2 := ch_3 (List.mem_of_getElem? (i := 83) (by decide +kernel)) rfl
set_option maxRecDepth 100000 in
theorem wd_658 : Cond.code yX9_wet cX9_wet 2 (some FieldType.int) ∈ lw_t2 := ch_3 (List.mem_of_getElem? (i := 84) rfl) rfl
theorem wd_659 : Cond.methodLink RL 56 yX11_law ∈ lw_t2 := ch_3 (List.mem_of_getElem? (i := 85) (by decide +kernel)) rfl
theorem wd_660 : Cond.instanceMethod yX11_law ∈ lw_t2 := ch_3 (List.mem_of_getElem? (i := 86) (by decide +kernel)) rfl
theorem wd_661 : Cond.selects RX11 yX11_law yX11_law ∈ lw_t2 := ch_3 (List.mem_of_getElem? (i := 87) (by decide +kernel)) rfl
set_option maxRecDepth 100000 in
theorem wd_662 : Cond.code yX11_law cX11_law 2 (some FieldType.boolean) ∈ lw_t2 := ch_3 (List.mem_of_getElem? (i := 88) rfl) rfl
theorem wd_663 : Cond.methodLink RX11 176 yX0_holdTo ∈ lw_t2 := ch_3 (List.mem_of_getElem? (i := 89) (by decide +kernel)) rfl
theorem wd_664 : Cond.instanceMethod yX0_holdTo ∈ lw_t2 := ch_3 (List.mem_of_getElem? (i := 90) (by decide +kernel)) rfl
theorem wd_665 : Cond.selects RX0 yX0_holdTo yX0_holdTo ∈ lw_t2 := ch_3 (List.mem_of_getElem? (i := 91) (by decide +kernel)) rfl
set_option maxRecDepth 100000 in
theorem wd_666 : Cond.code yX0_holdTo cX0_holdTo 2 (some FieldType.boolean) ∈ lw_t2 := ch_3 (List.mem_of_getElem? (i := 92) rfl) rfl
theorem wd_667 : Cond.methodLink RL 60 yX11_haul ∈ lw_t2 := ch_3 (List.mem_of_getElem? (i := 93) (by decide +kernel)) rfl
theorem wd_668 : Cond.instanceMethod yX11_haul ∈ lw_t2 := ch_3 (List.mem_of_getElem? (i := 94) (by decide +kernel)) rfl
theorem wd_669 : Cond.selects RX11 yX11_haul yX11_haul ∈ lw_t2 := ch_3 (List.mem_of_getElem? (i := 95) (by decide +kernel)) rfl
set_option maxRecDepth 100000 in
theorem wd_670 : Cond.code yX11_haul cX11_haul 3 (some FieldType.int) ∈ lw_t2 := ch_3 (List.mem_of_getElem? (i := 96) rfl) rfl
theorem wd_671 : Cond.methodLink RX11 155 yX4_hasHouse ∈ lw_t2 := ch_3 (List.mem_of_getElem? (i := 97) (by decide +kernel)) rfl
theorem wd_672 : Cond.instanceMethod yX4_hasHouse ∈ lw_t2 := ch_3 (List.mem_of_getElem? (i := 98) (by decide +kernel)) rfl
theorem wd_673 : Cond.selects RX4 yX4_hasHouse yX4_hasHouse ∈ lw_t2 := ch_3 (List.mem_of_getElem? (i := 99) (by decide +kernel)) rfl
set_option maxRecDepth 100000 in
theorem wd_674 : Cond.code yX4_hasHouse cX4_hasHouse 2 (some FieldType.boolean) ∈ lw_t2 := ch_3 (List.mem_of_getElem? (i := 100) rfl) rfl
theorem wd_675 : Cond.methodLink RX11 179 yX4_stepsTo ∈ lw_t2 := ch_3 (List.mem_of_getElem? (i := 101) (by decide +kernel)) rfl
theorem wd_676 : Cond.instanceMethod yX4_stepsTo ∈ lw_t2 := ch_3 (List.mem_of_getElem? (i := 102) (by decide +kernel)) rfl
theorem wd_677 : Cond.selects RX4 yX4_stepsTo yX4_stepsTo ∈ lw_t2 := ch_3 (List.mem_of_getElem? (i := 103) (by decide +kernel)) rfl
set_option maxRecDepth 100000 in
theorem wd_678 : Cond.code yX4_stepsTo cX4_stepsTo 7 (some FieldType.int) ∈ lw_t2 := ch_3 (List.mem_of_getElem? (i := 104) rfl) rfl
theorem wd_679 : Cond.methodLink RX4 38 yX4_ofHouse ∈ lw_t2 := ch_3 (List.mem_of_getElem? (i := 105) (by decide +kernel)) rfl
theorem wd_680 : Cond.instanceMethod yX4_ofHouse ∈ lw_t2 := ch_3 (List.mem_of_getElem? (i := 106) (by decide +kernel)) rfl
theorem wd_681 : Cond.selects RX4 yX4_ofHouse yX4_ofHouse ∈ lw_t2 := ch_3 (List.mem_of_getElem? (i := 107) (by decide +kernel)) rfl
set_option maxRecDepth 100000 in
theorem wd_682 : Cond.code yX4_ofHouse cX4_ofHouse 3 (some FieldType.int) ∈ lw_t2 := ch_3 (List.mem_of_getElem? (i := 108) rfl) rfl
theorem wd_683 : Cond.methodLink RL 64 yX11_does ∈ lw_t2 := ch_3 (List.mem_of_getElem? (i := 109) (by decide +kernel)) rfl
theorem wd_684 : Cond.instanceMethod yX11_does ∈ lw_t2 := ch_3 (List.mem_of_getElem? (i := 110) (by decide +kernel)) rfl
theorem wd_685 : Cond.selects RX11 yX11_does yX11_does ∈ lw_t2 := ch_3 (List.mem_of_getElem? (i := 111) (by decide +kernel)) rfl
set_option maxRecDepth 100000 in
theorem wd_686 : Cond.code yX11_does cX11_does 4 (some FieldType.int) ∈ lw_t2 := ch_3 (List.mem_of_getElem? (i := 112) rfl) rfl
theorem wd_687 : Cond.methodLink RX11 182 yX0_canWork ∈ lw_t2 := ch_3 (List.mem_of_getElem? (i := 113) (by decide +kernel)) rfl
theorem wd_688 : Cond.instanceMethod yX0_canWork ∈ lw_t2 := ch_3 (List.mem_of_getElem? (i := 114) (by decide +kernel)) rfl
theorem wd_689 : Cond.selects RX0 yX0_canWork yX0_canWork ∈ lw_t2 := ch_3 (List.mem_of_getElem? (i := 115) (by decide +kernel)) rfl
set_option maxRecDepth 100000 in
theorem wd_690 : Cond.code yX0_canWork cX0_canWork 4 (some FieldType.boolean) ∈ lw_t2 := ch_3 (List.mem_of_getElem? (i := 116) rfl) rfl
theorem wd_691 : Cond.methodLink RX0 51 yX0_canCome ∈ lw_t2 := ch_3 (List.mem_of_getElem? (i := 117) (by decide +kernel)) rfl
theorem wd_692 : Cond.instanceMethod yX0_canCome ∈ lw_t2 := ch_3 (List.mem_of_getElem? (i := 118) (by decide +kernel)) rfl
theorem wd_693 : Cond.selects RX0 yX0_canCome yX0_canCome ∈ lw_t2 := ch_3 (List.mem_of_getElem? (i := 119) (by decide +kernel)) rfl
set_option maxRecDepth 100000 in
theorem wd_694 : Cond.code yX0_canCome cX0_canCome 3 (some FieldType.boolean) ∈ lw_t2 := ch_3 (List.mem_of_getElem? (i := 120) rfl) rfl
theorem wd_695 : Cond.methodLink RX0 45 yX4_stepsTo ∈ lw_t2 := ch_3 (List.mem_of_getElem? (i := 121) (by decide +kernel)) rfl
theorem wd_696 : Cond.methodLink RX11 186 yX0_effect ∈ lw_t2 := ch_3 (List.mem_of_getElem? (i := 122) (by decide +kernel)) rfl
theorem wd_697 : Cond.instanceMethod yX0_effect ∈ lw_t2 := ch_3 (List.mem_of_getElem? (i := 123) (by decide +kernel)) rfl
theorem wd_698 : Cond.selects RX0 yX0_effect yX0_effect ∈ lw_t2 := ch_3 (List.mem_of_getElem? (i := 124) (by decide +kernel)) rfl
set_option maxRecDepth 100000 in
theorem wd_699 : Cond.code yX0_effect cX0_effect 6 (some FieldType.int) ∈ lw_t2 := ch_3 (List.mem_of_getElem? (i := 125) rfl) rfl
theorem wd_700 : Cond.methodLink RX0 62 yX0_ownDay ∈ lw_t2 := ch_3 (List.mem_of_getElem? (i := 126) (by decide +kernel)) rfl
theorem wd_702 : Cond.instanceMethod yX0_ownDay ∈ lw_t2 := ch_3 (List.mem_of_getElem? (i := 128) (by decide +kernel)) rfl
set_option maxRecDepth 100000 in
theorem wd_703 : Cond.code yX0_ownDay cX0_ownDay 7 (some FieldType.int) ∈ lw_t2 := ch_3 (List.mem_of_getElem? (i := 129) rfl) rfl
theorem wd_704 : Cond.methodLink RX0 80 yX4_ofHouse ∈ lw_t2 := ch_3 (List.mem_of_getElem? (i := 130) (by decide +kernel)) rfl
theorem wd_705 : Cond.methodLink RX0 83 yX9_wet ∈ lw_t2 := ch_3 (List.mem_of_getElem? (i := 131) (by decide +kernel)) rfl
theorem wd_706 : Cond.methodLink RX0 86 yX9_season ∈ lw_t2 := ch_3 (List.mem_of_getElem? (i := 132) (by decide +kernel)) rfl
theorem wd_707 : Cond.instanceMethod yX9_season ∈ lw_t2 := ch_3 (List.mem_of_getElem? (i := 133) (by decide +kernel)) rfl
theorem wd_708 : Cond.selects RX9 yX9_season yX9_season ∈ lw_t2 := ch_3 (List.mem_of_getElem? (i := 134) (by decide +kernel)) rfl
set_option maxRecDepth 100000 in
theorem wd_709 : Cond.code yX9_season cX9_season 1 (some FieldType.int) ∈ lw_t2 := ch_3 (List.mem_of_getElem? (i := 135) rfl) rfl
theorem wd_710 : Cond.methodLink RX0 90 yX1_valueFor ∈ lw_t2 := ch_3 (List.mem_of_getElem? (i := 136) (by decide +kernel)) rfl
theorem wd_711 : Cond.instanceMethod yX1_valueFor ∈ lw_t2 := ch_3 (List.mem_of_getElem? (i := 137) (by decide +kernel)) rfl
theorem wd_712 : Cond.selects RX1 yX1_valueFor yX1_valueFor ∈ lw_t2 := ch_3 (List.mem_of_getElem? (i := 138) (by decide +kernel)) rfl
set_option maxRecDepth 100000 in
theorem wd_713 : Cond.code yX1_valueFor cX1_valueFor 5 (some FieldType.int) ∈ lw_t2 := ch_3 (List.mem_of_getElem? (i := 139) rfl) rfl
theorem wd_714 : Cond.methodLink RX1 28 yX1_joined ∈ lw_t2 := ch_3 (List.mem_of_getElem? (i := 140) (by decide +kernel)) rfl
theorem wd_715 : Cond.static yX1_joined ∈ lw_t2 := ch_3 (List.mem_of_getElem? (i := 141) (by decide +kernel)) rfl
set_option maxRecDepth 100000 in
theorem wd_716 : Cond.code yX1_joined cX1_joined 3 (some FieldType.int) ∈ lw_t2 := ch_3 (List.mem_of_getElem? (i := 142) rfl) rfl
theorem wd_717 : Cond.methodLink RX1 32 yX1_reckoned ∈ lw_t2 := ch_3 (List.mem_of_getElem? (i := 143) (by decide +kernel)) rfl
theorem wd_718 : Cond.static yX1_reckoned ∈ lw_t2 := ch_3 (List.mem_of_getElem? (i := 144) (by decide +kernel)) rfl
set_option maxRecDepth 100000 in
theorem wd_719 : Cond.code yX1_reckoned cX1_reckoned 7 (some FieldType.int) ∈ lw_t2 := ch_3 (List.mem_of_getElem? (i := 145) rfl) rfl
theorem wd_720 : Cond.constantLong RX1 36 (1000000 : Int64) ∈ lw_t2 := ch_3 (List.mem_of_getElem? (i := 146) (by decide +kernel)) rfl
theorem wd_721 : Cond.constant RX1 38 (1000000 : Int32) ∈ lw_t2 := ch_3 (List.mem_of_getElem? (i := 147) (by decide +kernel)) rfl
theorem wd_722 : Cond.constantLong RX1 39 (-1000000 : Int64) ∈ lw_t2 := ch_3 (List.mem_of_getElem? (i := 148) (by decide +kernel)) rfl
theorem wd_723 : Cond.constant RX1 41 (-1000000 : Int32) ∈ lw_t2 := ch_3 (List.mem_of_getElem? (i := 149) (by decide +kernel)) rfl
theorem wd_724 : Cond.methodLink RX0 66 yX9_isWinter ∈ lw_t2 := ch_3 (List.mem_of_getElem? (i := 150) (by decide +kernel)) rfl
theorem wd_725 : Cond.instanceMethod yX9_isWinter ∈ lw_t2 := ch_3 (List.mem_of_getElem? (i := 151) (by decide +kernel)) rfl
theorem wd_726 : Cond.selects RX9 yX9_isWinter yX9_isWinter ∈ lw_t2 := ch_3 (List.mem_of_getElem? (i := 152) (by decide +kernel)) rfl
set_option maxRecDepth 100000 in
theorem wd_727 : Cond.code yX9_isWinter cX9_isWinter 1 (some FieldType.boolean) ∈ lw_t2 := ch_3 (List.mem_of_getElem? (i := 153) rfl) rfl
theorem wd_728 : Cond.methodLink RL 69 yX11_work ∈ lw_t2 := ch_3 (List.mem_of_getElem? (i := 154) (by decide +kernel)) rfl
theorem wd_729 : Cond.instanceMethod yX11_work ∈ lw_t2 := ch_3 (List.mem_of_getElem? (i := 155) (by decide +kernel)) rfl
theorem wd_730 : Cond.selects RX11 yX11_work yX11_work ∈ lw_t2 := ch_3 (List.mem_of_getElem? (i := 156) (by decide +kernel)) rfl
set_option maxRecDepth 100000 in
theorem wd_731 : Cond.code yX11_work cX11_work 4 (some FieldType.int) ∈ lw_t2 := ch_3 (List.mem_of_getElem? (i := 157) rfl) rfl
theorem wd_732 : Cond.methodLink RX11 190 yX11_refuse ∈ lw_t2 := ch_3 (List.mem_of_getElem? (i := 158) (by decide +kernel)) rfl
theorem wd_734 : Cond.instanceMethod yX11_refuse ∈ lw_t2 := ch_3 (List.mem_of_getElem? (i := 160) (by decide +kernel)) rfl
set_option maxRecDepth 100000 in
theorem wd_735 : Cond.code yX11_refuse cX11_refuse 2 (some FieldType.int) ∈ lw_t2 := ch_3 (List.mem_of_getElem? (i := 161) rfl) rfl
theorem wd_736 : Cond.methodLink RX11 168 yX9_owed ∈ lw_t2 := ch_3 (List.mem_of_getElem? (i := 162) (by decide +kernel)) rfl
theorem wd_737 : Cond.instanceMethod yX9_owed ∈ lw_t2 := ch_3 (List.mem_of_getElem? (i := 163) (by decide +kernel)) rfl
theorem wd_738 : Cond.selects RX9 yX9_owed yX9_owed ∈ lw_t2 := ch_3 (List.mem_of_getElem? (i := 164) (by decide +kernel)) rfl
set_option maxRecDepth 100000 in
theorem wd_739 : Cond.code yX9_owed cX9_owed 2 (some FieldType.int) ∈ lw_t2 := ch_3 (List.mem_of_getElem? (i := 165) rfl) rfl
theorem wd_740 : Cond.methodLink RX11 193 yX6_keep ∈ lw_t2 := ch_3 (List.mem_of_getElem? (i := 166) (by decide +kernel)) rfl
theorem wd_741 : Cond.instanceMethod yX6_keep ∈ lw_t2 := ch_3 (List.mem_of_getElem? (i := 167) (by decide +kernel)) rfl
theorem wd_742 : Cond.selects RX6 yX6_keep yX6_keep ∈ lw_t2 := ch_3 (List.mem_of_getElem? (i := 168) (by decide +kernel)) rfl
set_option maxRecDepth 100000 in
theorem wd_743 : Cond.code yX6_keep cX6_keep 2 none ∈ lw_t2 := ch_3 (List.mem_of_getElem? (i := 169) rfl) rfl
theorem wd_744 : Cond.methodLink RX6 22 yX9_writeTo ∈ lw_t2 := ch_3 (List.mem_of_getElem? (i := 170) (by decide +kernel)) rfl
theorem wd_745 : Cond.instanceMethod yX9_writeTo ∈ lw_t2 := ch_3 (List.mem_of_getElem? (i := 171) (by decide +kernel)) rfl
theorem wd_746 : Cond.selects RX9 yX9_writeTo yX9_writeTo ∈ lw_t2 := ch_3 (List.mem_of_getElem? (i := 172) (by decide +kernel)) rfl
set_option maxRecDepth 100000 in
theorem wd_747 : Cond.code yX9_writeTo cX9_writeTo 3 none ∈ lw_t2 := ch_3 (List.mem_of_getElem? (i := 173) rfl) rfl
theorem wd_748 : Cond.methodLink RX9 41 ⟨"java/lang/System", "arraycopy", "(Ljava/lang/Object;ILjava/lang/Object;II)V"⟩ ∈ lw_t2 := ch_3 (List.mem_of_getElem? (i := 174) (by decide +kernel)) rfl
theorem wd_749 : Cond.methodLink RX11 197 yX0_workDay ∈ lw_t2 := ch_3 (List.mem_of_getElem? (i := 175) (by decide +kernel)) rfl
theorem wd_750 : Cond.instanceMethod yX0_workDay ∈ lw_t2 := ch_3 (List.mem_of_getElem? (i := 176) (by decide +kernel)) rfl
theorem wd_751 : Cond.selects RX0 yX0_workDay yX0_workDay ∈ lw_t2 := ch_3 (List.mem_of_getElem? (i := 177) (by decide +kernel)) rfl
set_option maxRecDepth 100000 in
theorem wd_752 : Cond.code yX0_workDay cX0_workDay 5 none ∈ lw_t2 := ch_3 (List.mem_of_getElem? (i := 178) rfl) rfl
theorem wd_753 : Cond.methodLink RX0 72 yX9_wear ∈ lw_t2 := ch_3 (List.mem_of_getElem? (i := 179) (by decide +kernel)) rfl
theorem wd_754 : Cond.methodLink RX0 76 yX0_effect ∈ lw_t2 := ch_3 (List.mem_of_getElem? (i := 180) (by decide +kernel)) rfl
theorem wd_755 : Cond.methodLink RX0 94 yX9_setWear ∈ lw_t2 := ch_3 (List.mem_of_getElem? (i := 181) (by decide +kernel)) rfl
theorem wd_756 : Cond.instanceMethod yX9_setWear ∈ lw_t2 := ch_3 (List.mem_of_getElem? (i := 182) (by decide +kernel)) rfl
theorem wd_757 : Cond.selects RX9 yX9_setWear yX9_setWear ∈ lw_t2 := ch_3 (List.mem_of_getElem? (i := 183) (by decide +kernel)) rfl
set_option maxRecDepth 100000 in
theorem wd_758 : Cond.code yX9_setWear cX9_setWear 3 none ∈ lw_t2 := ch_3 (List.mem_of_getElem? (i := 184) rfl) rfl
theorem wd_759 : Cond.methodLink RX0 98 yX9_owed ∈ lw_t2 := ch_3 (List.mem_of_getElem? (i := 185) (by decide +kernel)) rfl
theorem wd_760 : Cond.methodLink RX0 101 yX9_setOwed ∈ lw_t2 := ch_3 (List.mem_of_getElem? (i := 186) (by decide +kernel)) rfl
theorem wd_761 : Cond.instanceMethod yX9_setOwed ∈ lw_t2 := ch_3 (List.mem_of_getElem? (i := 187) (by decide +kernel)) rfl
theorem wd_762 : Cond.selects RX9 yX9_setOwed yX9_setOwed ∈ lw_t2 := ch_3 (List.mem_of_getElem? (i := 188) (by decide +kernel)) rfl
set_option maxRecDepth 100000 in
theorem wd_763 : Cond.code yX9_setOwed cX9_setOwed 3 none ∈ lw_t2 := ch_3 (List.mem_of_getElem? (i := 189) rfl) rfl
theorem wd_764 : Cond.methodLink RX0 104 yX9_countWork ∈ lw_t2 := ch_3 (List.mem_of_getElem? (i := 190) (by decide +kernel)) rfl
theorem wd_765 : Cond.instanceMethod yX9_countWork ∈ lw_t2 := ch_3 (List.mem_of_getElem? (i := 191) (by decide +kernel)) rfl
theorem wd_766 : Cond.selects RX9 yX9_countWork yX9_countWork ∈ lw_t2 := ch_3 (List.mem_of_getElem? (i := 192) (by decide +kernel)) rfl
set_option maxRecDepth 100000 in
theorem wd_767 : Cond.code yX9_countWork cX9_countWork 1 none ∈ lw_t2 := ch_3 (List.mem_of_getElem? (i := 193) rfl) rfl
theorem wd_768 : Cond.methodLink RX0 107 yX4_ofRules ∈ lw_t2 := ch_3 (List.mem_of_getElem? (i := 194) (by decide +kernel)) rfl
theorem wd_769 : Cond.methodLink RX0 110 yX9_addToBox ∈ lw_t2 := ch_3 (List.mem_of_getElem? (i := 195) (by decide +kernel)) rfl
theorem wd_770 : Cond.instanceMethod yX9_addToBox ∈ lw_t2 := ch_3 (List.mem_of_getElem? (i := 196) (by decide +kernel)) rfl
theorem wd_771 : Cond.selects RX9 yX9_addToBox yX9_addToBox ∈ lw_t2 := ch_3 (List.mem_of_getElem? (i := 197) (by decide +kernel)) rfl
set_option maxRecDepth 100000 in
theorem wd_772 : Cond.code yX9_addToBox cX9_addToBox 2 none ∈ lw_t2 := ch_3 (List.mem_of_getElem? (i := 198) rfl) rfl
theorem wd_773 : Cond.methodLink RL 73 yX11_pay ∈ lw_t2 := ch_3 (List.mem_of_getElem? (i := 199) (by decide +kernel)) rfl
theorem wd_774 : Cond.instanceMethod yX11_pay ∈ lw_t2 := ch_3 (List.mem_of_getElem? (i := 200) (by decide +kernel)) rfl
theorem wd_775 : Cond.selects RX11 yX11_pay yX11_pay ∈ lw_t2 := ch_3 (List.mem_of_getElem? (i := 201) (by decide +kernel)) rfl
set_option maxRecDepth 100000 in
theorem wd_776 : Cond.code yX11_pay cX11_pay 3 (some FieldType.int) ∈ lw_t2 := ch_3 (List.mem_of_getElem? (i := 202) rfl) rfl
theorem wd_777 : Cond.methodLink RX11 201 yX9_setOwed ∈ lw_t2 := ch_3 (List.mem_of_getElem? (i := 203) (by decide +kernel)) rfl
theorem wd_778 : Cond.methodLink RX11 205 yX9_addToBox ∈ lw_t2 := ch_3 (List.mem_of_getElem? (i := 204) (by decide +kernel)) rfl
theorem wd_779 : Cond.methodLink RX11 208 yX9_box ∈ lw_t2 := ch_3 (List.mem_of_getElem? (i := 205) (by decide +kernel)) rfl
theorem wd_780 : Cond.instanceMethod yX9_box ∈ lw_t2 := ch_3 (List.mem_of_getElem? (i := 206) (by decide +kernel)) rfl
theorem wd_781 : Cond.selects RX9 yX9_box yX9_box ∈ lw_t2 := ch_3 (List.mem_of_getElem? (i := 207) (by decide +kernel)) rfl
set_option maxRecDepth 100000 in
theorem wd_782 : Cond.code yX9_box cX9_box 1 (some FieldType.int) ∈ lw_t2 := ch_3 (List.mem_of_getElem? (i := 208) rfl) rfl
theorem wd_783 : Cond.methodLink RL 77 yX11_ditch ∈ lw_t2 := ch_3 (List.mem_of_getElem? (i := 209) (by decide +kernel)) rfl
theorem wd_784 : Cond.instanceMethod yX11_ditch ∈ lw_t2 := ch_3 (List.mem_of_getElem? (i := 210) (by decide +kernel)) rfl
theorem wd_785 : Cond.selects RX11 yX11_ditch yX11_ditch ∈ lw_t2 := ch_3 (List.mem_of_getElem? (i := 211) (by decide +kernel)) rfl
set_option maxRecDepth 100000 in
theorem wd_786 : Cond.code yX11_ditch cX11_ditch 2 (some FieldType.int) ∈ lw_t2 := ch_3 (List.mem_of_getElem? (i := 212) rfl) rfl
theorem wd_787 : Cond.methodLink RX11 211 yX0_drain ∈ lw_t2 := ch_3 (List.mem_of_getElem? (i := 213) (by decide +kernel)) rfl
theorem wd_788 : Cond.instanceMethod yX0_drain ∈ lw_t2 := ch_3 (List.mem_of_getElem? (i := 214) (by decide +kernel)) rfl
theorem wd_789 : Cond.selects RX0 yX0_drain yX0_drain ∈ lw_t2 := ch_3 (List.mem_of_getElem? (i := 215) (by decide +kernel)) rfl
set_option maxRecDepth 100000 in
theorem wd_790 : Cond.code yX0_drain cX0_drain 4 none ∈ lw_t2 := ch_3 (List.mem_of_getElem? (i := 216) rfl) rfl
theorem wd_791 : Cond.methodLink RX0 114 yX4_ofStretch ∈ lw_t2 := ch_3 (List.mem_of_getElem? (i := 217) (by decide +kernel)) rfl
theorem wd_792 : Cond.methodLink RX0 117 yX9_setWet ∈ lw_t2 := ch_3 (List.mem_of_getElem? (i := 218) (by decide +kernel)) rfl
theorem wd_793 : Cond.instanceMethod yX9_setWet ∈ lw_t2 := ch_3 (List.mem_of_getElem? (i := 219) (by decide +kernel)) rfl
theorem wd_794 : Cond.selects RX9 yX9_setWet yX9_setWet ∈ lw_t2 := ch_3 (List.mem_of_getElem? (i := 220) (by decide +kernel)) rfl
set_option maxRecDepth 100000 in
theorem wd_795 : Cond.code yX9_setWet cX9_setWet 3 none ∈ lw_t2 := ch_3 (List.mem_of_getElem? (i := 221) rfl) rfl
theorem wd_796 : Cond.methodLink RX0 120 yX4_stretches ∈ lw_t2 := ch_3 (List.mem_of_getElem? (i := 222) (by decide +kernel)) rfl
theorem wd_797 : Cond.methodLink RX0 123 yX4_touches ∈ lw_t2 := ch_3 (List.mem_of_getElem? (i := 223) (by decide +kernel)) rfl
theorem wd_798 : Cond.instanceMethod yX4_touches ∈ lw_t2 := ch_3 (List.mem_of_getElem? (i := 224) (by decide +kernel)) rfl
theorem wd_799 : Cond.selects RX4 yX4_touches yX4_touches ∈ lw_t2 := ch_3 (List.mem_of_getElem? (i := 225) (by decide +kernel)) rfl
set_option maxRecDepth 100000 in
theorem wd_800 : Cond.code yX4_touches cX4_touches 3 (some FieldType.boolean) ∈ lw_t2 := ch_3 (List.mem_of_getElem? (i := 226) rfl) rfl
theorem wd_801 : Cond.methodLink RL 81 yX11_seasons ∈ lw_t2 := ch_3 (List.mem_of_getElem? (i := 227) (by decide +kernel)) rfl
theorem wd_802 : Cond.instanceMethod yX11_seasons ∈ lw_t2 := ch_3 (List.mem_of_getElem? (i := 228) (by decide +kernel)) rfl
theorem wd_803 : Cond.selects RX11 yX11_seasons yX11_seasons ∈ lw_t2 := ch_3 (List.mem_of_getElem? (i := 229) (by decide +kernel)) rfl
set_option maxRecDepth 100000 in
theorem wd_804 : Cond.code yX11_seasons cX11_seasons 3 (some FieldType.int) ∈ lw_t2 := ch_3 (List.mem_of_getElem? (i := 230) rfl) rfl
theorem wd_805 : Cond.methodLink RX11 214 yX9_season ∈ lw_t2 := ch_3 (List.mem_of_getElem? (i := 231) (by decide +kernel)) rfl
theorem wd_806 : Cond.methodLink RX11 217 yX0_passSeason ∈ lw_t2 := ch_3 (List.mem_of_getElem? (i := 232) (by decide +kernel)) rfl
theorem wd_807 : Cond.instanceMethod yX0_passSeason ∈ lw_t2 := ch_3 (List.mem_of_getElem? (i := 233) (by decide +kernel)) rfl
theorem wd_808 : Cond.selects RX0 yX0_passSeason yX0_passSeason ∈ lw_t2 := ch_3 (List.mem_of_getElem? (i := 234) (by decide +kernel)) rfl
set_option maxRecDepth 100000 in
theorem wd_809 : Cond.code yX0_passSeason cX0_passSeason 3 none ∈ lw_t2 := ch_3 (List.mem_of_getElem? (i := 235) rfl) rfl
theorem wd_810 : Cond.methodLink RX0 126 yX0_wornOn ∈ lw_t2 := ch_3 (List.mem_of_getElem? (i := 236) (by decide +kernel)) rfl
theorem wd_811 : Cond.instanceMethod yX0_wornOn ∈ lw_t2 := ch_3 (List.mem_of_getElem? (i := 237) (by decide +kernel)) rfl
theorem wd_812 : Cond.selects RX0 yX0_wornOn yX0_wornOn ∈ lw_t2 := ch_3 (List.mem_of_getElem? (i := 238) (by decide +kernel)) rfl
set_option maxRecDepth 100000 in
theorem wd_813 : Cond.code yX0_wornOn cX0_wornOn 5 (some FieldType.int) ∈ lw_t2 := ch_3 (List.mem_of_getElem? (i := 239) rfl) rfl
theorem wd_814 : Cond.methodLink RX0 130 yX9_nextSeason ∈ lw_t2 := ch_4 (List.mem_of_getElem? (i := 0) (by decide +kernel)) rfl
theorem wd_815 : Cond.instanceMethod yX9_nextSeason ∈ lw_t2 := ch_4 (List.mem_of_getElem? (i := 1) (by decide +kernel)) rfl
theorem wd_816 : Cond.selects RX9 yX9_nextSeason yX9_nextSeason ∈ lw_t2 := ch_4 (List.mem_of_getElem? (i := 2) (by decide +kernel)) rfl
set_option maxRecDepth 100000 in
theorem wd_817 : Cond.code yX9_nextSeason cX9_nextSeason 1 none ∈ lw_t2 := ch_4 (List.mem_of_getElem? (i := 3) rfl) rfl
theorem wd_818 : Cond.methodLink RX0 133 yX0_beginYear ∈ lw_t2 := ch_4 (List.mem_of_getElem? (i := 4) (by decide +kernel)) rfl
theorem wd_820 : Cond.instanceMethod yX0_beginYear ∈ lw_t2 := ch_4 (List.mem_of_getElem? (i := 6) (by decide +kernel)) rfl
set_option maxRecDepth 100000 in
theorem wd_821 : Cond.code yX0_beginYear cX0_beginYear 3 none ∈ lw_t2 := ch_4 (List.mem_of_getElem? (i := 7) rfl) rfl
theorem wd_822 : Cond.methodLink RX0 139 yX4_houses ∈ lw_t2 := ch_4 (List.mem_of_getElem? (i := 8) (by decide +kernel)) rfl
theorem wd_823 : Cond.methodLink RX0 142 yX9_debt ∈ lw_t2 := ch_4 (List.mem_of_getElem? (i := 9) (by decide +kernel)) rfl
theorem wd_824 : Cond.instanceMethod yX9_debt ∈ lw_t2 := ch_4 (List.mem_of_getElem? (i := 10) (by decide +kernel)) rfl
theorem wd_825 : Cond.selects RX9 yX9_debt yX9_debt ∈ lw_t2 := ch_4 (List.mem_of_getElem? (i := 11) (by decide +kernel)) rfl
set_option maxRecDepth 100000 in
theorem wd_826 : Cond.code yX9_debt cX9_debt 2 (some FieldType.int) ∈ lw_t2 := ch_4 (List.mem_of_getElem? (i := 12) rfl) rfl
theorem wd_827 : Cond.methodLink RX0 145 yX9_setDebt ∈ lw_t2 := ch_4 (List.mem_of_getElem? (i := 13) (by decide +kernel)) rfl
theorem wd_828 : Cond.instanceMethod yX9_setDebt ∈ lw_t2 := ch_4 (List.mem_of_getElem? (i := 14) (by decide +kernel)) rfl
theorem wd_829 : Cond.selects RX9 yX9_setDebt yX9_setDebt ∈ lw_t2 := ch_4 (List.mem_of_getElem? (i := 15) (by decide +kernel)) rfl
set_option maxRecDepth 100000 in
theorem wd_830 : Cond.code yX9_setDebt cX9_setDebt 3 none ∈ lw_t2 := ch_4 (List.mem_of_getElem? (i := 16) rfl) rfl
theorem wd_831 : Cond.methodLink RX0 136 yX9_writeLog ∈ lw_t2 := ch_4 (List.mem_of_getElem? (i := 17) (by decide +kernel)) rfl
theorem wd_832 : Cond.instanceMethod yX9_writeLog ∈ lw_t2 := ch_4 (List.mem_of_getElem? (i := 18) (by decide +kernel)) rfl
theorem wd_833 : Cond.selects RX9 yX9_writeLog yX9_writeLog ∈ lw_t2 := ch_4 (List.mem_of_getElem? (i := 19) (by decide +kernel)) rfl
set_option maxRecDepth 100000 in
theorem wd_834 : Cond.code yX9_writeLog cX9_writeLog 2 none ∈ lw_t2 := ch_4 (List.mem_of_getElem? (i := 20) rfl) rfl
theorem wd_835 : Cond.methodLink RX9 50 yX9_allWear ∈ lw_t2 := ch_4 (List.mem_of_getElem? (i := 21) (by decide +kernel)) rfl
theorem wd_836 : Cond.instanceMethod yX9_allWear ∈ lw_t2 := ch_4 (List.mem_of_getElem? (i := 22) (by decide +kernel)) rfl
theorem wd_837 : Cond.selects RX9 yX9_allWear yX9_allWear ∈ lw_t2 := ch_4 (List.mem_of_getElem? (i := 23) (by decide +kernel)) rfl
set_option maxRecDepth 100000 in
theorem wd_838 : Cond.code yX9_allWear cX9_allWear 1 (some FieldType.int) ∈ lw_t2 := ch_4 (List.mem_of_getElem? (i := 24) rfl) rfl
theorem wd_839 : Cond.methodLink RX9 47 yX9_sum ∈ lw_t2 := ch_4 (List.mem_of_getElem? (i := 25) (by decide +kernel)) rfl
theorem wd_841 : Cond.instanceMethod yX9_sum ∈ lw_t2 := ch_4 (List.mem_of_getElem? (i := 27) (by decide +kernel)) rfl
set_option maxRecDepth 100000 in
theorem wd_842 : Cond.code yX9_sum cX9_sum 5 (some FieldType.int) ∈ lw_t2 := ch_4 (List.mem_of_getElem? (i := 28) rfl) rfl
theorem wd_843 : Cond.methodLink RX9 53 yX9_bad ∈ lw_t2 := ch_4 (List.mem_of_getElem? (i := 29) (by decide +kernel)) rfl
theorem wd_845 : Cond.instanceMethod yX9_bad ∈ lw_t2 := ch_4 (List.mem_of_getElem? (i := 31) (by decide +kernel)) rfl
set_option maxRecDepth 100000 in
theorem wd_846 : Cond.code yX9_bad cX9_bad 3 (some FieldType.int) ∈ lw_t2 := ch_4 (List.mem_of_getElem? (i := 32) rfl) rfl
theorem wd_847 : Cond.methodLink RX9 59 yX9_wear ∈ lw_t2 := ch_4 (List.mem_of_getElem? (i := 33) (by decide +kernel)) rfl
theorem wd_848 : Cond.methodLink RL 87 yX11_years ∈ lw_t2 := ch_4 (List.mem_of_getElem? (i := 34) (by decide +kernel)) rfl
theorem wd_849 : Cond.instanceMethod yX11_years ∈ lw_t2 := ch_4 (List.mem_of_getElem? (i := 35) (by decide +kernel)) rfl
theorem wd_850 : Cond.selects RX11 yX11_years yX11_years ∈ lw_t2 := ch_4 (List.mem_of_getElem? (i := 36) (by decide +kernel)) rfl
set_option maxRecDepth 100000 in
theorem wd_851 : Cond.code yX11_years cX11_years 5 (some FieldType.int) ∈ lw_t2 := ch_4 (List.mem_of_getElem? (i := 37) rfl) rfl
theorem wd_852 : Cond.methodLink RX11 220 yX0_sow ∈ lw_t2 := ch_4 (List.mem_of_getElem? (i := 38) (by decide +kernel)) rfl
theorem wd_853 : Cond.instanceMethod yX0_sow ∈ lw_t2 := ch_4 (List.mem_of_getElem? (i := 39) (by decide +kernel)) rfl
theorem wd_854 : Cond.selects RX0 yX0_sow yX0_sow ∈ lw_t2 := ch_4 (List.mem_of_getElem? (i := 40) (by decide +kernel)) rfl
set_option maxRecDepth 100000 in
theorem wd_855 : Cond.code yX0_sow cX0_sow 3 none ∈ lw_t2 := ch_4 (List.mem_of_getElem? (i := 41) rfl) rfl
theorem wd_856 : Cond.methodLink RX11 224 yX0_workDrawnDays ∈ lw_t2 := ch_4 (List.mem_of_getElem? (i := 42) (by decide +kernel)) rfl
theorem wd_857 : Cond.instanceMethod yX0_workDrawnDays ∈ lw_t2 := ch_4 (List.mem_of_getElem? (i := 43) (by decide +kernel)) rfl
theorem wd_858 : Cond.selects RX0 yX0_workDrawnDays yX0_workDrawnDays ∈ lw_t2 := ch_4 (List.mem_of_getElem? (i := 44) (by decide +kernel)) rfl
set_option maxRecDepth 100000 in
theorem wd_859 : Cond.code yX0_workDrawnDays cX0_workDrawnDays 4 none ∈ lw_t2 := ch_4 (List.mem_of_getElem? (i := 45) rfl) rfl
theorem wd_860 : Cond.methodLink RX0 148 yX0_draw ∈ lw_t2 := ch_4 (List.mem_of_getElem? (i := 46) (by decide +kernel)) rfl
theorem wd_862 : Cond.instanceMethod yX0_draw ∈ lw_t2 := ch_4 (List.mem_of_getElem? (i := 48) (by decide +kernel)) rfl
set_option maxRecDepth 100000 in
theorem wd_863 : Cond.code yX0_draw cX0_draw 2 (some FieldType.int) ∈ lw_t2 := ch_4 (List.mem_of_getElem? (i := 49) rfl) rfl
theorem wd_864 : Cond.constantLong RX0 155 (6364136223846793005 : Int64) ∈ lw_t2 := ch_4 (List.mem_of_getElem? (i := 50) (by decide +kernel)) rfl
theorem wd_865 : Cond.constantLong RX0 157 (1442695040888963407 : Int64) ∈ lw_t2 := ch_4 (List.mem_of_getElem? (i := 51) (by decide +kernel)) rfl
theorem wd_866 : Cond.methodLink RX0 151 yX0_workDay ∈ lw_t2 := ch_4 (List.mem_of_getElem? (i := 52) (by decide +kernel)) rfl
theorem wd_867 : Cond.methodLink RL 92 yX11_status ∈ lw_t2 := ch_4 (List.mem_of_getElem? (i := 53) (by decide +kernel)) rfl
theorem wd_868 : Cond.instanceMethod yX11_status ∈ lw_t2 := ch_4 (List.mem_of_getElem? (i := 54) (by decide +kernel)) rfl
theorem wd_869 : Cond.selects RX11 yX11_status yX11_status ∈ lw_t2 := ch_4 (List.mem_of_getElem? (i := 55) (by decide +kernel)) rfl
set_option maxRecDepth 100000 in
theorem wd_870 : Cond.code yX11_status cX11_status 2 (some FieldType.int) ∈ lw_t2 := ch_4 (List.mem_of_getElem? (i := 56) rfl) rfl
theorem wd_871 : Cond.methodLink RL 96 yX11_undo ∈ lw_t2 := ch_4 (List.mem_of_getElem? (i := 57) (by decide +kernel)) rfl
theorem wd_872 : Cond.instanceMethod yX11_undo ∈ lw_t2 := ch_4 (List.mem_of_getElem? (i := 58) (by decide +kernel)) rfl
theorem wd_873 : Cond.selects RX11 yX11_undo yX11_undo ∈ lw_t2 := ch_4 (List.mem_of_getElem? (i := 59) (by decide +kernel)) rfl
set_option maxRecDepth 100000 in
theorem wd_874 : Cond.code yX11_undo cX11_undo 1 (some FieldType.int) ∈ lw_t2 := ch_4 (List.mem_of_getElem? (i := 60) rfl) rfl
theorem wd_875 : Cond.methodLink RX11 227 yX6_bringBack ∈ lw_t2 := ch_4 (List.mem_of_getElem? (i := 61) (by decide +kernel)) rfl
theorem wd_876 : Cond.instanceMethod yX6_bringBack ∈ lw_t2 := ch_4 (List.mem_of_getElem? (i := 62) (by decide +kernel)) rfl
theorem wd_877 : Cond.selects RX6 yX6_bringBack yX6_bringBack ∈ lw_t2 := ch_4 (List.mem_of_getElem? (i := 63) (by decide +kernel)) rfl
set_option maxRecDepth 100000 in
theorem wd_878 : Cond.code yX6_bringBack cX6_bringBack 2 (some FieldType.boolean) ∈ lw_t2 := ch_4 (List.mem_of_getElem? (i := 64) rfl) rfl
theorem wd_879 : Cond.methodLink RX6 26 yX9_readFrom ∈ lw_t2 := ch_4 (List.mem_of_getElem? (i := 65) (by decide +kernel)) rfl
theorem wd_880 : Cond.instanceMethod yX9_readFrom ∈ lw_t2 := ch_4 (List.mem_of_getElem? (i := 66) (by decide +kernel)) rfl
theorem wd_881 : Cond.selects RX9 yX9_readFrom yX9_readFrom ∈ lw_t2 := ch_4 (List.mem_of_getElem? (i := 67) (by decide +kernel)) rfl
set_option maxRecDepth 100000 in
theorem wd_882 : Cond.code yX9_readFrom cX9_readFrom 3 none ∈ lw_t2 := ch_4 (List.mem_of_getElem? (i := 68) rfl) rfl
theorem wd_883 : Cond.methodLink RX11 231 yX6_size ∈ lw_t2 := ch_4 (List.mem_of_getElem? (i := 69) (by decide +kernel)) rfl
theorem wd_884 : Cond.instanceMethod yX6_size ∈ lw_t2 := ch_4 (List.mem_of_getElem? (i := 70) (by decide +kernel)) rfl
theorem wd_885 : Cond.selects RX6 yX6_size yX6_size ∈ lw_t2 := ch_4 (List.mem_of_getElem? (i := 71) (by decide +kernel)) rfl
set_option maxRecDepth 100000 in
theorem wd_886 : Cond.code yX6_size cX6_size 1 (some FieldType.int) ∈ lw_t2 := ch_4 (List.mem_of_getElem? (i := 72) rfl) rfl
theorem wd_887 : Cond.methodLink RL 100 yX11_log ∈ lw_t2 := ch_4 (List.mem_of_getElem? (i := 73) (by decide +kernel)) rfl
theorem wd_888 : Cond.instanceMethod yX11_log ∈ lw_t2 := ch_4 (List.mem_of_getElem? (i := 74) (by decide +kernel)) rfl
theorem wd_889 : Cond.selects RX11 yX11_log yX11_log ∈ lw_t2 := ch_4 (List.mem_of_getElem? (i := 75) (by decide +kernel)) rfl
set_option maxRecDepth 100000 in
theorem wd_890 : Cond.code yX11_log cX11_log 3 (some FieldType.int) ∈ lw_t2 := ch_4 (List.mem_of_getElem? (i := 76) rfl) rfl
theorem wd_891 : Cond.methodLink RX11 232 yX9_logged ∈ lw_t2 := ch_4 (List.mem_of_getElem? (i := 77) (by decide +kernel)) rfl
theorem wd_892 : Cond.instanceMethod yX9_logged ∈ lw_t2 := ch_4 (List.mem_of_getElem? (i := 78) (by decide +kernel)) rfl
theorem wd_893 : Cond.selects RX9 yX9_logged yX9_logged ∈ lw_t2 := ch_4 (List.mem_of_getElem? (i := 79) (by decide +kernel)) rfl
set_option maxRecDepth 100000 in
theorem wd_894 : Cond.code yX9_logged cX9_logged 3 (some FieldType.int) ∈ lw_t2 := ch_4 (List.mem_of_getElem? (i := 80) rfl) rfl
theorem wd_895 : Cond.methodLink RX9 56 yX9_logLength ∈ lw_t2 := ch_4 (List.mem_of_getElem? (i := 81) (by decide +kernel)) rfl
theorem wd_896 : Cond.instanceMethod yX9_logLength ∈ lw_t2 := ch_4 (List.mem_of_getElem? (i := 82) (by decide +kernel)) rfl
theorem wd_897 : Cond.selects RX9 yX9_logLength yX9_logLength ∈ lw_t2 := ch_4 (List.mem_of_getElem? (i := 83) (by decide +kernel)) rfl
set_option maxRecDepth 100000 in
theorem wd_898 : Cond.code yX9_logLength cX9_logLength 1 (some FieldType.int) ∈ lw_t2 := ch_4 (List.mem_of_getElem? (i := 84) rfl) rfl
theorem wd_899 : Cond.methodLink RL 104 yX11_least ∈ lw_t2 := ch_4 (List.mem_of_getElem? (i := 85) (by decide +kernel)) rfl
theorem wd_900 : Cond.instanceMethod yX11_least ∈ lw_t2 := ch_4 (List.mem_of_getElem? (i := 86) (by decide +kernel)) rfl
theorem wd_901 : Cond.selects RX11 yX11_least yX11_least ∈ lw_t2 := ch_4 (List.mem_of_getElem? (i := 87) (by decide +kernel)) rfl
set_option maxRecDepth 100000 in
theorem wd_902 : Cond.code yX11_least cX11_least 5 (some FieldType.int) ∈ lw_t2 := ch_4 (List.mem_of_getElem? (i := 88) rfl) rfl
theorem wd_903 : Cond.methodLink RX11 235 yX3_fewestDays ∈ lw_t2 := ch_4 (List.mem_of_getElem? (i := 89) (by decide +kernel)) rfl
theorem wd_904 : Cond.instanceMethod yX3_fewestDays ∈ lw_t2 := ch_4 (List.mem_of_getElem? (i := 90) (by decide +kernel)) rfl
theorem wd_905 : Cond.selects RX3 yX3_fewestDays yX3_fewestDays ∈ lw_t2 := ch_4 (List.mem_of_getElem? (i := 91) (by decide +kernel)) rfl
set_option maxRecDepth 100000 in
theorem wd_906 : Cond.code yX3_fewestDays cX3_fewestDays 6 (some FieldType.int) ∈ lw_t2 := ch_4 (List.mem_of_getElem? (i := 92) rfl) rfl
theorem wd_907 : Cond.methodLink RX3 45 yX9_wear ∈ lw_t2 := ch_4 (List.mem_of_getElem? (i := 93) (by decide +kernel)) rfl
theorem wd_908 : Cond.methodLink RX3 51 yX4_houses ∈ lw_t2 := ch_4 (List.mem_of_getElem? (i := 94) (by decide +kernel)) rfl
theorem wd_909 : Cond.methodLink RX3 57 yX0_canCome ∈ lw_t2 := ch_4 (List.mem_of_getElem? (i := 95) (by decide +kernel)) rfl
theorem wd_910 : Cond.methodLink RX3 63 yX9_owed ∈ lw_t2 := ch_4 (List.mem_of_getElem? (i := 96) (by decide +kernel)) rfl
theorem wd_911 : Cond.methodLink RX3 66 yX3_foreseeDays ∈ lw_t2 := ch_4 (List.mem_of_getElem? (i := 97) (by decide +kernel)) rfl
theorem wd_913 : Cond.instanceMethod yX3_foreseeDays ∈ lw_t2 := ch_4 (List.mem_of_getElem? (i := 99) (by decide +kernel)) rfl
set_option maxRecDepth 100000 in
theorem wd_914 : Cond.code yX3_foreseeDays cX3_foreseeDays 6 none ∈ lw_t2 := ch_4 (List.mem_of_getElem? (i := 100) rfl) rfl
theorem wd_915 : Cond.methodLink RX3 79 yJ7_fill_53178 ∈ lw_t2 := ch_4 (List.mem_of_getElem? (i := 101) (by decide +kernel)) rfl
theorem wd_916 : Cond.methodLink RX3 85 yX0_effect ∈ lw_t2 := ch_4 (List.mem_of_getElem? (i := 102) (by decide +kernel)) rfl
theorem wd_917 : Cond.methodLink RX3 88 yJ9_max_7cf53 ∈ lw_t2 := ch_4 (List.mem_of_getElem? (i := 103) (by decide +kernel)) rfl
theorem wd_918 : Cond.static yJ9_max_7cf53 ∈ lw_t2 := ch_4 (List.mem_of_getElem? (i := 104) (by decide +kernel)) rfl
set_option maxRecDepth 100000 in
theorem wd_919 : Cond.code yJ9_max_7cf53 cJ9_max_7cf53 2 (some FieldType.int) ∈ lw_t2 := ch_4 (List.mem_of_getElem? (i := 105) rfl) rfl
theorem wd_920 : Cond.methodLink RX3 94 yJ9_min_7cf53 ∈ lw_t2 := ch_4 (List.mem_of_getElem? (i := 106) (by decide +kernel)) rfl
theorem wd_921 : Cond.static yJ9_min_7cf53 ∈ lw_t2 := ch_4 (List.mem_of_getElem? (i := 107) (by decide +kernel)) rfl
set_option maxRecDepth 100000 in
theorem wd_922 : Cond.code yJ9_min_7cf53 cJ9_min_7cf53 2 (some FieldType.int) ∈ lw_t2 := ch_4 (List.mem_of_getElem? (i := 108) rfl) rfl
theorem wd_923 : Cond.methodLink RX3 70 yX3_foreseeLowest ∈ lw_t2 := ch_4 (List.mem_of_getElem? (i := 109) (by decide +kernel)) rfl
theorem wd_925 : Cond.instanceMethod yX3_foreseeLowest ∈ lw_t2 := ch_4 (List.mem_of_getElem? (i := 111) (by decide +kernel)) rfl
set_option maxRecDepth 100000 in
theorem wd_926 : Cond.code yX3_foreseeLowest cX3_foreseeLowest 6 none ∈ lw_t2 := ch_4 (List.mem_of_getElem? (i := 112) rfl) rfl
theorem wd_927 : Cond.methodLink RX3 74 yX3_leastRow ∈ lw_t2 := ch_4 (List.mem_of_getElem? (i := 113) (by decide +kernel)) rfl
theorem wd_929 : Cond.instanceMethod yX3_leastRow ∈ lw_t2 := ch_4 (List.mem_of_getElem? (i := 115) (by decide +kernel)) rfl
set_option maxRecDepth 100000 in
theorem wd_930 : Cond.code yX3_leastRow cX3_leastRow 7 (some FieldType.int) ∈ lw_t2 := ch_4 (List.mem_of_getElem? (i := 116) rfl) rfl
theorem wd_931 : Cond.constant RX3 78 (1000000 : Int32) ∈ lw_t2 := ch_4 (List.mem_of_getElem? (i := 117) (by decide +kernel)) rfl
theorem wd_932 : Cond.constant RX11 238 (1000000 : Int32) ∈ lw_t2 := ch_4 (List.mem_of_getElem? (i := 118) (by decide +kernel)) rfl
theorem wd_933 : Cond.methodLink RL 108 yX11_way ∈ lw_t2 := ch_4 (List.mem_of_getElem? (i := 119) (by decide +kernel)) rfl
theorem wd_934 : Cond.instanceMethod yX11_way ∈ lw_t2 := ch_4 (List.mem_of_getElem? (i := 120) (by decide +kernel)) rfl
theorem wd_935 : Cond.selects RX11 yX11_way yX11_way ∈ lw_t2 := ch_4 (List.mem_of_getElem? (i := 121) (by decide +kernel)) rfl
set_option maxRecDepth 100000 in
theorem wd_936 : Cond.code yX11_way cX11_way 4 (some FieldType.int) ∈ lw_t2 := ch_4 (List.mem_of_getElem? (i := 122) rfl) rfl
theorem wd_937 : Cond.methodLink RX11 239 yX7_spreadFrom ∈ lw_t2 := ch_4 (List.mem_of_getElem? (i := 123) (by decide +kernel)) rfl
theorem wd_938 : Cond.instanceMethod yX7_spreadFrom ∈ lw_t2 := ch_4 (List.mem_of_getElem? (i := 124) (by decide +kernel)) rfl
theorem wd_939 : Cond.selects RX7 yX7_spreadFrom yX7_spreadFrom ∈ lw_t2 := ch_4 (List.mem_of_getElem? (i := 125) (by decide +kernel)) rfl
set_option maxRecDepth 100000 in
theorem wd_940 : Cond.code yX7_spreadFrom cX7_spreadFrom 7 none ∈ lw_t2 := ch_4 (List.mem_of_getElem? (i := 126) rfl) rfl
theorem wd_941 : Cond.constant RX7 23 (1000000000 : Int32) ∈ lw_t2 := ch_4 (List.mem_of_getElem? (i := 127) (by decide +kernel)) rfl
theorem wd_942 : Cond.methodLink RX7 24 yJ7_fill_53178 ∈ lw_t2 := ch_4 (List.mem_of_getElem? (i := 128) (by decide +kernel)) rfl
theorem wd_943 : Cond.methodLink RX7 30 yX4_stretches ∈ lw_t2 := ch_4 (List.mem_of_getElem? (i := 129) (by decide +kernel)) rfl
theorem wd_944 : Cond.methodLink RX7 36 yX9_wear ∈ lw_t2 := ch_4 (List.mem_of_getElem? (i := 130) (by decide +kernel)) rfl
theorem wd_945 : Cond.methodLink RX7 42 yX4_ofStretch ∈ lw_t2 := ch_4 (List.mem_of_getElem? (i := 131) (by decide +kernel)) rfl
theorem wd_946 : Cond.methodLink RX7 46 yJ9_min_7cf53 ∈ lw_t2 := ch_4 (List.mem_of_getElem? (i := 132) (by decide +kernel)) rfl
theorem wd_947 : Cond.methodLink RX11 242 yX7_reaches ∈ lw_t2 := ch_4 (List.mem_of_getElem? (i := 133) (by decide +kernel)) rfl
theorem wd_948 : Cond.instanceMethod yX7_reaches ∈ lw_t2 := ch_4 (List.mem_of_getElem? (i := 134) (by decide +kernel)) rfl
theorem wd_949 : Cond.selects RX7 yX7_reaches yX7_reaches ∈ lw_t2 := ch_4 (List.mem_of_getElem? (i := 135) (by decide +kernel)) rfl
set_option maxRecDepth 100000 in
theorem wd_950 : Cond.code yX7_reaches cX7_reaches 2 (some FieldType.boolean) ∈ lw_t2 := ch_4 (List.mem_of_getElem? (i := 136) rfl) rfl
theorem wd_951 : Cond.methodLink RX11 245 yX7_wearTo ∈ lw_t2 := ch_4 (List.mem_of_getElem? (i := 137) (by decide +kernel)) rfl
theorem wd_952 : Cond.instanceMethod yX7_wearTo ∈ lw_t2 := ch_4 (List.mem_of_getElem? (i := 138) (by decide +kernel)) rfl
theorem wd_953 : Cond.selects RX7 yX7_wearTo yX7_wearTo ∈ lw_t2 := ch_4 (List.mem_of_getElem? (i := 139) (by decide +kernel)) rfl
set_option maxRecDepth 100000 in
theorem wd_954 : Cond.code yX7_wearTo cX7_wearTo 2 (some FieldType.int) ∈ lw_t2 := ch_4 (List.mem_of_getElem? (i := 140) rfl) rfl
theorem wd_955 : Cond.methodLink RX11 248 yX7_stretchesTo ∈ lw_t2 := ch_4 (List.mem_of_getElem? (i := 141) (by decide +kernel)) rfl
theorem wd_956 : Cond.instanceMethod yX7_stretchesTo ∈ lw_t2 := ch_4 (List.mem_of_getElem? (i := 142) (by decide +kernel)) rfl
theorem wd_957 : Cond.selects RX7 yX7_stretchesTo yX7_stretchesTo ∈ lw_t2 := ch_4 (List.mem_of_getElem? (i := 143) (by decide +kernel)) rfl
set_option maxRecDepth 100000 in
theorem wd_958 : Cond.code yX7_stretchesTo cX7_stretchesTo 2 (some FieldType.int) ∈ lw_t2 := ch_4 (List.mem_of_getElem? (i := 144) rfl) rfl
theorem wd_959 : Cond.methodLink RL 112 yX11_worth ∈ lw_t2 := ch_4 (List.mem_of_getElem? (i := 145) (by decide +kernel)) rfl
theorem wd_960 : Cond.instanceMethod yX11_worth ∈ lw_t2 := ch_4 (List.mem_of_getElem? (i := 146) (by decide +kernel)) rfl
theorem wd_961 : Cond.selects RX11 yX11_worth yX11_worth ∈ lw_t2 := ch_4 (List.mem_of_getElem? (i := 147) (by decide +kernel)) rfl
set_option maxRecDepth 100000 in
theorem wd_962 : Cond.code yX11_worth cX11_worth 2 (some FieldType.int) ∈ lw_t2 := ch_4 (List.mem_of_getElem? (i := 148) rfl) rfl
theorem wd_963 : Cond.methodLink RX11 251 yX0_mostWorth ∈ lw_t2 := ch_4 (List.mem_of_getElem? (i := 149) (by decide +kernel)) rfl
theorem wd_964 : Cond.instanceMethod yX0_mostWorth ∈ lw_t2 := ch_4 (List.mem_of_getElem? (i := 150) (by decide +kernel)) rfl
theorem wd_965 : Cond.selects RX0 yX0_mostWorth yX0_mostWorth ∈ lw_t2 := ch_4 (List.mem_of_getElem? (i := 151) (by decide +kernel)) rfl
set_option maxRecDepth 100000 in
theorem wd_966 : Cond.code yX0_mostWorth cX0_mostWorth 5 (some FieldType.int) ∈ lw_t2 := ch_4 (List.mem_of_getElem? (i := 152) rfl) rfl
theorem wd_967 : Cond.methodLink RX0 159 yX0_effectNow ∈ lw_t2 := ch_4 (List.mem_of_getElem? (i := 153) (by decide +kernel)) rfl
theorem wd_968 : Cond.instanceMethod yX0_effectNow ∈ lw_t2 := ch_4 (List.mem_of_getElem? (i := 154) (by decide +kernel)) rfl
theorem wd_969 : Cond.selects RX0 yX0_effectNow yX0_effectNow ∈ lw_t2 := ch_4 (List.mem_of_getElem? (i := 155) (by decide +kernel)) rfl
set_option maxRecDepth 100000 in
theorem wd_970 : Cond.code yX0_effectNow cX0_effectNow 4 (some FieldType.int) ∈ lw_t2 := ch_4 (List.mem_of_getElem? (i := 156) rfl) rfl
theorem wd_971 : Cond.methodLink RL 116 yX11_buys ∈ lw_t2 := ch_4 (List.mem_of_getElem? (i := 157) (by decide +kernel)) rfl
theorem wd_972 : Cond.instanceMethod yX11_buys ∈ lw_t2 := ch_4 (List.mem_of_getElem? (i := 158) (by decide +kernel)) rfl
theorem wd_973 : Cond.selects RX11 yX11_buys yX11_buys ∈ lw_t2 := ch_4 (List.mem_of_getElem? (i := 159) (by decide +kernel)) rfl
set_option maxRecDepth 100000 in
theorem wd_974 : Cond.code yX11_buys cX11_buys 1 (some FieldType.int) ∈ lw_t2 := ch_4 (List.mem_of_getElem? (i := 160) rfl) rfl
theorem wd_975 : Cond.methodLink RX11 254 yX0_buyers ∈ lw_t2 := ch_4 (List.mem_of_getElem? (i := 161) (by decide +kernel)) rfl
theorem wd_976 : Cond.instanceMethod yX0_buyers ∈ lw_t2 := ch_4 (List.mem_of_getElem? (i := 162) (by decide +kernel)) rfl
theorem wd_977 : Cond.selects RX0 yX0_buyers yX0_buyers ∈ lw_t2 := ch_4 (List.mem_of_getElem? (i := 163) (by decide +kernel)) rfl
set_option maxRecDepth 100000 in
theorem wd_978 : Cond.code yX0_buyers cX0_buyers 3 (some FieldType.int) ∈ lw_t2 := ch_4 (List.mem_of_getElem? (i := 164) rfl) rfl
theorem wd_979 : Cond.methodLink RX0 162 yX0_shouldBuy ∈ lw_t2 := ch_4 (List.mem_of_getElem? (i := 165) (by decide +kernel)) rfl
theorem wd_981 : Cond.instanceMethod yX0_shouldBuy ∈ lw_t2 := ch_4 (List.mem_of_getElem? (i := 167) (by decide +kernel)) rfl
set_option maxRecDepth 100000 in
theorem wd_982 : Cond.code yX0_shouldBuy cX0_shouldBuy 5 (some FieldType.boolean) ∈ lw_t2 := ch_4 (List.mem_of_getElem? (i := 168) rfl) rfl
theorem wd_983 : Cond.methodLink RL 120 yX11_game ∈ lw_t2 := ch_4 (List.mem_of_getElem? (i := 169) (by decide +kernel)) rfl
theorem wd_984 : Cond.instanceMethod yX11_game ∈ lw_t2 := ch_4 (List.mem_of_getElem? (i := 170) (by decide +kernel)) rfl
theorem wd_985 : Cond.selects RX11 yX11_game yX11_game ∈ lw_t2 := ch_4 (List.mem_of_getElem? (i := 171) (by decide +kernel)) rfl
set_option maxRecDepth 100000 in
theorem wd_986 : Cond.code yX11_game cX11_game 7 (some FieldType.int) ∈ lw_t2 := ch_4 (List.mem_of_getElem? (i := 172) rfl) rfl
theorem wd_987 : Cond.methodLink RX11 257 yX0_canMeet ∈ lw_t2 := ch_4 (List.mem_of_getElem? (i := 173) (by decide +kernel)) rfl
theorem wd_988 : Cond.instanceMethod yX0_canMeet ∈ lw_t2 := ch_4 (List.mem_of_getElem? (i := 174) (by decide +kernel)) rfl
theorem wd_989 : Cond.selects RX0 yX0_canMeet yX0_canMeet ∈ lw_t2 := ch_4 (List.mem_of_getElem? (i := 175) (by decide +kernel)) rfl
set_option maxRecDepth 100000 in
theorem wd_990 : Cond.code yX0_canMeet cX0_canMeet 4 (some FieldType.boolean) ∈ lw_t2 := ch_4 (List.mem_of_getElem? (i := 176) rfl) rfl
theorem wd_991 : Cond.methodLink RX0 55 yX4_hasHouse ∈ lw_t2 := ch_4 (List.mem_of_getElem? (i := 177) (by decide +kernel)) rfl
theorem wd_992 : Cond.methodLink RX0 59 yX4_hasStretch ∈ lw_t2 := ch_4 (List.mem_of_getElem? (i := 178) (by decide +kernel)) rfl
theorem wd_993 : Cond.methodLink RX11 260 yX11_isPlayed ∈ lw_t2 := ch_4 (List.mem_of_getElem? (i := 179) (by decide +kernel)) rfl
theorem wd_994 : Cond.static yX11_isPlayed ∈ lw_t2 := ch_4 (List.mem_of_getElem? (i := 180) (by decide +kernel)) rfl
set_option maxRecDepth 100000 in
theorem wd_995 : Cond.code yX11_isPlayed cX11_isPlayed 1 (some FieldType.boolean) ∈ lw_t2 := ch_4 (List.mem_of_getElem? (i := 181) rfl) rfl
theorem wd_996 : Cond.constant RX11 263 (-1000000 : Int32) ∈ lw_t2 := ch_4 (List.mem_of_getElem? (i := 182) (by decide +kernel)) rfl
theorem wd_997 : Cond.methodLink RX11 264 yX3_setUpGame ∈ lw_t2 := ch_4 (List.mem_of_getElem? (i := 183) (by decide +kernel)) rfl
theorem wd_998 : Cond.instanceMethod yX3_setUpGame ∈ lw_t2 := ch_4 (List.mem_of_getElem? (i := 184) (by decide +kernel)) rfl
theorem wd_999 : Cond.selects RX3 yX3_setUpGame yX3_setUpGame ∈ lw_t2 := ch_4 (List.mem_of_getElem? (i := 185) (by decide +kernel)) rfl
set_option maxRecDepth 100000 in
theorem wd_1000 : Cond.code yX3_setUpGame cX3_setUpGame 5 none ∈ lw_t2 := ch_4 (List.mem_of_getElem? (i := 186) rfl) rfl
theorem wd_1001 : Cond.methodLink RX3 97 yX0_effectNow ∈ lw_t2 := ch_4 (List.mem_of_getElem? (i := 187) (by decide +kernel)) rfl
theorem wd_1002 : Cond.methodLink RX11 267 yX3_ones ∈ lw_t2 := ch_4 (List.mem_of_getElem? (i := 188) (by decide +kernel)) rfl
theorem wd_1003 : Cond.instanceMethod yX3_ones ∈ lw_t2 := ch_4 (List.mem_of_getElem? (i := 189) (by decide +kernel)) rfl
theorem wd_1004 : Cond.selects RX3 yX3_ones yX3_ones ∈ lw_t2 := ch_4 (List.mem_of_getElem? (i := 190) (by decide +kernel)) rfl
set_option maxRecDepth 100000 in
theorem wd_1005 : Cond.code yX3_ones cX3_ones 3 (some FieldType.int) ∈ lw_t2 := ch_4 (List.mem_of_getElem? (i := 191) rfl) rfl
theorem wd_1006 : Cond.fieldLink RX3 101 "OwedDays$Outlook" "COSTS" "[I" ∈ lw_t2 := ch_4 (List.mem_of_getElem? (i := 192) (by decide +kernel)) rfl
theorem wd_1008 : Cond.methodLink RX11 270 yX3_others ∈ lw_t2 := ch_4 (List.mem_of_getElem? (i := 194) (by decide +kernel)) rfl
theorem wd_1009 : Cond.instanceMethod yX3_others ∈ lw_t2 := ch_4 (List.mem_of_getElem? (i := 195) (by decide +kernel)) rfl
theorem wd_1010 : Cond.selects RX3 yX3_others yX3_others ∈ lw_t2 := ch_4 (List.mem_of_getElem? (i := 196) (by decide +kernel)) rfl
set_option maxRecDepth 100000 in
theorem wd_1011 : Cond.code yX3_others cX3_others 3 (some FieldType.int) ∈ lw_t2 := ch_4 (List.mem_of_getElem? (i := 197) rfl) rfl
theorem wd_1012 : Cond.methodLink RL 125 yX11_rests ∈ lw_t2 := ch_4 (List.mem_of_getElem? (i := 198) (by decide +kernel)) rfl
theorem wd_1013 : Cond.instanceMethod yX11_rests ∈ lw_t2 := ch_4 (List.mem_of_getElem? (i := 199) (by decide +kernel)) rfl
theorem wd_1014 : Cond.selects RX11 yX11_rests yX11_rests ∈ lw_t2 := ch_4 (List.mem_of_getElem? (i := 200) (by decide +kernel)) rfl
set_option maxRecDepth 100000 in
theorem wd_1015 : Cond.code yX11_rests cX11_rests 5 (some FieldType.int) ∈ lw_t2 := ch_4 (List.mem_of_getElem? (i := 201) rfl) rfl
theorem wd_1016 : Cond.methodLink RX11 273 yX3_restAt ∈ lw_t2 := ch_4 (List.mem_of_getElem? (i := 202) (by decide +kernel)) rfl
theorem wd_1017 : Cond.instanceMethod yX3_restAt ∈ lw_t2 := ch_4 (List.mem_of_getElem? (i := 203) (by decide +kernel)) rfl
theorem wd_1018 : Cond.selects RX3 yX3_restAt yX3_restAt ∈ lw_t2 := ch_4 (List.mem_of_getElem? (i := 204) (by decide +kernel)) rfl
set_option maxRecDepth 100000 in
theorem wd_1019 : Cond.code yX3_restAt cX3_restAt 11 (some FieldType.int) ∈ lw_t2 := ch_4 (List.mem_of_getElem? (i := 205) rfl) rfl
theorem wd_1020 : Cond.fieldLink RX3 104 "OwedDays$Outlook" "PLAYED" "[I" ∈ lw_t2 := ch_4 (List.mem_of_getElem? (i := 206) (by decide +kernel)) rfl
theorem wd_1022 : Cond.methodLink RX3 107 yX3_isRest ∈ lw_t2 := ch_4 (List.mem_of_getElem? (i := 208) (by decide +kernel)) rfl
theorem wd_1024 : Cond.instanceMethod yX3_isRest ∈ lw_t2 := ch_4 (List.mem_of_getElem? (i := 210) (by decide +kernel)) rfl
set_option maxRecDepth 100000 in
theorem wd_1025 : Cond.code yX3_isRest cX3_isRest 7 (some FieldType.boolean) ∈ lw_t2 := ch_4 (List.mem_of_getElem? (i := 211) rfl) rfl
theorem wd_1026 : Cond.methodLink RX3 110 yX3_ones ∈ lw_t2 := ch_4 (List.mem_of_getElem? (i := 212) (by decide +kernel)) rfl
theorem wd_1027 : Cond.methodLink RX3 113 yX3_others ∈ lw_t2 := ch_4 (List.mem_of_getElem? (i := 213) (by decide +kernel)) rfl
theorem wd_1028 : Cond.methodLink RL 130 yX11_road ∈ lw_t2 := ch_4 (List.mem_of_getElem? (i := 214) (by decide +kernel)) rfl
theorem wd_1029 : Cond.instanceMethod yX11_road ∈ lw_t2 := ch_4 (List.mem_of_getElem? (i := 215) (by decide +kernel)) rfl
theorem wd_1030 : Cond.selects RX11 yX11_road yX11_road ∈ lw_t2 := ch_4 (List.mem_of_getElem? (i := 216) (by decide +kernel)) rfl
set_option maxRecDepth 100000 in
theorem wd_1031 : Cond.code yX11_road cX11_road 2 (some FieldType.int) ∈ lw_t2 := ch_4 (List.mem_of_getElem? (i := 217) rfl) rfl
theorem wd_1032 : Cond.methodLink RX11 276 yX7_roadOf ∈ lw_t2 := ch_4 (List.mem_of_getElem? (i := 218) (by decide +kernel)) rfl
theorem wd_1033 : Cond.instanceMethod yX7_roadOf ∈ lw_t2 := ch_4 (List.mem_of_getElem? (i := 219) (by decide +kernel)) rfl
theorem wd_1034 : Cond.selects RX7 yX7_roadOf yX7_roadOf ∈ lw_t2 := ch_4 (List.mem_of_getElem? (i := 220) (by decide +kernel)) rfl
set_option maxRecDepth 100000 in
theorem wd_1035 : Cond.code yX7_roadOf cX7_roadOf 3 (some FieldType.int) ∈ lw_t2 := ch_4 (List.mem_of_getElem? (i := 221) rfl) rfl
theorem wd_1036 : Cond.methodLink RX7 51 yX4_ofHouse ∈ lw_t2 := ch_4 (List.mem_of_getElem? (i := 222) (by decide +kernel)) rfl
theorem wd_1037 : Cond.methodLink RX7 54 yX7_reaches ∈ lw_t2 := ch_4 (List.mem_of_getElem? (i := 223) (by decide +kernel)) rfl
theorem wd_1038 : Cond.methodLink RX7 58 yX7_stretchesTo ∈ lw_t2 := ch_4 (List.mem_of_getElem? (i := 224) (by decide +kernel)) rfl
theorem wd_1039 : Cond.methodLink RL 134 yX11_shares ∈ lw_t2 := ch_4 (List.mem_of_getElem? (i := 225) (by decide +kernel)) rfl
theorem wd_1040 : Cond.instanceMethod yX11_shares ∈ lw_t2 := ch_4 (List.mem_of_getElem? (i := 226) (by decide +kernel)) rfl
theorem wd_1041 : Cond.selects RX11 yX11_shares yX11_shares ∈ lw_t2 := ch_4 (List.mem_of_getElem? (i := 227) (by decide +kernel)) rfl
set_option maxRecDepth 100000 in
theorem wd_1042 : Cond.code yX11_shares cX11_shares 4 (some FieldType.int) ∈ lw_t2 := ch_4 (List.mem_of_getElem? (i := 228) rfl) rfl
theorem wd_1043 : Cond.methodLink RX11 279 yX7_useOfAll ∈ lw_t2 := ch_4 (List.mem_of_getElem? (i := 229) (by decide +kernel)) rfl
theorem wd_1044 : Cond.instanceMethod yX7_useOfAll ∈ lw_t2 := ch_4 (List.mem_of_getElem? (i := 230) (by decide +kernel)) rfl
theorem wd_1045 : Cond.selects RX7 yX7_useOfAll yX7_useOfAll ∈ lw_t2 := ch_4 (List.mem_of_getElem? (i := 231) (by decide +kernel)) rfl
set_option maxRecDepth 100000 in
theorem wd_1046 : Cond.code yX7_useOfAll cX7_useOfAll 3 (some FieldType.int) ∈ lw_t2 := ch_4 (List.mem_of_getElem? (i := 232) rfl) rfl
theorem wd_1047 : Cond.methodLink RX7 64 yX4_houses ∈ lw_t2 := ch_4 (List.mem_of_getElem? (i := 233) (by decide +kernel)) rfl
theorem wd_1048 : Cond.methodLink RX7 67 yX7_useOf ∈ lw_t2 := ch_4 (List.mem_of_getElem? (i := 234) (by decide +kernel)) rfl
theorem wd_1049 : Cond.instanceMethod yX7_useOf ∈ lw_t2 := ch_4 (List.mem_of_getElem? (i := 235) (by decide +kernel)) rfl
theorem wd_1050 : Cond.selects RX7 yX7_useOf yX7_useOf ∈ lw_t2 := ch_4 (List.mem_of_getElem? (i := 236) (by decide +kernel)) rfl
set_option maxRecDepth 100000 in
theorem wd_1051 : Cond.code yX7_useOf cX7_useOf 5 (some FieldType.int) ∈ lw_t2 := ch_4 (List.mem_of_getElem? (i := 237) rfl) rfl
theorem wd_1052 : Cond.methodLink RX7 61 yX7_roadOf ∈ lw_t2 := ch_4 (List.mem_of_getElem? (i := 238) (by decide +kernel)) rfl
theorem wd_1053 : Cond.methodLink RX11 282 yX7_useOf ∈ lw_t2 := ch_4 (List.mem_of_getElem? (i := 239) (by decide +kernel)) rfl
theorem wd_1054 : Cond.methodLink RL 138 yX11_seen ∈ lw_t2 := ch_5 (List.mem_of_getElem? (i := 0) (by decide +kernel)) rfl
theorem wd_1055 : Cond.instanceMethod yX11_seen ∈ lw_t2 := ch_5 (List.mem_of_getElem? (i := 1) (by decide +kernel)) rfl
theorem wd_1056 : Cond.selects RX11 yX11_seen yX11_seen ∈ lw_t2 := ch_5 (List.mem_of_getElem? (i := 2) (by decide +kernel)) rfl
set_option maxRecDepth 100000 in
theorem wd_1057 : Cond.code yX11_seen cX11_seen 3 (some FieldType.int) ∈ lw_t2 := ch_5 (List.mem_of_getElem? (i := 3) rfl) rfl
theorem wd_1058 : Cond.methodLink RX11 285 yX8_add ∈ lw_t2 := ch_5 (List.mem_of_getElem? (i := 4) (by decide +kernel)) rfl
theorem wd_1059 : Cond.instanceMethod yX8_add ∈ lw_t2 := ch_5 (List.mem_of_getElem? (i := 5) (by decide +kernel)) rfl
theorem wd_1060 : Cond.selects RX8 yX8_add yX8_add ∈ lw_t2 := ch_5 (List.mem_of_getElem? (i := 6) (by decide +kernel)) rfl
set_option maxRecDepth 100000 in
theorem wd_1061 : Cond.code yX8_add cX8_add 3 (some FieldType.int) ∈ lw_t2 := ch_5 (List.mem_of_getElem? (i := 7) rfl) rfl
theorem wd_1062 : Cond.methodLink RX8 27 yX8_allSets ∈ lw_t2 := ch_5 (List.mem_of_getElem? (i := 8) (by decide +kernel)) rfl
theorem wd_1064 : Cond.instanceMethod yX8_allSets ∈ lw_t2 := ch_5 (List.mem_of_getElem? (i := 10) (by decide +kernel)) rfl
set_option maxRecDepth 100000 in
theorem wd_1065 : Cond.code yX8_allSets cX8_allSets 1 (some FieldType.int) ∈ lw_t2 := ch_5 (List.mem_of_getElem? (i := 11) rfl) rfl
theorem wd_1066 : Cond.methodLink RX8 45 yX4_houses ∈ lw_t2 := ch_5 (List.mem_of_getElem? (i := 12) (by decide +kernel)) rfl
theorem wd_1067 : Cond.methodLink RL 143 yX11_feigned ∈ lw_t2 := ch_5 (List.mem_of_getElem? (i := 13) (by decide +kernel)) rfl
theorem wd_1068 : Cond.instanceMethod yX11_feigned ∈ lw_t2 := ch_5 (List.mem_of_getElem? (i := 14) (by decide +kernel)) rfl
theorem wd_1069 : Cond.selects RX11 yX11_feigned yX11_feigned ∈ lw_t2 := ch_5 (List.mem_of_getElem? (i := 15) (by decide +kernel)) rfl
set_option maxRecDepth 100000 in
theorem wd_1070 : Cond.code yX11_feigned cX11_feigned 3 (some FieldType.int) ∈ lw_t2 := ch_5 (List.mem_of_getElem? (i := 16) rfl) rfl
theorem wd_1071 : Cond.methodLink RX11 288 yX8_canAsk ∈ lw_t2 := ch_5 (List.mem_of_getElem? (i := 17) (by decide +kernel)) rfl
theorem wd_1072 : Cond.instanceMethod yX8_canAsk ∈ lw_t2 := ch_5 (List.mem_of_getElem? (i := 18) (by decide +kernel)) rfl
theorem wd_1073 : Cond.selects RX8 yX8_canAsk yX8_canAsk ∈ lw_t2 := ch_5 (List.mem_of_getElem? (i := 19) (by decide +kernel)) rfl
set_option maxRecDepth 100000 in
theorem wd_1074 : Cond.code yX8_canAsk cX8_canAsk 2 (some FieldType.boolean) ∈ lw_t2 := ch_5 (List.mem_of_getElem? (i := 20) rfl) rfl
theorem wd_1075 : Cond.methodLink RX8 31 yX4_isNone ∈ lw_t2 := ch_5 (List.mem_of_getElem? (i := 21) (by decide +kernel)) rfl
theorem wd_1076 : Cond.methodLink RX11 291 yX8_fitting ∈ lw_t2 := ch_5 (List.mem_of_getElem? (i := 22) (by decide +kernel)) rfl
theorem wd_1077 : Cond.instanceMethod yX8_fitting ∈ lw_t2 := ch_5 (List.mem_of_getElem? (i := 23) (by decide +kernel)) rfl
theorem wd_1078 : Cond.selects RX8 yX8_fitting yX8_fitting ∈ lw_t2 := ch_5 (List.mem_of_getElem? (i := 24) (by decide +kernel)) rfl
set_option maxRecDepth 100000 in
theorem wd_1079 : Cond.code yX8_fitting cX8_fitting 4 (some FieldType.int) ∈ lw_t2 := ch_5 (List.mem_of_getElem? (i := 25) rfl) rfl
theorem wd_1080 : Cond.methodLink RX8 37 yX8_fits ∈ lw_t2 := ch_5 (List.mem_of_getElem? (i := 26) (by decide +kernel)) rfl
theorem wd_1082 : Cond.instanceMethod yX8_fits ∈ lw_t2 := ch_5 (List.mem_of_getElem? (i := 28) (by decide +kernel)) rfl
set_option maxRecDepth 100000 in
theorem wd_1083 : Cond.code yX8_fits cX8_fits 5 (some FieldType.boolean) ∈ lw_t2 := ch_5 (List.mem_of_getElem? (i := 29) rfl) rfl
theorem wd_1084 : Cond.methodLink RX8 57 yJ6_bitCount_0f7a4 ∈ lw_t2 := ch_5 (List.mem_of_getElem? (i := 30) (by decide +kernel)) rfl
theorem wd_1085 : Cond.static yJ6_bitCount_0f7a4 ∈ lw_t2 := ch_5 (List.mem_of_getElem? (i := 31) (by decide +kernel)) rfl
set_option maxRecDepth 100000 in
theorem wd_1086 : Cond.code yJ6_bitCount_0f7a4 cJ6_bitCount_0f7a4 1 (some FieldType.int) ∈ lw_t2 := ch_5 (List.mem_of_getElem? (i := 32) rfl) rfl
theorem wd_1087 : Cond.constant RJ6 265 (1431655765 : Int32) ∈ lw_t2 := ch_5 (List.mem_of_getElem? (i := 33) (by decide +kernel)) rfl
theorem wd_1088 : Cond.constant RJ6 266 (858993459 : Int32) ∈ lw_t2 := ch_5 (List.mem_of_getElem? (i := 34) (by decide +kernel)) rfl
theorem wd_1089 : Cond.constant RJ6 267 (252645135 : Int32) ∈ lw_t2 := ch_5 (List.mem_of_getElem? (i := 35) (by decide +kernel)) rfl
theorem wd_1090 : Cond.methodLink RX11 294 yX8_fittingAt ∈ lw_t2 := ch_5 (List.mem_of_getElem? (i := 36) (by decide +kernel)) rfl
theorem wd_1091 : Cond.instanceMethod yX8_fittingAt ∈ lw_t2 := ch_5 (List.mem_of_getElem? (i := 37) (by decide +kernel)) rfl
theorem wd_1092 : Cond.selects RX8 yX8_fittingAt yX8_fittingAt ∈ lw_t2 := ch_5 (List.mem_of_getElem? (i := 38) (by decide +kernel)) rfl
set_option maxRecDepth 100000 in
theorem wd_1093 : Cond.code yX8_fittingAt cX8_fittingAt 5 (some FieldType.int) ∈ lw_t2 := ch_5 (List.mem_of_getElem? (i := 39) rfl) rfl
theorem wd_1094 : Cond.methodLink RL 147 yX11_honest ∈ lw_t2 := ch_5 (List.mem_of_getElem? (i := 40) (by decide +kernel)) rfl
theorem wd_1095 : Cond.instanceMethod yX11_honest ∈ lw_t2 := ch_5 (List.mem_of_getElem? (i := 41) (by decide +kernel)) rfl
theorem wd_1096 : Cond.selects RX11 yX11_honest yX11_honest ∈ lw_t2 := ch_5 (List.mem_of_getElem? (i := 42) (by decide +kernel)) rfl
set_option maxRecDepth 100000 in
theorem wd_1097 : Cond.code yX11_honest cX11_honest 2 (some FieldType.int) ∈ lw_t2 := ch_5 (List.mem_of_getElem? (i := 43) rfl) rfl
theorem wd_1098 : Cond.methodLink RX11 297 yX8_inNone ∈ lw_t2 := ch_5 (List.mem_of_getElem? (i := 44) (by decide +kernel)) rfl
theorem wd_1099 : Cond.instanceMethod yX8_inNone ∈ lw_t2 := ch_5 (List.mem_of_getElem? (i := 45) (by decide +kernel)) rfl
theorem wd_1100 : Cond.selects RX8 yX8_inNone yX8_inNone ∈ lw_t2 := ch_5 (List.mem_of_getElem? (i := 46) (by decide +kernel)) rfl
set_option maxRecDepth 100000 in
theorem wd_1101 : Cond.code yX8_inNone cX8_inNone 4 (some FieldType.int) ∈ lw_t2 := ch_5 (List.mem_of_getElem? (i := 47) rfl) rfl
theorem wd_1102 : Cond.methodLink RL 151 yX11_best ∈ lw_t2 := ch_5 (List.mem_of_getElem? (i := 48) (by decide +kernel)) rfl
theorem wd_1103 : Cond.instanceMethod yX11_best ∈ lw_t2 := ch_5 (List.mem_of_getElem? (i := 49) (by decide +kernel)) rfl
theorem wd_1104 : Cond.selects RX11 yX11_best yX11_best ∈ lw_t2 := ch_5 (List.mem_of_getElem? (i := 50) (by decide +kernel)) rfl
set_option maxRecDepth 100000 in
theorem wd_1105 : Cond.code yX11_best cX11_best 2 (some FieldType.int) ∈ lw_t2 := ch_5 (List.mem_of_getElem? (i := 51) rfl) rfl
theorem wd_1106 : Cond.methodLink RX11 300 yX8_toWatch ∈ lw_t2 := ch_5 (List.mem_of_getElem? (i := 52) (by decide +kernel)) rfl
theorem wd_1107 : Cond.instanceMethod yX8_toWatch ∈ lw_t2 := ch_5 (List.mem_of_getElem? (i := 53) (by decide +kernel)) rfl
theorem wd_1108 : Cond.selects RX8 yX8_toWatch yX8_toWatch ∈ lw_t2 := ch_5 (List.mem_of_getElem? (i := 54) (by decide +kernel)) rfl
set_option maxRecDepth 100000 in
theorem wd_1109 : Cond.code yX8_toWatch cX8_toWatch 5 (some FieldType.int) ∈ lw_t2 := ch_5 (List.mem_of_getElem? (i := 55) rfl) rfl
theorem wd_1110 : Cond.methodLink RX8 41 yX8_fitting ∈ lw_t2 := ch_5 (List.mem_of_getElem? (i := 56) (by decide +kernel)) rfl
theorem wd_1111 : Cond.methodLink RX8 48 yX8_apart ∈ lw_t2 := ch_5 (List.mem_of_getElem? (i := 57) (by decide +kernel)) rfl
theorem wd_1113 : Cond.instanceMethod yX8_apart ∈ lw_t2 := ch_5 (List.mem_of_getElem? (i := 59) (by decide +kernel)) rfl
set_option maxRecDepth 100000 in
theorem wd_1114 : Cond.code yX8_apart cX8_apart 6 (some FieldType.int) ∈ lw_t2 := ch_5 (List.mem_of_getElem? (i := 60) rfl) rfl
theorem wd_1115 : Cond.methodLink RX8 52 yJ9_abs_0f7a4 ∈ lw_t2 := ch_5 (List.mem_of_getElem? (i := 61) (by decide +kernel)) rfl
theorem wd_1116 : Cond.static yJ9_abs_0f7a4 ∈ lw_t2 := ch_5 (List.mem_of_getElem? (i := 62) (by decide +kernel)) rfl
set_option maxRecDepth 100000 in
theorem wd_1117 : Cond.code yJ9_abs_0f7a4 cJ9_abs_0f7a4 1 (some FieldType.int) ∈ lw_t2 := ch_5 (List.mem_of_getElem? (i := 63) rfl) rfl
theorem wd_1118 : Cond.methodLink RL 155 yX11_whose ∈ lw_t2 := ch_5 (List.mem_of_getElem? (i := 64) (by decide +kernel)) rfl
theorem wd_1119 : Cond.instanceMethod yX11_whose ∈ lw_t2 := ch_5 (List.mem_of_getElem? (i := 65) (by decide +kernel)) rfl
theorem wd_1120 : Cond.selects RX11 yX11_whose yX11_whose ∈ lw_t2 := ch_5 (List.mem_of_getElem? (i := 66) (by decide +kernel)) rfl
set_option maxRecDepth 100000 in
theorem wd_1121 : Cond.code yX11_whose cX11_whose 3 (some FieldType.int) ∈ lw_t2 := ch_5 (List.mem_of_getElem? (i := 67) rfl) rfl
theorem wd_1122 : Cond.methodLink RX11 303 yX0_doersOf ∈ lw_t2 := ch_5 (List.mem_of_getElem? (i := 68) (by decide +kernel)) rfl
theorem wd_1123 : Cond.instanceMethod yX0_doersOf ∈ lw_t2 := ch_5 (List.mem_of_getElem? (i := 69) (by decide +kernel)) rfl
theorem wd_1124 : Cond.selects RX0 yX0_doersOf yX0_doersOf ∈ lw_t2 := ch_5 (List.mem_of_getElem? (i := 70) (by decide +kernel)) rfl
set_option maxRecDepth 100000 in
theorem wd_1125 : Cond.code yX0_doersOf cX0_doersOf 5 (some FieldType.int) ∈ lw_t2 := ch_5 (List.mem_of_getElem? (i := 71) rfl) rfl
theorem wd_1126 : Cond.methodLink RL 159 yX11_fails ∈ lw_t2 := ch_5 (List.mem_of_getElem? (i := 72) (by decide +kernel)) rfl
theorem wd_1127 : Cond.instanceMethod yX11_fails ∈ lw_t2 := ch_5 (List.mem_of_getElem? (i := 73) (by decide +kernel)) rfl
theorem wd_1128 : Cond.selects RX11 yX11_fails yX11_fails ∈ lw_t2 := ch_5 (List.mem_of_getElem? (i := 74) (by decide +kernel)) rfl
set_option maxRecDepth 100000 in
theorem wd_1129 : Cond.code yX11_fails cX11_fails 3 (some FieldType.int) ∈ lw_t2 := ch_5 (List.mem_of_getElem? (i := 75) rfl) rfl
theorem wd_1130 : Cond.methodLink RX11 306 yX3_firstToFail ∈ lw_t2 := ch_5 (List.mem_of_getElem? (i := 76) (by decide +kernel)) rfl
theorem wd_1131 : Cond.instanceMethod yX3_firstToFail ∈ lw_t2 := ch_5 (List.mem_of_getElem? (i := 77) (by decide +kernel)) rfl
theorem wd_1132 : Cond.selects RX3 yX3_firstToFail yX3_firstToFail ∈ lw_t2 := ch_5 (List.mem_of_getElem? (i := 78) (by decide +kernel)) rfl
set_option maxRecDepth 100000 in
theorem wd_1133 : Cond.code yX3_firstToFail cX3_firstToFail 5 (some FieldType.int) ∈ lw_t2 := ch_5 (List.mem_of_getElem? (i := 79) rfl) rfl
theorem wd_1134 : Cond.methodLink RX3 116 yX4_stretches ∈ lw_t2 := ch_5 (List.mem_of_getElem? (i := 80) (by decide +kernel)) rfl
theorem wd_1135 : Cond.methodLink RX3 119 yX3_seasonsTillFull ∈ lw_t2 := ch_5 (List.mem_of_getElem? (i := 81) (by decide +kernel)) rfl
theorem wd_1136 : Cond.instanceMethod yX3_seasonsTillFull ∈ lw_t2 := ch_5 (List.mem_of_getElem? (i := 82) (by decide +kernel)) rfl
theorem wd_1137 : Cond.selects RX3 yX3_seasonsTillFull yX3_seasonsTillFull ∈ lw_t2 := ch_5 (List.mem_of_getElem? (i := 83) (by decide +kernel)) rfl
set_option maxRecDepth 100000 in
theorem wd_1138 : Cond.code yX3_seasonsTillFull cX3_seasonsTillFull 5 (some FieldType.int) ∈ lw_t2 := ch_5 (List.mem_of_getElem? (i := 84) rfl) rfl
theorem wd_1139 : Cond.methodLink RX3 122 yX9_season ∈ lw_t2 := ch_5 (List.mem_of_getElem? (i := 85) (by decide +kernel)) rfl
theorem wd_1140 : Cond.methodLink RX3 125 yX0_wornOn ∈ lw_t2 := ch_5 (List.mem_of_getElem? (i := 86) (by decide +kernel)) rfl
theorem wd_1141 : Cond.methodLink RX11 309 yX3_seasonsTillFull ∈ lw_t2 := ch_5 (List.mem_of_getElem? (i := 87) (by decide +kernel)) rfl
theorem wd_1142 : Cond.methodLink RL 163 yX11_odds ∈ lw_t2 := ch_5 (List.mem_of_getElem? (i := 88) (by decide +kernel)) rfl
theorem wd_1143 : Cond.instanceMethod yX11_odds ∈ lw_t2 := ch_5 (List.mem_of_getElem? (i := 89) (by decide +kernel)) rfl
theorem wd_1144 : Cond.selects RX11 yX11_odds yX11_odds ∈ lw_t2 := ch_5 (List.mem_of_getElem? (i := 90) (by decide +kernel)) rfl
set_option maxRecDepth 100000 in
theorem wd_1145 : Cond.code yX11_odds cX11_odds 4 (some FieldType.int) ∈ lw_t2 := ch_5 (List.mem_of_getElem? (i := 91) rfl) rfl
theorem wd_1146 : Cond.methodLink RX11 312 yX3_badParts ∈ lw_t2 := ch_5 (List.mem_of_getElem? (i := 92) (by decide +kernel)) rfl
theorem wd_1147 : Cond.instanceMethod yX3_badParts ∈ lw_t2 := ch_5 (List.mem_of_getElem? (i := 93) (by decide +kernel)) rfl
theorem wd_1148 : Cond.selects RX3 yX3_badParts yX3_badParts ∈ lw_t2 := ch_5 (List.mem_of_getElem? (i := 94) (by decide +kernel)) rfl
set_option maxRecDepth 100000 in
theorem wd_1149 : Cond.code yX3_badParts cX3_badParts 6 (some FieldType.int) ∈ lw_t2 := ch_5 (List.mem_of_getElem? (i := 95) rfl) rfl
theorem wd_1150 : Cond.constant RX3 129 (1000000000 : Int32) ∈ lw_t2 := ch_5 (List.mem_of_getElem? (i := 96) (by decide +kernel)) rfl
theorem wd_1151 : Cond.methodLink RX3 130 yX3_spreadParts ∈ lw_t2 := ch_5 (List.mem_of_getElem? (i := 97) (by decide +kernel)) rfl
theorem wd_1153 : Cond.instanceMethod yX3_spreadParts ∈ lw_t2 := ch_5 (List.mem_of_getElem? (i := 99) (by decide +kernel)) rfl
set_option maxRecDepth 100000 in
theorem wd_1154 : Cond.code yX3_spreadParts cX3_spreadParts 6 none ∈ lw_t2 := ch_5 (List.mem_of_getElem? (i := 100) rfl) rfl
theorem wd_1155 : Cond.constantLong RX3 133 (100 : Int64) ∈ lw_t2 := ch_5 (List.mem_of_getElem? (i := 101) (by decide +kernel)) rfl
theorem wd_1156 : Cond.methodLink RL 167 yX11_toll ∈ lw_t2 := ch_5 (List.mem_of_getElem? (i := 102) (by decide +kernel)) rfl
theorem wd_1157 : Cond.instanceMethod yX11_toll ∈ lw_t2 := ch_5 (List.mem_of_getElem? (i := 103) (by decide +kernel)) rfl
theorem wd_1158 : Cond.selects RX11 yX11_toll yX11_toll ∈ lw_t2 := ch_5 (List.mem_of_getElem? (i := 104) (by decide +kernel)) rfl
set_option maxRecDepth 100000 in
theorem wd_1159 : Cond.code yX11_toll cX11_toll 3 (some FieldType.int) ∈ lw_t2 := ch_5 (List.mem_of_getElem? (i := 105) rfl) rfl
theorem wd_1160 : Cond.methodLink RX11 316 yX7_mostUsing ∈ lw_t2 := ch_5 (List.mem_of_getElem? (i := 106) (by decide +kernel)) rfl
theorem wd_1161 : Cond.instanceMethod yX7_mostUsing ∈ lw_t2 := ch_5 (List.mem_of_getElem? (i := 107) (by decide +kernel)) rfl
theorem wd_1162 : Cond.selects RX7 yX7_mostUsing yX7_mostUsing ∈ lw_t2 := ch_5 (List.mem_of_getElem? (i := 108) (by decide +kernel)) rfl
set_option maxRecDepth 100000 in
theorem wd_1163 : Cond.code yX7_mostUsing cX7_mostUsing 3 (some FieldType.int) ∈ lw_t2 := ch_5 (List.mem_of_getElem? (i := 109) rfl) rfl
theorem wd_1164 : Cond.methodLink RL 171 yX11_worst ∈ lw_t2 := ch_5 (List.mem_of_getElem? (i := 110) (by decide +kernel)) rfl
theorem wd_1165 : Cond.instanceMethod yX11_worst ∈ lw_t2 := ch_5 (List.mem_of_getElem? (i := 111) (by decide +kernel)) rfl
theorem wd_1166 : Cond.selects RX11 yX11_worst yX11_worst ∈ lw_t2 := ch_5 (List.mem_of_getElem? (i := 112) (by decide +kernel)) rfl
set_option maxRecDepth 100000 in
theorem wd_1167 : Cond.code yX11_worst cX11_worst 1 (some FieldType.int) ∈ lw_t2 := ch_5 (List.mem_of_getElem? (i := 113) rfl) rfl
theorem wd_1168 : Cond.methodLink RX11 319 yX7_mostWorn ∈ lw_t2 := ch_5 (List.mem_of_getElem? (i := 114) (by decide +kernel)) rfl
theorem wd_1169 : Cond.instanceMethod yX7_mostWorn ∈ lw_t2 := ch_5 (List.mem_of_getElem? (i := 115) (by decide +kernel)) rfl
theorem wd_1170 : Cond.selects RX7 yX7_mostWorn yX7_mostWorn ∈ lw_t2 := ch_5 (List.mem_of_getElem? (i := 116) (by decide +kernel)) rfl
set_option maxRecDepth 100000 in
theorem wd_1171 : Cond.code yX7_mostWorn cX7_mostWorn 3 (some FieldType.int) ∈ lw_t2 := ch_5 (List.mem_of_getElem? (i := 117) rfl) rfl
theorem wd_1172 : Cond.methodLink RL 175 yX11_ends ∈ lw_t2 := ch_5 (List.mem_of_getElem? (i := 118) (by decide +kernel)) rfl
theorem wd_1173 : Cond.instanceMethod yX11_ends ∈ lw_t2 := ch_5 (List.mem_of_getElem? (i := 119) (by decide +kernel)) rfl
theorem wd_1174 : Cond.selects RX11 yX11_ends yX11_ends ∈ lw_t2 := ch_5 (List.mem_of_getElem? (i := 120) (by decide +kernel)) rfl
set_option maxRecDepth 100000 in
theorem wd_1175 : Cond.code yX11_ends cX11_ends 1 (some FieldType.int) ∈ lw_t2 := ch_5 (List.mem_of_getElem? (i := 121) rfl) rfl
theorem wd_1176 : Cond.methodLink RX11 322 yX7_deadEnds ∈ lw_t2 := ch_5 (List.mem_of_getElem? (i := 122) (by decide +kernel)) rfl
theorem wd_1177 : Cond.instanceMethod yX7_deadEnds ∈ lw_t2 := ch_5 (List.mem_of_getElem? (i := 123) (by decide +kernel)) rfl
theorem wd_1178 : Cond.selects RX7 yX7_deadEnds yX7_deadEnds ∈ lw_t2 := ch_5 (List.mem_of_getElem? (i := 124) (by decide +kernel)) rfl
set_option maxRecDepth 100000 in
theorem wd_1179 : Cond.code yX7_deadEnds cX7_deadEnds 5 (some FieldType.int) ∈ lw_t2 := ch_5 (List.mem_of_getElem? (i := 125) rfl) rfl
theorem wd_1180 : Cond.methodLink RX7 70 yX4_touches ∈ lw_t2 := ch_5 (List.mem_of_getElem? (i := 126) (by decide +kernel)) rfl
theorem wd_1181 : Cond.methodLink RL 179 yX11_cut ∈ lw_t2 := ch_5 (List.mem_of_getElem? (i := 127) (by decide +kernel)) rfl
theorem wd_1182 : Cond.instanceMethod yX11_cut ∈ lw_t2 := ch_5 (List.mem_of_getElem? (i := 128) (by decide +kernel)) rfl
theorem wd_1183 : Cond.selects RX11 yX11_cut yX11_cut ∈ lw_t2 := ch_5 (List.mem_of_getElem? (i := 129) (by decide +kernel)) rfl
set_option maxRecDepth 100000 in
theorem wd_1184 : Cond.code yX11_cut cX11_cut 1 (some FieldType.int) ∈ lw_t2 := ch_5 (List.mem_of_getElem? (i := 130) rfl) rfl
theorem wd_1185 : Cond.methodLink RX11 325 yX7_bridges ∈ lw_t2 := ch_5 (List.mem_of_getElem? (i := 131) (by decide +kernel)) rfl
theorem wd_1186 : Cond.instanceMethod yX7_bridges ∈ lw_t2 := ch_5 (List.mem_of_getElem? (i := 132) (by decide +kernel)) rfl
theorem wd_1187 : Cond.selects RX7 yX7_bridges yX7_bridges ∈ lw_t2 := ch_5 (List.mem_of_getElem? (i := 133) (by decide +kernel)) rfl
set_option maxRecDepth 100000 in
theorem wd_1188 : Cond.code yX7_bridges cX7_bridges 4 (some FieldType.int) ∈ lw_t2 := ch_5 (List.mem_of_getElem? (i := 134) rfl) rfl
theorem wd_1189 : Cond.methodLink RX7 74 yX7_reachedWithout ∈ lw_t2 := ch_5 (List.mem_of_getElem? (i := 135) (by decide +kernel)) rfl
theorem wd_1191 : Cond.instanceMethod yX7_reachedWithout ∈ lw_t2 := ch_5 (List.mem_of_getElem? (i := 137) (by decide +kernel)) rfl
set_option maxRecDepth 100000 in
theorem wd_1192 : Cond.code yX7_reachedWithout cX7_reachedWithout 6 (some FieldType.int) ∈ lw_t2 := ch_5 (List.mem_of_getElem? (i := 138) rfl) rfl
theorem wd_1193 : Cond.methodLink RL 183 yX11_neighbours ∈ lw_t2 := ch_5 (List.mem_of_getElem? (i := 139) (by decide +kernel)) rfl
theorem wd_1194 : Cond.instanceMethod yX11_neighbours ∈ lw_t2 := ch_5 (List.mem_of_getElem? (i := 140) (by decide +kernel)) rfl
theorem wd_1195 : Cond.selects RX11 yX11_neighbours yX11_neighbours ∈ lw_t2 := ch_5 (List.mem_of_getElem? (i := 141) (by decide +kernel)) rfl
set_option maxRecDepth 100000 in
theorem wd_1196 : Cond.code yX11_neighbours cX11_neighbours 2 (some FieldType.int) ∈ lw_t2 := ch_5 (List.mem_of_getElem? (i := 142) rfl) rfl
theorem wd_1197 : Cond.methodLink RX11 328 yX7_touching ∈ lw_t2 := ch_5 (List.mem_of_getElem? (i := 143) (by decide +kernel)) rfl
theorem wd_1198 : Cond.instanceMethod yX7_touching ∈ lw_t2 := ch_5 (List.mem_of_getElem? (i := 144) (by decide +kernel)) rfl
theorem wd_1199 : Cond.selects RX7 yX7_touching yX7_touching ∈ lw_t2 := ch_5 (List.mem_of_getElem? (i := 145) (by decide +kernel)) rfl
set_option maxRecDepth 100000 in
theorem wd_1200 : Cond.code yX7_touching cX7_touching 6 (some FieldType.int) ∈ lw_t2 := ch_5 (List.mem_of_getElem? (i := 146) rfl) rfl
theorem wd_1201 : Cond.methodLink RL 187 yX11_image ∈ lw_t2 := ch_5 (List.mem_of_getElem? (i := 147) (by decide +kernel)) rfl
theorem wd_1202 : Cond.instanceMethod yX11_image ∈ lw_t2 := ch_5 (List.mem_of_getElem? (i := 148) (by decide +kernel)) rfl
theorem wd_1203 : Cond.selects RX11 yX11_image yX11_image ∈ lw_t2 := ch_5 (List.mem_of_getElem? (i := 149) (by decide +kernel)) rfl
set_option maxRecDepth 100000 in
theorem wd_1204 : Cond.code yX11_image cX11_image 1 (some FieldType.int) ∈ lw_t2 := ch_5 (List.mem_of_getElem? (i := 150) rfl) rfl
theorem wd_1205 : Cond.methodLink RX11 331 yX9_takeAll ∈ lw_t2 := ch_5 (List.mem_of_getElem? (i := 151) (by decide +kernel)) rfl
theorem wd_1206 : Cond.instanceMethod yX9_takeAll ∈ lw_t2 := ch_5 (List.mem_of_getElem? (i := 152) (by decide +kernel)) rfl
theorem wd_1207 : Cond.selects RX9 yX9_takeAll yX9_takeAll ∈ lw_t2 := ch_5 (List.mem_of_getElem? (i := 153) (by decide +kernel)) rfl
set_option maxRecDepth 100000 in
theorem wd_1208 : Cond.code yX9_takeAll cX9_takeAll 2 none ∈ lw_t2 := ch_5 (List.mem_of_getElem? (i := 154) rfl) rfl
theorem wd_1209 : Cond.methodLink RL 191 yX11_back ∈ lw_t2 := ch_5 (List.mem_of_getElem? (i := 155) (by decide +kernel)) rfl
theorem wd_1210 : Cond.instanceMethod yX11_back ∈ lw_t2 := ch_5 (List.mem_of_getElem? (i := 156) (by decide +kernel)) rfl
theorem wd_1211 : Cond.selects RX11 yX11_back yX11_back ∈ lw_t2 := ch_5 (List.mem_of_getElem? (i := 157) (by decide +kernel)) rfl
set_option maxRecDepth 100000 in
theorem wd_1212 : Cond.code yX11_back cX11_back 1 (some FieldType.int) ∈ lw_t2 := ch_5 (List.mem_of_getElem? (i := 158) rfl) rfl
theorem wd_1213 : Cond.methodLink RL 195 yX11_count ∈ lw_t2 := ch_5 (List.mem_of_getElem? (i := 159) (by decide +kernel)) rfl
theorem wd_1214 : Cond.instanceMethod yX11_count ∈ lw_t2 := ch_5 (List.mem_of_getElem? (i := 160) (by decide +kernel)) rfl
theorem wd_1215 : Cond.selects RX11 yX11_count yX11_count ∈ lw_t2 := ch_5 (List.mem_of_getElem? (i := 161) (by decide +kernel)) rfl
set_option maxRecDepth 100000 in
theorem wd_1216 : Cond.code yX11_count cX11_count 2 (some FieldType.int) ∈ lw_t2 := ch_5 (List.mem_of_getElem? (i := 162) rfl) rfl
theorem wd_1217 : Cond.methodLink RX11 337 yX4_houses ∈ lw_t2 := ch_5 (List.mem_of_getElem? (i := 163) (by decide +kernel)) rfl
theorem wd_1218 : Cond.methodLink RX11 340 yX0_holding ∈ lw_t2 := ch_5 (List.mem_of_getElem? (i := 164) (by decide +kernel)) rfl
theorem wd_1219 : Cond.instanceMethod yX0_holding ∈ lw_t2 := ch_5 (List.mem_of_getElem? (i := 165) (by decide +kernel)) rfl
theorem wd_1220 : Cond.selects RX0 yX0_holding yX0_holding ∈ lw_t2 := ch_5 (List.mem_of_getElem? (i := 166) (by decide +kernel)) rfl
set_option maxRecDepth 100000 in
theorem wd_1221 : Cond.code yX0_holding cX0_holding 1 (some FieldType.int) ∈ lw_t2 := ch_5 (List.mem_of_getElem? (i := 167) rfl) rfl
theorem wd_1222 : Cond.methodLink RX11 343 yX9_allWear ∈ lw_t2 := ch_5 (List.mem_of_getElem? (i := 168) (by decide +kernel)) rfl
theorem wd_1223 : Cond.methodLink RX11 346 yX9_allOwed ∈ lw_t2 := ch_5 (List.mem_of_getElem? (i := 169) (by decide +kernel)) rfl
theorem wd_1224 : Cond.instanceMethod yX9_allOwed ∈ lw_t2 := ch_5 (List.mem_of_getElem? (i := 170) (by decide +kernel)) rfl
theorem wd_1225 : Cond.selects RX9 yX9_allOwed yX9_allOwed ∈ lw_t2 := ch_5 (List.mem_of_getElem? (i := 171) (by decide +kernel)) rfl
set_option maxRecDepth 100000 in
theorem wd_1226 : Cond.code yX9_allOwed cX9_allOwed 1 (some FieldType.int) ∈ lw_t2 := ch_5 (List.mem_of_getElem? (i := 172) rfl) rfl
theorem wd_1227 : Cond.methodLink RX11 349 yX9_allDebt ∈ lw_t2 := ch_5 (List.mem_of_getElem? (i := 173) (by decide +kernel)) rfl
theorem wd_1228 : Cond.instanceMethod yX9_allDebt ∈ lw_t2 := ch_5 (List.mem_of_getElem? (i := 174) (by decide +kernel)) rfl
theorem wd_1229 : Cond.selects RX9 yX9_allDebt yX9_allDebt ∈ lw_t2 := ch_5 (List.mem_of_getElem? (i := 175) (by decide +kernel)) rfl
set_option maxRecDepth 100000 in
theorem wd_1230 : Cond.code yX9_allDebt cX9_allDebt 1 (some FieldType.int) ∈ lw_t2 := ch_5 (List.mem_of_getElem? (i := 176) rfl) rfl
theorem wd_1231 : Cond.methodLink RX11 352 yX9_worked ∈ lw_t2 := ch_5 (List.mem_of_getElem? (i := 177) (by decide +kernel)) rfl
theorem wd_1232 : Cond.instanceMethod yX9_worked ∈ lw_t2 := ch_5 (List.mem_of_getElem? (i := 178) (by decide +kernel)) rfl
theorem wd_1233 : Cond.selects RX9 yX9_worked yX9_worked ∈ lw_t2 := ch_5 (List.mem_of_getElem? (i := 179) (by decide +kernel)) rfl
set_option maxRecDepth 100000 in
theorem wd_1234 : Cond.code yX9_worked cX9_worked 1 (some FieldType.int) ∈ lw_t2 := ch_5 (List.mem_of_getElem? (i := 180) rfl) rfl
theorem wd_1235 : Cond.methodLink RX11 355 yX8_size ∈ lw_t2 := ch_5 (List.mem_of_getElem? (i := 181) (by decide +kernel)) rfl
theorem wd_1236 : Cond.instanceMethod yX8_size ∈ lw_t2 := ch_5 (List.mem_of_getElem? (i := 182) (by decide +kernel)) rfl
theorem wd_1237 : Cond.selects RX8 yX8_size yX8_size ∈ lw_t2 := ch_5 (List.mem_of_getElem? (i := 183) (by decide +kernel)) rfl
set_option maxRecDepth 100000 in
theorem wd_1238 : Cond.code yX8_size cX8_size 1 (some FieldType.int) ∈ lw_t2 := ch_5 (List.mem_of_getElem? (i := 184) rfl) rfl
theorem wd_1239 : Cond.methodLink RX11 356 yX9_logLength ∈ lw_t2 := ch_5 (List.mem_of_getElem? (i := 185) (by decide +kernel)) rfl
theorem wd_1240 : Cond.methodLink RL 46 yL_house ∈ lw_t2 := ch_5 (List.mem_of_getElem? (i := 186) (by decide +kernel)) rfl
theorem wd_1241 : Cond.static yL_house ∈ lw_t2 := ch_5 (List.mem_of_getElem? (i := 187) (by decide +kernel)) rfl
theorem wd_1243 : Cond.classLink RL 13 "java/util/NoSuchElementException" ∈ lw_t2 := ch_5 (List.mem_of_getElem? (i := 189) (by decide +kernel)) rfl
theorem wd_1244 : Cond.methodLink RL 7 yX11_house ∈ lw_t2 := ch_5 (List.mem_of_getElem? (i := 190) (by decide +kernel)) rfl
theorem wd_1245 : Cond.instanceMethod yX11_house ∈ lw_t2 := ch_5 (List.mem_of_getElem? (i := 191) (by decide +kernel)) rfl
theorem wd_1246 : Cond.selects RX11 yX11_house yX11_house ∈ lw_t2 := ch_5 (List.mem_of_getElem? (i := 192) (by decide +kernel)) rfl
set_option maxRecDepth 100000 in
theorem wd_1247 : Cond.code yX11_house cX11_house 3 (some FieldType.int) ∈ lw_t2 := ch_5 (List.mem_of_getElem? (i := 193) rfl) rfl
theorem wd_1248 : Cond.classLink RX11 158 "java/util/NoSuchElementException" ∈ lw_t2 := ch_5 (List.mem_of_getElem? (i := 194) (by decide +kernel)) rfl
theorem wd_1249 : Cond.instantiable "java/util/NoSuchElementException" 6 ∈ lw_t2 := ch_5 (List.mem_of_getElem? (i := 195) (by decide +kernel)) rfl
theorem wd_1257 : Cond.selects "java/util/NoSuchElementException" ⟨"java/lang/Throwable", "fillInStackTrace", "(I)Ljava/lang/Throwable;"⟩ ⟨"java/lang/Throwable", "fillInStackTrace", "(I)Ljava/lang/Throwable;"⟩ ∈ lw_t2 := ch_5 (List.mem_of_getElem? (i := 203) (by decide +kernel)) rfl
theorem wd_1258 : Cond.selects "java/util/NoSuchElementException" ⟨"java/lang/Throwable", "fillInStackTrace", "()Ljava/lang/Throwable;"⟩ ⟨"java/lang/Throwable", "fillInStackTrace", "()Ljava/lang/Throwable;"⟩ ∈ lw_t2 := ch_5 (List.mem_of_getElem? (i := 204) (by decide +kernel)) rfl
theorem wd_1259 : Cond.lays "java/util/NoSuchElementException" "java/lang/Throwable" "cause" "Ljava/lang/Throwable;" ∈ lw_t2 := ch_5 (List.mem_of_getElem? (i := 205) (by decide +kernel)) rfl
theorem wd_1260 : Cond.lays "java/lang/Throwable" "java/lang/Throwable" "cause" "Ljava/lang/Throwable;" ∈ lw_t2 := ch_5 (List.mem_of_getElem? (i := 206) (by decide +kernel)) rfl
theorem wd_1261 : Cond.lays "java/util/NoSuchElementException" "java/lang/Throwable" "stackTrace" "[Ljava/lang/StackTraceElement;" ∈ lw_t2 := ch_5 (List.mem_of_getElem? (i := 207) (by decide +kernel)) rfl
theorem wd_1262 : Cond.lays "java/lang/Throwable" "java/lang/Throwable" "stackTrace" "[Ljava/lang/StackTraceElement;" ∈ lw_t2 := ch_5 (List.mem_of_getElem? (i := 208) (by decide +kernel)) rfl
theorem wd_1263 : Cond.lays "java/util/NoSuchElementException" "java/lang/Throwable" "suppressedExceptions" "Ljava/util/List;" ∈ lw_t2 := ch_5 (List.mem_of_getElem? (i := 209) (by decide +kernel)) rfl
theorem wd_1264 : Cond.lays "java/lang/Throwable" "java/lang/Throwable" "suppressedExceptions" "Ljava/util/List;" ∈ lw_t2 := ch_5 (List.mem_of_getElem? (i := 210) (by decide +kernel)) rfl
theorem wd_1265 : Cond.lays "java/util/NoSuchElementException" "java/lang/Throwable" "detailMessage" "Ljava/lang/String;" ∈ lw_t2 := ch_5 (List.mem_of_getElem? (i := 211) (by decide +kernel)) rfl
theorem wd_1266 : Cond.lays "java/lang/Throwable" "java/lang/Throwable" "detailMessage" "Ljava/lang/String;" ∈ lw_t2 := ch_5 (List.mem_of_getElem? (i := 212) (by decide +kernel)) rfl
theorem wd_1267 : Cond.lays "java/util/NoSuchElementException" "java/lang/Throwable" "backtrace" "Ljava/lang/Object;" ∈ lw_t2 := ch_5 (List.mem_of_getElem? (i := 213) (by decide +kernel)) rfl
theorem wd_1268 : Cond.lays "java/lang/Throwable" "java/lang/Throwable" "backtrace" "Ljava/lang/Object;" ∈ lw_t2 := ch_5 (List.mem_of_getElem? (i := 214) (by decide +kernel)) rfl
theorem wd_1269 : Cond.fieldLink "java/lang/Throwable" 198 "java/lang/Throwable" "backtrace" "Ljava/lang/Object;" ∈ lw_t2 := ch_5 (List.mem_of_getElem? (i := 215) (by decide +kernel)) rfl
theorem wd_1271 : Cond.instanceMethod ⟨"java/lang/Throwable", "<init>", "()V"⟩ ∈ lw_t2 := ch_5 (List.mem_of_getElem? (i := 217) (by decide +kernel)) rfl
set_option maxRecDepth 100000 in
theorem wd_1272 : Cond.code ⟨"java/lang/Throwable", "<init>", "()V"⟩ prog_22_method_1_code 1 none ∈ lw_t2 := ch_5 (List.mem_of_getElem? (i := 218) rfl) rfl
theorem wd_1273 : Cond.methodLink "java/lang/Throwable" 1 ⟨"java/lang/Object", "<init>", "()V"⟩ ∈ lw_t2 := ch_5 (List.mem_of_getElem? (i := 219) (by decide +kernel)) rfl
theorem wd_1274 : Cond.fieldLink "java/lang/Throwable" 13 "java/lang/Throwable" "UNASSIGNED_STACK" "[Ljava/lang/StackTraceElement;" ∈ lw_t2 := ch_5 (List.mem_of_getElem? (i := 220) (by decide +kernel)) rfl
theorem wd_1276 : Cond.fieldLink "java/lang/Throwable" 20 "java/lang/Throwable" "SUPPRESSED_SENTINEL" "Ljava/util/List;" ∈ lw_t2 := ch_5 (List.mem_of_getElem? (i := 222) (by decide +kernel)) rfl
theorem wd_1278 : Cond.methodLink "java/lang/Throwable" 27 ⟨"java/lang/Throwable", "fillInStackTrace", "()Ljava/lang/Throwable;"⟩ ∈ lw_t2 := ch_5 (List.mem_of_getElem? (i := 224) (by decide +kernel)) rfl
theorem wd_1279 : Cond.instanceMethod ⟨"java/lang/Throwable", "fillInStackTrace", "()Ljava/lang/Throwable;"⟩ ∈ lw_t2 := ch_5 (List.mem_of_getElem? (i := 225) (by decide +kernel)) rfl
theorem wd_1282 : Cond.methodLink "java/lang/Throwable" 202 ⟨"java/lang/Throwable", "fillInStackTrace", "(I)Ljava/lang/Throwable;"⟩ ∈ lw_t2 := ch_5 (List.mem_of_getElem? (i := 228) (by decide +kernel)) rfl
theorem wd_1284 : Cond.instanceMethod ⟨"java/lang/Throwable", "fillInStackTrace", "(I)Ljava/lang/Throwable;"⟩ ∈ lw_t2 := ch_5 (List.mem_of_getElem? (i := 230) (by decide +kernel)) rfl
theorem wd_1285 : Cond.instantiable "java/lang/Throwable" 6 ∈ lw_t2 := ch_5 (List.mem_of_getElem? (i := 231) (by decide +kernel)) rfl
theorem wd_1286 : Cond.native ⟨"java/lang/Throwable", "fillInStackTrace", "(I)Ljava/lang/Throwable;"⟩ ∈ lw_t2 := ch_5 (List.mem_of_getElem? (i := 232) (by decide +kernel)) rfl
theorem wd_1288 : Cond.methodLink RX11 162 ⟨"java/util/NoSuchElementException", "<init>", "(Ljava/lang/String;)V"⟩ ∈ lw_t2 := ch_5 (List.mem_of_getElem? (i := 234) (by decide +kernel)) rfl
theorem wd_1289 : Cond.instanceMethod ⟨"java/util/NoSuchElementException", "<init>", "(Ljava/lang/String;)V"⟩ ∈ lw_t2 := ch_5 (List.mem_of_getElem? (i := 235) (by decide +kernel)) rfl
set_option maxRecDepth 100000 in
theorem wd_1290 : Cond.code ⟨"java/util/NoSuchElementException", "<init>", "(Ljava/lang/String;)V"⟩ prog_24_method_4_code 2 none ∈ lw_t2 := ch_5 (List.mem_of_getElem? (i := 236) rfl) rfl
theorem wd_1291 : Cond.methodLink "java/util/NoSuchElementException" 13 ⟨"java/lang/RuntimeException", "<init>", "(Ljava/lang/String;)V"⟩ ∈ lw_t2 := ch_5 (List.mem_of_getElem? (i := 237) (by decide +kernel)) rfl
theorem wd_1292 : Cond.instanceMethod ⟨"java/lang/RuntimeException", "<init>", "(Ljava/lang/String;)V"⟩ ∈ lw_t2 := ch_5 (List.mem_of_getElem? (i := 238) (by decide +kernel)) rfl
set_option maxRecDepth 100000 in
theorem wd_1293 : Cond.code ⟨"java/lang/RuntimeException", "<init>", "(Ljava/lang/String;)V"⟩ prog_19_method_2_code 2 none ∈ lw_t2 := ch_5 (List.mem_of_getElem? (i := 239) rfl) rfl
theorem wd_1294 : Cond.methodLink "java/lang/RuntimeException" 7 ⟨"java/lang/Exception", "<init>", "(Ljava/lang/String;)V"⟩ ∈ lw_t2 := ch_6 (List.mem_of_getElem? (i := 0) (by decide +kernel)) rfl
theorem wd_1295 : Cond.instanceMethod ⟨"java/lang/Exception", "<init>", "(Ljava/lang/String;)V"⟩ ∈ lw_t2 := ch_6 (List.mem_of_getElem? (i := 1) (by decide +kernel)) rfl
set_option maxRecDepth 100000 in
theorem wd_1296 : Cond.code ⟨"java/lang/Exception", "<init>", "(Ljava/lang/String;)V"⟩ prog_16_method_2_code 2 none ∈ lw_t2 := ch_6 (List.mem_of_getElem? (i := 2) rfl) rfl
theorem wd_1297 : Cond.methodLink "java/lang/Exception" 7 ⟨"java/lang/Throwable", "<init>", "(Ljava/lang/String;)V"⟩ ∈ lw_t2 := ch_6 (List.mem_of_getElem? (i := 3) (by decide +kernel)) rfl
theorem wd_1298 : Cond.instanceMethod ⟨"java/lang/Throwable", "<init>", "(Ljava/lang/String;)V"⟩ ∈ lw_t2 := ch_6 (List.mem_of_getElem? (i := 4) (by decide +kernel)) rfl
set_option maxRecDepth 100000 in
theorem wd_1299 : Cond.code ⟨"java/lang/Throwable", "<init>", "(Ljava/lang/String;)V"⟩ prog_22_method_2_code 2 none ∈ lw_t2 := ch_6 (List.mem_of_getElem? (i := 5) rfl) rfl
theorem wd_1301 : Cond.fieldLink "java/lang/Throwable" 31 "java/lang/Throwable" "detailMessage" "Ljava/lang/String;" ∈ lw_t2 := ch_6 (List.mem_of_getElem? (i := 7) (by decide +kernel)) rfl
theorem wd_1302 : Cond.fieldLink "java/lang/Throwable" 7 "java/lang/Throwable" "cause" "Ljava/lang/Throwable;" ∈ lw_t2 := ch_6 (List.mem_of_getElem? (i := 8) (by decide +kernel)) rfl
theorem wd_1303 : Cond.fieldLink "java/lang/Throwable" 17 "java/lang/Throwable" "stackTrace" "[Ljava/lang/StackTraceElement;" ∈ lw_t2 := ch_6 (List.mem_of_getElem? (i := 9) (by decide +kernel)) rfl
theorem wd_1304 : Cond.fieldLink "java/lang/Throwable" 24 "java/lang/Throwable" "suppressedExceptions" "Ljava/util/List;" ∈ lw_t2 := ch_6 (List.mem_of_getElem? (i := 10) (by decide +kernel)) rfl
theorem wd_1309 : Cond.lays "java/util/NoSuchElementException" "java/lang/Throwable" "depth" "I" ∈ lw_t2 := ch_6 (List.mem_of_getElem? (i := 15) (by decide +kernel)) rfl
theorem wd_1313 : Cond.methodLink RX11 165 yX4_ofHouse ∈ lw_t2 := ch_6 (List.mem_of_getElem? (i := 19) (by decide +kernel)) rfl
theorem wd_1314 : Cond.methodLink RX11 171 yX9_debt ∈ lw_t2 := ch_6 (List.mem_of_getElem? (i := 20) (by decide +kernel)) rfl
theorem wd_1316 : Cond.classLink RL 16 "OwedDaysModel" ∈ lw_t2 := ch_6 (List.mem_of_getElem? (i := 22) (by decide +kernel)) rfl
theorem wd_1317 : Cond.instantiable RX12 46 ∈ lw_t2 := ch_6 (List.mem_of_getElem? (i := 23) (by decide +kernel)) rfl
theorem wd_1318 : Cond.methodLink RL 18 yX12_init ∈ lw_t2 := ch_6 (List.mem_of_getElem? (i := 24) (by decide +kernel)) rfl
theorem wd_1319 : Cond.instanceMethod yX12_init ∈ lw_t2 := ch_6 (List.mem_of_getElem? (i := 25) (by decide +kernel)) rfl
set_option maxRecDepth 100000 in
theorem wd_1320 : Cond.code yX12_init cX12_init 1 none ∈ lw_t2 := ch_6 (List.mem_of_getElem? (i := 26) rfl) rfl
theorem wd_1321 : Cond.methodLink RX12 3 ⟨"java/lang/Object", "<init>", "()V"⟩ ∈ lw_t2 := ch_6 (List.mem_of_getElem? (i := 27) (by decide +kernel)) rfl
theorem wd_1322 : Cond.fieldLink RX12 97 "OwedDaysModel" "thrown" "I" ∈ lw_t2 := ch_6 (List.mem_of_getElem? (i := 28) (by decide +kernel)) rfl
theorem wd_1323 : Cond.fieldLink RX12 9 "OwedDaysModel" "tape" "[I" ∈ lw_t2 := ch_6 (List.mem_of_getElem? (i := 29) (by decide +kernel)) rfl
theorem wd_1324 : Cond.fieldLink RX12 104 "OwedDaysModel" "size" "I" ∈ lw_t2 := ch_6 (List.mem_of_getElem? (i := 30) (by decide +kernel)) rfl
theorem wd_1325 : Cond.fieldLink RX12 107 "OwedDaysModel" "at" "I" ∈ lw_t2 := ch_6 (List.mem_of_getElem? (i := 31) (by decide +kernel)) rfl
theorem wd_1326 : Cond.fieldLink RX12 114 "OwedDaysModel" "wrong" "I" ∈ lw_t2 := ch_6 (List.mem_of_getElem? (i := 32) (by decide +kernel)) rfl
theorem wd_1327 : Cond.fieldLink RX12 120 "OwedDaysModel" "deep" "I" ∈ lw_t2 := ch_6 (List.mem_of_getElem? (i := 33) (by decide +kernel)) rfl
theorem wd_1328 : Cond.fieldLink RX12 13 "OwedDaysModel" "code" "[I" ∈ lw_t2 := ch_6 (List.mem_of_getElem? (i := 34) (by decide +kernel)) rfl
theorem wd_1329 : Cond.fieldLink RX12 16 "OwedDaysModel" "value" "[I" ∈ lw_t2 := ch_6 (List.mem_of_getElem? (i := 35) (by decide +kernel)) rfl
theorem wd_1330 : Cond.fieldLink RX12 19 "OwedDaysModel" "codes" "[I" ∈ lw_t2 := ch_6 (List.mem_of_getElem? (i := 36) (by decide +kernel)) rfl
theorem wd_1331 : Cond.fieldLink RX12 22 "OwedDaysModel" "clauses" "[I" ∈ lw_t2 := ch_6 (List.mem_of_getElem? (i := 37) (by decide +kernel)) rfl
theorem wd_1332 : Cond.fieldLink RX12 25 "OwedDaysModel" "testFrom" "[I" ∈ lw_t2 := ch_6 (List.mem_of_getElem? (i := 38) (by decide +kernel)) rfl
theorem wd_1333 : Cond.fieldLink RX12 28 "OwedDaysModel" "sumFrom" "[I" ∈ lw_t2 := ch_6 (List.mem_of_getElem? (i := 39) (by decide +kernel)) rfl
theorem wd_1334 : Cond.fieldLink RX12 31 "OwedDaysModel" "sumTo" "[I" ∈ lw_t2 := ch_6 (List.mem_of_getElem? (i := 40) (by decide +kernel)) rfl
theorem wd_1335 : Cond.fieldLink RX12 284 "OwedDaysModel" "laws" "I" ∈ lw_t2 := ch_6 (List.mem_of_getElem? (i := 41) (by decide +kernel)) rfl
theorem wd_1336 : Cond.fieldLink RX12 117 "OwedDaysModel" "text" "I" ∈ lw_t2 := ch_6 (List.mem_of_getElem? (i := 42) (by decide +kernel)) rfl
theorem wd_1337 : Cond.fieldLink RX12 34 "OwedDaysModel" "letters" "[I" ∈ lw_t2 := ch_6 (List.mem_of_getElem? (i := 43) (by decide +kernel)) rfl
theorem wd_1338 : Cond.fieldLink RX12 37 "OwedDaysModel" "stack" "[I" ∈ lw_t2 := ch_6 (List.mem_of_getElem? (i := 44) (by decide +kernel)) rfl
theorem wd_1339 : Cond.fieldLink RX12 40 "OwedDaysModel" "readRule" "[I" ∈ lw_t2 := ch_6 (List.mem_of_getElem? (i := 45) (by decide +kernel)) rfl
theorem wd_1340 : Cond.fieldLink RX12 43 "OwedDaysModel" "readStretch" "[I" ∈ lw_t2 := ch_6 (List.mem_of_getElem? (i := 46) (by decide +kernel)) rfl
theorem wd_1341 : Cond.fieldLink RX12 46 "OwedDaysModel" "readHouse" "[I" ∈ lw_t2 := ch_6 (List.mem_of_getElem? (i := 47) (by decide +kernel)) rfl
theorem wd_1342 : Cond.fieldLink RX12 236 "OwedDaysModel" "readStretches" "I" ∈ lw_t2 := ch_6 (List.mem_of_getElem? (i := 48) (by decide +kernel)) rfl
theorem wd_1343 : Cond.fieldLink RX12 239 "OwedDaysModel" "readHouses" "I" ∈ lw_t2 := ch_6 (List.mem_of_getElem? (i := 49) (by decide +kernel)) rfl
theorem wd_1344 : Cond.fieldLink RX12 49 "OwedDaysModel" "rule" "[I" ∈ lw_t2 := ch_6 (List.mem_of_getElem? (i := 50) (by decide +kernel)) rfl
theorem wd_1345 : Cond.fieldLink RX12 52 "OwedDaysModel" "stretch" "[I" ∈ lw_t2 := ch_6 (List.mem_of_getElem? (i := 51) (by decide +kernel)) rfl
theorem wd_1346 : Cond.fieldLink RX12 55 "OwedDaysModel" "house" "[I" ∈ lw_t2 := ch_6 (List.mem_of_getElem? (i := 52) (by decide +kernel)) rfl
theorem wd_1347 : Cond.fieldLink RX12 256 "OwedDaysModel" "stretches" "I" ∈ lw_t2 := ch_6 (List.mem_of_getElem? (i := 53) (by decide +kernel)) rfl
theorem wd_1348 : Cond.fieldLink RX12 259 "OwedDaysModel" "houses" "I" ∈ lw_t2 := ch_6 (List.mem_of_getElem? (i := 54) (by decide +kernel)) rfl
theorem wd_1349 : Cond.fieldLink RX12 58 "OwedDaysModel" "now" "[I" ∈ lw_t2 := ch_6 (List.mem_of_getElem? (i := 55) (by decide +kernel)) rfl
theorem wd_1350 : Cond.fieldLink RX12 61 "OwedDaysModel" "refused" "[I" ∈ lw_t2 := ch_6 (List.mem_of_getElem? (i := 56) (by decide +kernel)) rfl
theorem wd_1351 : Cond.fieldLink RX12 64 "OwedDaysModel" "holding" "I" ∈ lw_t2 := ch_6 (List.mem_of_getElem? (i := 57) (by decide +kernel)) rfl
theorem wd_1352 : Cond.fieldLink RX12 68 "OwedDaysModel" "steps" "[I" ∈ lw_t2 := ch_6 (List.mem_of_getElem? (i := 58) (by decide +kernel)) rfl
theorem wd_1353 : Cond.fieldLink RX12 71 "OwedDaysModel" "kept" "[I" ∈ lw_t2 := ch_6 (List.mem_of_getElem? (i := 59) (by decide +kernel)) rfl
theorem wd_1354 : Cond.fieldLink RX12 271 "OwedDaysModel" "acts" "I" ∈ lw_t2 := ch_6 (List.mem_of_getElem? (i := 60) (by decide +kernel)) rfl
theorem wd_1355 : Cond.fieldLink RX12 342 "OwedDaysModel" "draws" "J" ∈ lw_t2 := ch_6 (List.mem_of_getElem? (i := 61) (by decide +kernel)) rfl
theorem wd_1356 : Cond.fieldLink RX12 74 "OwedDaysModel" "left" "[I" ∈ lw_t2 := ch_6 (List.mem_of_getElem? (i := 62) (by decide +kernel)) rfl
theorem wd_1357 : Cond.fieldLink RX12 356 "OwedDaysModel" "rowFound" "I" ∈ lw_t2 := ch_6 (List.mem_of_getElem? (i := 63) (by decide +kernel)) rfl
theorem wd_1358 : Cond.fieldLink RX12 363 "OwedDaysModel" "wayBits" "I" ∈ lw_t2 := ch_6 (List.mem_of_getElem? (i := 64) (by decide +kernel)) rfl
theorem wd_1359 : Cond.fieldLink RX12 366 "OwedDaysModel" "wayWear" "I" ∈ lw_t2 := ch_6 (List.mem_of_getElem? (i := 65) (by decide +kernel)) rfl
theorem wd_1360 : Cond.fieldLink RX12 77 "OwedDaysModel" "seenWho" "[I" ∈ lw_t2 := ch_6 (List.mem_of_getElem? (i := 66) (by decide +kernel)) rfl
theorem wd_1361 : Cond.fieldLink RX12 80 "OwedDaysModel" "seenBetter" "[Z" ∈ lw_t2 := ch_6 (List.mem_of_getElem? (i := 67) (by decide +kernel)) rfl
theorem wd_1362 : Cond.fieldLink RX12 268 "OwedDaysModel" "seens" "I" ∈ lw_t2 := ch_6 (List.mem_of_getElem? (i := 68) (by decide +kernel)) rfl
theorem wd_1363 : Cond.fieldLink RX12 84 "OwedDaysModel" "aside" "[I" ∈ lw_t2 := ch_6 (List.mem_of_getElem? (i := 69) (by decide +kernel)) rfl
theorem wd_1364 : Cond.fieldLink RX12 87 "OwedDaysModel" "partAt" "[J" ∈ lw_t2 := ch_6 (List.mem_of_getElem? (i := 70) (by decide +kernel)) rfl
theorem wd_1365 : Cond.fieldLink RX12 91 "OwedDaysModel" "partThen" "[J" ∈ lw_t2 := ch_6 (List.mem_of_getElem? (i := 71) (by decide +kernel)) rfl
theorem wd_1366 : Cond.fieldLink RX12 94 "OwedDaysModel" "image" "[I" ∈ lw_t2 := ch_6 (List.mem_of_getElem? (i := 72) (by decide +kernel)) rfl
theorem wd_1367 : Cond.fieldLink RX12 274 "OwedDaysModel" "hasImage" "Z" ∈ lw_t2 := ch_6 (List.mem_of_getElem? (i := 73) (by decide +kernel)) rfl
theorem wd_1368 : Cond.lays RX12 "OwedDaysModel" "thrown" "I" ∈ lw_t2 := ch_6 (List.mem_of_getElem? (i := 74) (by decide +kernel)) rfl
theorem wd_1370 : Cond.laysFinal RX12 "OwedDaysModel" "tape" "[I" ∈ lw_t2 := ch_6 (List.mem_of_getElem? (i := 76) (by decide +kernel)) rfl
theorem wd_1372 : Cond.lays RX12 "OwedDaysModel" "size" "I" ∈ lw_t2 := ch_6 (List.mem_of_getElem? (i := 78) (by decide +kernel)) rfl
theorem wd_1374 : Cond.lays RX12 "OwedDaysModel" "at" "I" ∈ lw_t2 := ch_6 (List.mem_of_getElem? (i := 80) (by decide +kernel)) rfl
theorem wd_1376 : Cond.lays RX12 "OwedDaysModel" "wrong" "I" ∈ lw_t2 := ch_6 (List.mem_of_getElem? (i := 82) (by decide +kernel)) rfl
theorem wd_1378 : Cond.lays RX12 "OwedDaysModel" "deep" "I" ∈ lw_t2 := ch_6 (List.mem_of_getElem? (i := 84) (by decide +kernel)) rfl
theorem wd_1380 : Cond.laysFinal RX12 "OwedDaysModel" "code" "[I" ∈ lw_t2 := ch_6 (List.mem_of_getElem? (i := 86) (by decide +kernel)) rfl
theorem wd_1382 : Cond.laysFinal RX12 "OwedDaysModel" "value" "[I" ∈ lw_t2 := ch_6 (List.mem_of_getElem? (i := 88) (by decide +kernel)) rfl
theorem wd_1384 : Cond.laysFinal RX12 "OwedDaysModel" "codes" "[I" ∈ lw_t2 := ch_6 (List.mem_of_getElem? (i := 90) (by decide +kernel)) rfl
theorem wd_1386 : Cond.laysFinal RX12 "OwedDaysModel" "clauses" "[I" ∈ lw_t2 := ch_6 (List.mem_of_getElem? (i := 92) (by decide +kernel)) rfl
theorem wd_1388 : Cond.laysFinal RX12 "OwedDaysModel" "testFrom" "[I" ∈ lw_t2 := ch_6 (List.mem_of_getElem? (i := 94) (by decide +kernel)) rfl
theorem wd_1390 : Cond.laysFinal RX12 "OwedDaysModel" "sumFrom" "[I" ∈ lw_t2 := ch_6 (List.mem_of_getElem? (i := 96) (by decide +kernel)) rfl
theorem wd_1392 : Cond.laysFinal RX12 "OwedDaysModel" "sumTo" "[I" ∈ lw_t2 := ch_6 (List.mem_of_getElem? (i := 98) (by decide +kernel)) rfl
theorem wd_1394 : Cond.lays RX12 "OwedDaysModel" "laws" "I" ∈ lw_t2 := ch_6 (List.mem_of_getElem? (i := 100) (by decide +kernel)) rfl
theorem wd_1396 : Cond.lays RX12 "OwedDaysModel" "text" "I" ∈ lw_t2 := ch_6 (List.mem_of_getElem? (i := 102) (by decide +kernel)) rfl
theorem wd_1398 : Cond.laysFinal RX12 "OwedDaysModel" "letters" "[I" ∈ lw_t2 := ch_6 (List.mem_of_getElem? (i := 104) (by decide +kernel)) rfl
theorem wd_1400 : Cond.laysFinal RX12 "OwedDaysModel" "stack" "[I" ∈ lw_t2 := ch_6 (List.mem_of_getElem? (i := 106) (by decide +kernel)) rfl
theorem wd_1402 : Cond.laysFinal RX12 "OwedDaysModel" "readRule" "[I" ∈ lw_t2 := ch_6 (List.mem_of_getElem? (i := 108) (by decide +kernel)) rfl
theorem wd_1404 : Cond.laysFinal RX12 "OwedDaysModel" "readStretch" "[I" ∈ lw_t2 := ch_6 (List.mem_of_getElem? (i := 110) (by decide +kernel)) rfl
theorem wd_1406 : Cond.laysFinal RX12 "OwedDaysModel" "readHouse" "[I" ∈ lw_t2 := ch_6 (List.mem_of_getElem? (i := 112) (by decide +kernel)) rfl
theorem wd_1408 : Cond.lays RX12 "OwedDaysModel" "readStretches" "I" ∈ lw_t2 := ch_6 (List.mem_of_getElem? (i := 114) (by decide +kernel)) rfl
theorem wd_1410 : Cond.lays RX12 "OwedDaysModel" "readHouses" "I" ∈ lw_t2 := ch_6 (List.mem_of_getElem? (i := 116) (by decide +kernel)) rfl
theorem wd_1412 : Cond.laysFinal RX12 "OwedDaysModel" "rule" "[I" ∈ lw_t2 := ch_6 (List.mem_of_getElem? (i := 118) (by decide +kernel)) rfl
theorem wd_1414 : Cond.laysFinal RX12 "OwedDaysModel" "stretch" "[I" ∈ lw_t2 := ch_6 (List.mem_of_getElem? (i := 120) (by decide +kernel)) rfl
theorem wd_1416 : Cond.laysFinal RX12 "OwedDaysModel" "house" "[I" ∈ lw_t2 := ch_6 (List.mem_of_getElem? (i := 122) (by decide +kernel)) rfl
theorem wd_1418 : Cond.lays RX12 "OwedDaysModel" "stretches" "I" ∈ lw_t2 := ch_6 (List.mem_of_getElem? (i := 124) (by decide +kernel)) rfl
theorem wd_1420 : Cond.lays RX12 "OwedDaysModel" "houses" "I" ∈ lw_t2 := ch_6 (List.mem_of_getElem? (i := 126) (by decide +kernel)) rfl
theorem wd_1422 : Cond.laysFinal RX12 "OwedDaysModel" "now" "[I" ∈ lw_t2 := ch_6 (List.mem_of_getElem? (i := 128) (by decide +kernel)) rfl
theorem wd_1424 : Cond.laysFinal RX12 "OwedDaysModel" "refused" "[I" ∈ lw_t2 := ch_6 (List.mem_of_getElem? (i := 130) (by decide +kernel)) rfl
theorem wd_1426 : Cond.lays RX12 "OwedDaysModel" "holding" "I" ∈ lw_t2 := ch_6 (List.mem_of_getElem? (i := 132) (by decide +kernel)) rfl
theorem wd_1428 : Cond.laysFinal RX12 "OwedDaysModel" "steps" "[I" ∈ lw_t2 := ch_6 (List.mem_of_getElem? (i := 134) (by decide +kernel)) rfl
theorem wd_1430 : Cond.laysFinal RX12 "OwedDaysModel" "kept" "[I" ∈ lw_t2 := ch_6 (List.mem_of_getElem? (i := 136) (by decide +kernel)) rfl
theorem wd_1432 : Cond.lays RX12 "OwedDaysModel" "acts" "I" ∈ lw_t2 := ch_6 (List.mem_of_getElem? (i := 138) (by decide +kernel)) rfl
theorem wd_1434 : Cond.lays RX12 "OwedDaysModel" "draws" "J" ∈ lw_t2 := ch_6 (List.mem_of_getElem? (i := 140) (by decide +kernel)) rfl
theorem wd_1436 : Cond.laysFinal RX12 "OwedDaysModel" "left" "[I" ∈ lw_t2 := ch_6 (List.mem_of_getElem? (i := 142) (by decide +kernel)) rfl
theorem wd_1438 : Cond.lays RX12 "OwedDaysModel" "rowFound" "I" ∈ lw_t2 := ch_6 (List.mem_of_getElem? (i := 144) (by decide +kernel)) rfl
theorem wd_1440 : Cond.lays RX12 "OwedDaysModel" "wayBits" "I" ∈ lw_t2 := ch_6 (List.mem_of_getElem? (i := 146) (by decide +kernel)) rfl
theorem wd_1442 : Cond.lays RX12 "OwedDaysModel" "wayWear" "I" ∈ lw_t2 := ch_6 (List.mem_of_getElem? (i := 148) (by decide +kernel)) rfl
theorem wd_1444 : Cond.laysFinal RX12 "OwedDaysModel" "seenWho" "[I" ∈ lw_t2 := ch_6 (List.mem_of_getElem? (i := 150) (by decide +kernel)) rfl
theorem wd_1446 : Cond.laysFinal RX12 "OwedDaysModel" "seenBetter" "[Z" ∈ lw_t2 := ch_6 (List.mem_of_getElem? (i := 152) (by decide +kernel)) rfl
theorem wd_1448 : Cond.lays RX12 "OwedDaysModel" "seens" "I" ∈ lw_t2 := ch_6 (List.mem_of_getElem? (i := 154) (by decide +kernel)) rfl
theorem wd_1450 : Cond.laysFinal RX12 "OwedDaysModel" "aside" "[I" ∈ lw_t2 := ch_6 (List.mem_of_getElem? (i := 156) (by decide +kernel)) rfl
theorem wd_1452 : Cond.laysFinal RX12 "OwedDaysModel" "partAt" "[J" ∈ lw_t2 := ch_6 (List.mem_of_getElem? (i := 158) (by decide +kernel)) rfl
theorem wd_1454 : Cond.laysFinal RX12 "OwedDaysModel" "partThen" "[J" ∈ lw_t2 := ch_6 (List.mem_of_getElem? (i := 160) (by decide +kernel)) rfl
theorem wd_1456 : Cond.laysFinal RX12 "OwedDaysModel" "image" "[I" ∈ lw_t2 := ch_6 (List.mem_of_getElem? (i := 162) (by decide +kernel)) rfl
theorem wd_1458 : Cond.lays RX12 "OwedDaysModel" "hasImage" "Z" ∈ lw_t2 := ch_6 (List.mem_of_getElem? (i := 164) (by decide +kernel)) rfl
theorem wd_1461 : Cond.arrayClass FieldType.long ∈ lw_t2 := ch_6 (List.mem_of_getElem? (i := 167) (by decide +kernel)) rfl
theorem wd_1462 : Cond.methodLink RL 52 yX12_thrown ∈ lw_t2 := ch_6 (List.mem_of_getElem? (i := 168) (by decide +kernel)) rfl
theorem wd_1463 : Cond.instanceMethod yX12_thrown ∈ lw_t2 := ch_6 (List.mem_of_getElem? (i := 169) (by decide +kernel)) rfl
theorem wd_1464 : Cond.selects RX12 yX12_thrown yX12_thrown ∈ lw_t2 := ch_6 (List.mem_of_getElem? (i := 170) (by decide +kernel)) rfl
set_option maxRecDepth 100000 in
theorem wd_1465 : Cond.code yX12_thrown cX12_thrown 1 (some FieldType.int) ∈ lw_t2 := ch_6 (List.mem_of_getElem? (i := 171) rfl) rfl
theorem wd_1466 : Cond.methodLink RL 23 yX12_feed ∈ lw_t2 := ch_6 (List.mem_of_getElem? (i := 172) (by decide +kernel)) rfl
theorem wd_1467 : Cond.instanceMethod yX12_feed ∈ lw_t2 := ch_6 (List.mem_of_getElem? (i := 173) (by decide +kernel)) rfl
theorem wd_1468 : Cond.selects RX12 yX12_feed yX12_feed ∈ lw_t2 := ch_6 (List.mem_of_getElem? (i := 174) (by decide +kernel)) rfl
set_option maxRecDepth 100000 in
theorem wd_1469 : Cond.code yX12_feed cX12_feed 9 (some FieldType.int) ∈ lw_t2 := ch_6 (List.mem_of_getElem? (i := 175) rfl) rfl
theorem wd_1470 : Cond.methodLink RX12 100 yX12_byteOf ∈ lw_t2 := ch_6 (List.mem_of_getElem? (i := 176) (by decide +kernel)) rfl
theorem wd_1471 : Cond.static yX12_byteOf ∈ lw_t2 := ch_6 (List.mem_of_getElem? (i := 177) (by decide +kernel)) rfl
set_option maxRecDepth 100000 in
theorem wd_1472 : Cond.code yX12_byteOf cX12_byteOf 7 (some FieldType.int) ∈ lw_t2 := ch_6 (List.mem_of_getElem? (i := 178) rfl) rfl
theorem wd_1473 : Cond.methodLink RL 28 yX12_end ∈ lw_t2 := ch_6 (List.mem_of_getElem? (i := 179) (by decide +kernel)) rfl
theorem wd_1474 : Cond.instanceMethod yX12_end ∈ lw_t2 := ch_6 (List.mem_of_getElem? (i := 180) (by decide +kernel)) rfl
theorem wd_1475 : Cond.selects RX12 yX12_end yX12_end ∈ lw_t2 := ch_6 (List.mem_of_getElem? (i := 181) (by decide +kernel)) rfl
set_option maxRecDepth 100000 in
theorem wd_1476 : Cond.code yX12_end cX12_end 2 (some FieldType.boolean) ∈ lw_t2 := ch_6 (List.mem_of_getElem? (i := 182) rfl) rfl
theorem wd_1477 : Cond.methodLink RL 33 yX12_fault ∈ lw_t2 := ch_6 (List.mem_of_getElem? (i := 183) (by decide +kernel)) rfl
theorem wd_1478 : Cond.instanceMethod yX12_fault ∈ lw_t2 := ch_6 (List.mem_of_getElem? (i := 184) (by decide +kernel)) rfl
theorem wd_1479 : Cond.selects RX12 yX12_fault yX12_fault ∈ lw_t2 := ch_6 (List.mem_of_getElem? (i := 185) (by decide +kernel)) rfl
set_option maxRecDepth 100000 in
theorem wd_1480 : Cond.code yX12_fault cX12_fault 2 (some FieldType.int) ∈ lw_t2 := ch_6 (List.mem_of_getElem? (i := 186) rfl) rfl
theorem wd_1481 : Cond.methodLink RX12 250 yX12_readParish ∈ lw_t2 := ch_6 (List.mem_of_getElem? (i := 187) (by decide +kernel)) rfl
theorem wd_1483 : Cond.instanceMethod yX12_readParish ∈ lw_t2 := ch_6 (List.mem_of_getElem? (i := 189) (by decide +kernel)) rfl
set_option maxRecDepth 100000 in
theorem wd_1484 : Cond.code yX12_readParish cX12_readParish 4 (some FieldType.int) ∈ lw_t2 := ch_6 (List.mem_of_getElem? (i := 190) rfl) rfl
theorem wd_1485 : Cond.methodLink RX12 216 yX12_usual ∈ lw_t2 := ch_6 (List.mem_of_getElem? (i := 191) (by decide +kernel)) rfl
theorem wd_1486 : Cond.static yX12_usual ∈ lw_t2 := ch_6 (List.mem_of_getElem? (i := 192) (by decide +kernel)) rfl
set_option maxRecDepth 100000 in
theorem wd_1487 : Cond.code yX12_usual cX12_usual 2 (some FieldType.int) ∈ lw_t2 := ch_6 (List.mem_of_getElem? (i := 193) rfl) rfl
theorem wd_1488 : Cond.methodLink RX12 126 yX12_look ∈ lw_t2 := ch_6 (List.mem_of_getElem? (i := 194) (by decide +kernel)) rfl
theorem wd_1490 : Cond.instanceMethod yX12_look ∈ lw_t2 := ch_6 (List.mem_of_getElem? (i := 196) (by decide +kernel)) rfl
set_option maxRecDepth 100000 in
theorem wd_1491 : Cond.code yX12_look cX12_look 1 (some FieldType.int) ∈ lw_t2 := ch_6 (List.mem_of_getElem? (i := 197) rfl) rfl
theorem wd_1492 : Cond.methodLink RX12 110 yX12_here ∈ lw_t2 := ch_6 (List.mem_of_getElem? (i := 198) (by decide +kernel)) rfl
theorem wd_1494 : Cond.instanceMethod yX12_here ∈ lw_t2 := ch_6 (List.mem_of_getElem? (i := 200) (by decide +kernel)) rfl
set_option maxRecDepth 100000 in
theorem wd_1495 : Cond.code yX12_here cX12_here 1 (some FieldType.int) ∈ lw_t2 := ch_6 (List.mem_of_getElem? (i := 201) rfl) rfl
theorem wd_1496 : Cond.methodLink RX12 242 yX12_items ∈ lw_t2 := ch_6 (List.mem_of_getElem? (i := 202) (by decide +kernel)) rfl
theorem wd_1498 : Cond.instanceMethod yX12_items ∈ lw_t2 := ch_6 (List.mem_of_getElem? (i := 204) (by decide +kernel)) rfl
set_option maxRecDepth 100000 in
theorem wd_1499 : Cond.code yX12_items cX12_items 7 none ∈ lw_t2 := ch_6 (List.mem_of_getElem? (i := 205) rfl) rfl
theorem wd_1500 : Cond.methodLink RX12 220 yX12_itemOf ∈ lw_t2 := ch_6 (List.mem_of_getElem? (i := 206) (by decide +kernel)) rfl
theorem wd_1501 : Cond.static yX12_itemOf ∈ lw_t2 := ch_6 (List.mem_of_getElem? (i := 207) (by decide +kernel)) rfl
set_option maxRecDepth 100000 in
theorem wd_1502 : Cond.code yX12_itemOf cX12_itemOf 2 (some FieldType.int) ∈ lw_t2 := ch_6 (List.mem_of_getElem? (i := 208) rfl) rfl
theorem wd_1503 : Cond.methodLink RX12 223 yX12_has ∈ lw_t2 := ch_6 (List.mem_of_getElem? (i := 209) (by decide +kernel)) rfl
theorem wd_1504 : Cond.static yX12_has ∈ lw_t2 := ch_6 (List.mem_of_getElem? (i := 210) (by decide +kernel)) rfl
set_option maxRecDepth 100000 in
theorem wd_1505 : Cond.code yX12_has cX12_has 2 (some FieldType.boolean) ∈ lw_t2 := ch_6 (List.mem_of_getElem? (i := 211) rfl) rfl
theorem wd_1506 : Cond.methodLink RX12 227 yX12_lowest ∈ lw_t2 := ch_6 (List.mem_of_getElem? (i := 212) (by decide +kernel)) rfl
theorem wd_1507 : Cond.static yX12_lowest ∈ lw_t2 := ch_6 (List.mem_of_getElem? (i := 213) (by decide +kernel)) rfl
set_option maxRecDepth 100000 in
theorem wd_1508 : Cond.code yX12_lowest cX12_lowest 2 (some FieldType.int) ∈ lw_t2 := ch_6 (List.mem_of_getElem? (i := 214) rfl) rfl
theorem wd_1509 : Cond.methodLink RX12 230 yX12_highest ∈ lw_t2 := ch_6 (List.mem_of_getElem? (i := 215) (by decide +kernel)) rfl
theorem wd_1510 : Cond.static yX12_highest ∈ lw_t2 := ch_6 (List.mem_of_getElem? (i := 216) (by decide +kernel)) rfl
set_option maxRecDepth 100000 in
theorem wd_1511 : Cond.code yX12_highest cX12_highest 2 (some FieldType.int) ∈ lw_t2 := ch_6 (List.mem_of_getElem? (i := 217) rfl) rfl
theorem wd_1512 : Cond.methodLink RX12 233 yX12_number ∈ lw_t2 := ch_6 (List.mem_of_getElem? (i := 218) (by decide +kernel)) rfl
theorem wd_1514 : Cond.instanceMethod yX12_number ∈ lw_t2 := ch_6 (List.mem_of_getElem? (i := 220) (by decide +kernel)) rfl
set_option maxRecDepth 100000 in
theorem wd_1515 : Cond.code yX12_number cX12_number 4 (some FieldType.int) ∈ lw_t2 := ch_6 (List.mem_of_getElem? (i := 221) rfl) rfl
theorem wd_1516 : Cond.methodLink RX12 129 yX12_isDigit ∈ lw_t2 := ch_6 (List.mem_of_getElem? (i := 222) (by decide +kernel)) rfl
theorem wd_1517 : Cond.static yX12_isDigit ∈ lw_t2 := ch_6 (List.mem_of_getElem? (i := 223) (by decide +kernel)) rfl
set_option maxRecDepth 100000 in
theorem wd_1518 : Cond.code yX12_isDigit cX12_isDigit 1 (some FieldType.boolean) ∈ lw_t2 := ch_6 (List.mem_of_getElem? (i := 224) rfl) rfl
theorem wd_1519 : Cond.methodLink RX12 123 yX12_bad ∈ lw_t2 := ch_6 (List.mem_of_getElem? (i := 225) (by decide +kernel)) rfl
theorem wd_1521 : Cond.instanceMethod yX12_bad ∈ lw_t2 := ch_6 (List.mem_of_getElem? (i := 227) (by decide +kernel)) rfl
set_option maxRecDepth 100000 in
theorem wd_1522 : Cond.code yX12_bad cX12_bad 1 none ∈ lw_t2 := ch_6 (List.mem_of_getElem? (i := 228) rfl) rfl
theorem wd_1523 : Cond.methodLink RX12 212 yX12_in ∈ lw_t2 := ch_6 (List.mem_of_getElem? (i := 229) (by decide +kernel)) rfl
theorem wd_1524 : Cond.static yX12_in ∈ lw_t2 := ch_6 (List.mem_of_getElem? (i := 230) (by decide +kernel)) rfl
set_option maxRecDepth 100000 in
theorem wd_1525 : Cond.code yX12_in cX12_in 3 (some FieldType.boolean) ∈ lw_t2 := ch_6 (List.mem_of_getElem? (i := 231) rfl) rfl
theorem wd_1526 : Cond.methodLink RX12 246 yX12_isWhole ∈ lw_t2 := ch_6 (List.mem_of_getElem? (i := 232) (by decide +kernel)) rfl
theorem wd_1528 : Cond.instanceMethod yX12_isWhole ∈ lw_t2 := ch_6 (List.mem_of_getElem? (i := 234) (by decide +kernel)) rfl
set_option maxRecDepth 100000 in
theorem wd_1529 : Cond.code yX12_isWhole cX12_isWhole 3 (some FieldType.boolean) ∈ lw_t2 := ch_6 (List.mem_of_getElem? (i := 235) rfl) rfl
theorem wd_1530 : Cond.methodLink RX12 253 yX12_readLaw ∈ lw_t2 := ch_6 (List.mem_of_getElem? (i := 236) (by decide +kernel)) rfl
theorem wd_1532 : Cond.instanceMethod yX12_readLaw ∈ lw_t2 := ch_6 (List.mem_of_getElem? (i := 238) (by decide +kernel)) rfl
set_option maxRecDepth 100000 in
theorem wd_1533 : Cond.code yX12_readLaw cX12_readLaw 2 (some FieldType.int) ∈ lw_t2 := ch_6 (List.mem_of_getElem? (i := 239) rfl) rfl
theorem wd_1534 : Cond.methodLink RX12 178 yX12_open ∈ lw_t2 := ch_7 (List.mem_of_getElem? (i := 0) (by decide +kernel)) rfl
theorem wd_1536 : Cond.instanceMethod yX12_open ∈ lw_t2 := ch_7 (List.mem_of_getElem? (i := 2) (by decide +kernel)) rfl
set_option maxRecDepth 100000 in
theorem wd_1537 : Cond.code yX12_open cX12_open 2 none ∈ lw_t2 := ch_7 (List.mem_of_getElem? (i := 3) rfl) rfl
theorem wd_1538 : Cond.methodLink RX12 181 yX12_clause ∈ lw_t2 := ch_7 (List.mem_of_getElem? (i := 4) (by decide +kernel)) rfl
theorem wd_1540 : Cond.instanceMethod yX12_clause ∈ lw_t2 := ch_7 (List.mem_of_getElem? (i := 6) (by decide +kernel)) rfl
set_option maxRecDepth 100000 in
theorem wd_1541 : Cond.code yX12_clause cX12_clause 3 none ∈ lw_t2 := ch_7 (List.mem_of_getElem? (i := 7) rfl) rfl
theorem wd_1542 : Cond.methodLink RX12 166 yX12_condition ∈ lw_t2 := ch_7 (List.mem_of_getElem? (i := 8) (by decide +kernel)) rfl
theorem wd_1544 : Cond.instanceMethod yX12_condition ∈ lw_t2 := ch_7 (List.mem_of_getElem? (i := 10) (by decide +kernel)) rfl
set_option maxRecDepth 100000 in
theorem wd_1545 : Cond.code yX12_condition cX12_condition 1 none ∈ lw_t2 := ch_7 (List.mem_of_getElem? (i := 11) rfl) rfl
theorem wd_1546 : Cond.methodLink RX12 163 yX12_unit ∈ lw_t2 := ch_7 (List.mem_of_getElem? (i := 12) (by decide +kernel)) rfl
theorem wd_1548 : Cond.instanceMethod yX12_unit ∈ lw_t2 := ch_7 (List.mem_of_getElem? (i := 14) (by decide +kernel)) rfl
set_option maxRecDepth 100000 in
theorem wd_1549 : Cond.code yX12_unit cX12_unit 2 none ∈ lw_t2 := ch_7 (List.mem_of_getElem? (i := 15) rfl) rfl
theorem wd_1550 : Cond.methodLink RX12 144 yX12_opens ∈ lw_t2 := ch_7 (List.mem_of_getElem? (i := 16) (by decide +kernel)) rfl
theorem wd_1552 : Cond.instanceMethod yX12_opens ∈ lw_t2 := ch_7 (List.mem_of_getElem? (i := 18) (by decide +kernel)) rfl
set_option maxRecDepth 100000 in
theorem wd_1553 : Cond.code yX12_opens cX12_opens 1 none ∈ lw_t2 := ch_7 (List.mem_of_getElem? (i := 19) rfl) rfl
theorem wd_1554 : Cond.methodLink RX12 136 yX12_put ∈ lw_t2 := ch_7 (List.mem_of_getElem? (i := 20) (by decide +kernel)) rfl
theorem wd_1556 : Cond.instanceMethod yX12_put ∈ lw_t2 := ch_7 (List.mem_of_getElem? (i := 22) (by decide +kernel)) rfl
set_option maxRecDepth 100000 in
theorem wd_1557 : Cond.code yX12_put cX12_put 3 none ∈ lw_t2 := ch_7 (List.mem_of_getElem? (i := 23) rfl) rfl
theorem wd_1558 : Cond.methodLink RX12 150 yX12_closes ∈ lw_t2 := ch_7 (List.mem_of_getElem? (i := 24) (by decide +kernel)) rfl
theorem wd_1560 : Cond.instanceMethod yX12_closes ∈ lw_t2 := ch_7 (List.mem_of_getElem? (i := 26) (by decide +kernel)) rfl
set_option maxRecDepth 100000 in
theorem wd_1561 : Cond.code yX12_closes cX12_closes 2 none ∈ lw_t2 := ch_7 (List.mem_of_getElem? (i := 27) rfl) rfl
theorem wd_1562 : Cond.methodLink RX12 147 yX12_sum ∈ lw_t2 := ch_7 (List.mem_of_getElem? (i := 28) (by decide +kernel)) rfl
theorem wd_1564 : Cond.instanceMethod yX12_sum ∈ lw_t2 := ch_7 (List.mem_of_getElem? (i := 30) (by decide +kernel)) rfl
set_option maxRecDepth 100000 in
theorem wd_1565 : Cond.code yX12_sum cX12_sum 2 none ∈ lw_t2 := ch_7 (List.mem_of_getElem? (i := 31) rfl) rfl
theorem wd_1566 : Cond.methodLink RX12 157 yX12_term ∈ lw_t2 := ch_7 (List.mem_of_getElem? (i := 32) (by decide +kernel)) rfl
theorem wd_1568 : Cond.instanceMethod yX12_term ∈ lw_t2 := ch_7 (List.mem_of_getElem? (i := 34) (by decide +kernel)) rfl
set_option maxRecDepth 100000 in
theorem wd_1569 : Cond.code yX12_term cX12_term 2 none ∈ lw_t2 := ch_7 (List.mem_of_getElem? (i := 35) rfl) rfl
theorem wd_1570 : Cond.methodLink RX12 154 yX12_atom ∈ lw_t2 := ch_7 (List.mem_of_getElem? (i := 36) (by decide +kernel)) rfl
theorem wd_1572 : Cond.instanceMethod yX12_atom ∈ lw_t2 := ch_7 (List.mem_of_getElem? (i := 38) (by decide +kernel)) rfl
set_option maxRecDepth 100000 in
theorem wd_1573 : Cond.code yX12_atom cX12_atom 2 none ∈ lw_t2 := ch_7 (List.mem_of_getElem? (i := 39) rfl) rfl
theorem wd_1574 : Cond.methodLink RX12 133 yX12_plainNumber ∈ lw_t2 := ch_7 (List.mem_of_getElem? (i := 40) (by decide +kernel)) rfl
theorem wd_1576 : Cond.instanceMethod yX12_plainNumber ∈ lw_t2 := ch_7 (List.mem_of_getElem? (i := 42) (by decide +kernel)) rfl
set_option maxRecDepth 100000 in
theorem wd_1577 : Cond.code yX12_plainNumber cX12_plainNumber 3 (some FieldType.int) ∈ lw_t2 := ch_7 (List.mem_of_getElem? (i := 43) rfl) rfl
theorem wd_1578 : Cond.methodLink RX12 140 yX12_letterOf ∈ lw_t2 := ch_7 (List.mem_of_getElem? (i := 44) (by decide +kernel)) rfl
theorem wd_1579 : Cond.static yX12_letterOf ∈ lw_t2 := ch_7 (List.mem_of_getElem? (i := 45) (by decide +kernel)) rfl
set_option maxRecDepth 100000 in
theorem wd_1580 : Cond.code yX12_letterOf cX12_letterOf 1 (some FieldType.int) ∈ lw_t2 := ch_7 (List.mem_of_getElem? (i := 46) rfl) rfl
theorem wd_1581 : Cond.methodLink RX12 169 yX12_compare ∈ lw_t2 := ch_7 (List.mem_of_getElem? (i := 47) (by decide +kernel)) rfl
theorem wd_1583 : Cond.instanceMethod yX12_compare ∈ lw_t2 := ch_7 (List.mem_of_getElem? (i := 49) (by decide +kernel)) rfl
set_option maxRecDepth 100000 in
theorem wd_1584 : Cond.code yX12_compare cX12_compare 2 none ∈ lw_t2 := ch_7 (List.mem_of_getElem? (i := 50) rfl) rfl
theorem wd_1585 : Cond.methodLink RX12 160 yX12_isSign ∈ lw_t2 := ch_7 (List.mem_of_getElem? (i := 51) (by decide +kernel)) rfl
theorem wd_1586 : Cond.static yX12_isSign ∈ lw_t2 := ch_7 (List.mem_of_getElem? (i := 52) (by decide +kernel)) rfl
set_option maxRecDepth 100000 in
theorem wd_1587 : Cond.code yX12_isSign cX12_isSign 1 (some FieldType.boolean) ∈ lw_t2 := ch_7 (List.mem_of_getElem? (i := 53) rfl) rfl
theorem wd_1588 : Cond.methodLink RX12 172 yX12_goOnAnd ∈ lw_t2 := ch_7 (List.mem_of_getElem? (i := 54) (by decide +kernel)) rfl
theorem wd_1590 : Cond.instanceMethod yX12_goOnAnd ∈ lw_t2 := ch_7 (List.mem_of_getElem? (i := 56) (by decide +kernel)) rfl
set_option maxRecDepth 100000 in
theorem wd_1591 : Cond.code yX12_goOnAnd cX12_goOnAnd 1 none ∈ lw_t2 := ch_7 (List.mem_of_getElem? (i := 57) rfl) rfl
theorem wd_1592 : Cond.methodLink RX12 175 yX12_goOnOr ∈ lw_t2 := ch_7 (List.mem_of_getElem? (i := 58) (by decide +kernel)) rfl
theorem wd_1594 : Cond.instanceMethod yX12_goOnOr ∈ lw_t2 := ch_7 (List.mem_of_getElem? (i := 60) (by decide +kernel)) rfl
set_option maxRecDepth 100000 in
theorem wd_1595 : Cond.code yX12_goOnOr cX12_goOnOr 1 none ∈ lw_t2 := ch_7 (List.mem_of_getElem? (i := 61) rfl) rfl
theorem wd_1596 : Cond.methodLink RX12 184 yX12_atEnd ∈ lw_t2 := ch_7 (List.mem_of_getElem? (i := 62) (by decide +kernel)) rfl
theorem wd_1598 : Cond.instanceMethod yX12_atEnd ∈ lw_t2 := ch_7 (List.mem_of_getElem? (i := 64) (by decide +kernel)) rfl
set_option maxRecDepth 100000 in
theorem wd_1599 : Cond.code yX12_atEnd cX12_atEnd 1 (some FieldType.int) ∈ lw_t2 := ch_7 (List.mem_of_getElem? (i := 65) rfl) rfl
theorem wd_1600 : Cond.methodLink RL 37 yX12_text ∈ lw_t2 := ch_7 (List.mem_of_getElem? (i := 66) (by decide +kernel)) rfl
theorem wd_1601 : Cond.instanceMethod yX12_text ∈ lw_t2 := ch_7 (List.mem_of_getElem? (i := 67) (by decide +kernel)) rfl
theorem wd_1602 : Cond.selects RX12 yX12_text yX12_text ∈ lw_t2 := ch_7 (List.mem_of_getElem? (i := 68) (by decide +kernel)) rfl
set_option maxRecDepth 100000 in
theorem wd_1603 : Cond.code yX12_text cX12_text 2 (some FieldType.int) ∈ lw_t2 := ch_7 (List.mem_of_getElem? (i := 69) rfl) rfl
theorem wd_1604 : Cond.methodLink RX12 281 yX12_takeParish ∈ lw_t2 := ch_7 (List.mem_of_getElem? (i := 70) (by decide +kernel)) rfl
theorem wd_1606 : Cond.instanceMethod yX12_takeParish ∈ lw_t2 := ch_7 (List.mem_of_getElem? (i := 72) (by decide +kernel)) rfl
set_option maxRecDepth 100000 in
theorem wd_1607 : Cond.code yX12_takeParish cX12_takeParish 2 (some FieldType.int) ∈ lw_t2 := ch_7 (List.mem_of_getElem? (i := 73) rfl) rfl
theorem wd_1608 : Cond.methodLink RX12 262 yX12_of ∈ lw_t2 := ch_7 (List.mem_of_getElem? (i := 74) (by decide +kernel)) rfl
theorem wd_1610 : Cond.instanceMethod yX12_of ∈ lw_t2 := ch_7 (List.mem_of_getElem? (i := 76) (by decide +kernel)) rfl
set_option maxRecDepth 100000 in
theorem wd_1611 : Cond.code yX12_of cX12_of 3 (some FieldType.int) ∈ lw_t2 := ch_7 (List.mem_of_getElem? (i := 77) rfl) rfl
theorem wd_1612 : Cond.methodLink RX12 265 yX12_laySteps ∈ lw_t2 := ch_7 (List.mem_of_getElem? (i := 78) (by decide +kernel)) rfl
theorem wd_1614 : Cond.instanceMethod yX12_laySteps ∈ lw_t2 := ch_7 (List.mem_of_getElem? (i := 80) (by decide +kernel)) rfl
set_option maxRecDepth 100000 in
theorem wd_1615 : Cond.code yX12_laySteps cX12_laySteps 3 none ∈ lw_t2 := ch_7 (List.mem_of_getElem? (i := 81) rfl) rfl
theorem wd_1616 : Cond.constant RX12 278 (1000000 : Int32) ∈ lw_t2 := ch_7 (List.mem_of_getElem? (i := 82) (by decide +kernel)) rfl
theorem wd_1617 : Cond.methodLink RX12 279 yJ9_min_7cf53 ∈ lw_t2 := ch_7 (List.mem_of_getElem? (i := 83) (by decide +kernel)) rfl
theorem wd_1618 : Cond.methodLink RL 41 yX12_rule ∈ lw_t2 := ch_7 (List.mem_of_getElem? (i := 84) (by decide +kernel)) rfl
theorem wd_1619 : Cond.instanceMethod yX12_rule ∈ lw_t2 := ch_7 (List.mem_of_getElem? (i := 85) (by decide +kernel)) rfl
theorem wd_1620 : Cond.selects RX12 yX12_rule yX12_rule ∈ lw_t2 := ch_7 (List.mem_of_getElem? (i := 86) (by decide +kernel)) rfl
set_option maxRecDepth 100000 in
theorem wd_1621 : Cond.code yX12_rule cX12_rule 2 (some FieldType.int) ∈ lw_t2 := ch_7 (List.mem_of_getElem? (i := 87) rfl) rfl
theorem wd_1622 : Cond.methodLink RL 45 yX12_stretch ∈ lw_t2 := ch_7 (List.mem_of_getElem? (i := 88) (by decide +kernel)) rfl
theorem wd_1623 : Cond.instanceMethod yX12_stretch ∈ lw_t2 := ch_7 (List.mem_of_getElem? (i := 89) (by decide +kernel)) rfl
theorem wd_1624 : Cond.selects RX12 yX12_stretch yX12_stretch ∈ lw_t2 := ch_7 (List.mem_of_getElem? (i := 90) (by decide +kernel)) rfl
set_option maxRecDepth 100000 in
theorem wd_1625 : Cond.code yX12_stretch cX12_stretch 3 (some FieldType.int) ∈ lw_t2 := ch_7 (List.mem_of_getElem? (i := 91) rfl) rfl
theorem wd_1626 : Cond.methodLink RX12 305 yX12_isStretch ∈ lw_t2 := ch_7 (List.mem_of_getElem? (i := 92) (by decide +kernel)) rfl
theorem wd_1628 : Cond.instanceMethod yX12_isStretch ∈ lw_t2 := ch_7 (List.mem_of_getElem? (i := 94) (by decide +kernel)) rfl
set_option maxRecDepth 100000 in
theorem wd_1629 : Cond.code yX12_isStretch cX12_isStretch 2 (some FieldType.boolean) ∈ lw_t2 := ch_7 (List.mem_of_getElem? (i := 95) rfl) rfl
theorem wd_1630 : Cond.methodLink RL 51 yX12_house ∈ lw_t2 := ch_7 (List.mem_of_getElem? (i := 96) (by decide +kernel)) rfl
theorem wd_1631 : Cond.instanceMethod yX12_house ∈ lw_t2 := ch_7 (List.mem_of_getElem? (i := 97) (by decide +kernel)) rfl
theorem wd_1632 : Cond.selects RX12 yX12_house yX12_house ∈ lw_t2 := ch_7 (List.mem_of_getElem? (i := 98) (by decide +kernel)) rfl
set_option maxRecDepth 100000 in
theorem wd_1633 : Cond.code yX12_house cX12_house 3 (some FieldType.int) ∈ lw_t2 := ch_7 (List.mem_of_getElem? (i := 99) rfl) rfl
theorem wd_1634 : Cond.methodLink RX12 308 yX12_isHouse ∈ lw_t2 := ch_7 (List.mem_of_getElem? (i := 100) (by decide +kernel)) rfl
theorem wd_1636 : Cond.instanceMethod yX12_isHouse ∈ lw_t2 := ch_7 (List.mem_of_getElem? (i := 102) (by decide +kernel)) rfl
set_option maxRecDepth 100000 in
theorem wd_1637 : Cond.code yX12_isHouse cX12_isHouse 2 (some FieldType.boolean) ∈ lw_t2 := ch_7 (List.mem_of_getElem? (i := 103) rfl) rfl
theorem wd_1638 : Cond.methodLink RX12 287 yX12_ofHouse ∈ lw_t2 := ch_7 (List.mem_of_getElem? (i := 104) (by decide +kernel)) rfl
theorem wd_1640 : Cond.instanceMethod yX12_ofHouse ∈ lw_t2 := ch_7 (List.mem_of_getElem? (i := 106) (by decide +kernel)) rfl
set_option maxRecDepth 100000 in
theorem wd_1641 : Cond.code yX12_ofHouse cX12_ofHouse 3 (some FieldType.int) ∈ lw_t2 := ch_7 (List.mem_of_getElem? (i := 107) rfl) rfl
theorem wd_1642 : Cond.methodLink RL 59 yX12_law ∈ lw_t2 := ch_7 (List.mem_of_getElem? (i := 108) (by decide +kernel)) rfl
theorem wd_1643 : Cond.instanceMethod yX12_law ∈ lw_t2 := ch_7 (List.mem_of_getElem? (i := 109) (by decide +kernel)) rfl
theorem wd_1644 : Cond.selects RX12 yX12_law yX12_law ∈ lw_t2 := ch_7 (List.mem_of_getElem? (i := 110) (by decide +kernel)) rfl
set_option maxRecDepth 100000 in
theorem wd_1645 : Cond.code yX12_law cX12_law 2 (some FieldType.boolean) ∈ lw_t2 := ch_7 (List.mem_of_getElem? (i := 111) rfl) rfl
theorem wd_1646 : Cond.methodLink RL 63 yX12_haul ∈ lw_t2 := ch_7 (List.mem_of_getElem? (i := 112) (by decide +kernel)) rfl
theorem wd_1647 : Cond.instanceMethod yX12_haul ∈ lw_t2 := ch_7 (List.mem_of_getElem? (i := 113) (by decide +kernel)) rfl
theorem wd_1648 : Cond.selects RX12 yX12_haul yX12_haul ∈ lw_t2 := ch_7 (List.mem_of_getElem? (i := 114) (by decide +kernel)) rfl
set_option maxRecDepth 100000 in
theorem wd_1649 : Cond.code yX12_haul cX12_haul 3 (some FieldType.int) ∈ lw_t2 := ch_7 (List.mem_of_getElem? (i := 115) rfl) rfl
theorem wd_1650 : Cond.methodLink RX12 311 yX12_comes ∈ lw_t2 := ch_7 (List.mem_of_getElem? (i := 116) (by decide +kernel)) rfl
theorem wd_1652 : Cond.instanceMethod yX12_comes ∈ lw_t2 := ch_7 (List.mem_of_getElem? (i := 118) (by decide +kernel)) rfl
set_option maxRecDepth 100000 in
theorem wd_1653 : Cond.code yX12_comes cX12_comes 3 (some FieldType.boolean) ∈ lw_t2 := ch_7 (List.mem_of_getElem? (i := 119) rfl) rfl
theorem wd_1654 : Cond.methodLink RX12 290 yX12_haulOf ∈ lw_t2 := ch_7 (List.mem_of_getElem? (i := 120) (by decide +kernel)) rfl
theorem wd_1656 : Cond.instanceMethod yX12_haulOf ∈ lw_t2 := ch_7 (List.mem_of_getElem? (i := 122) (by decide +kernel)) rfl
set_option maxRecDepth 100000 in
theorem wd_1657 : Cond.code yX12_haulOf cX12_haulOf 3 (some FieldType.int) ∈ lw_t2 := ch_7 (List.mem_of_getElem? (i := 123) rfl) rfl
theorem wd_1658 : Cond.methodLink RL 68 yX12_does ∈ lw_t2 := ch_7 (List.mem_of_getElem? (i := 124) (by decide +kernel)) rfl
theorem wd_1659 : Cond.instanceMethod yX12_does ∈ lw_t2 := ch_7 (List.mem_of_getElem? (i := 125) (by decide +kernel)) rfl
theorem wd_1660 : Cond.selects RX12 yX12_does yX12_does ∈ lw_t2 := ch_7 (List.mem_of_getElem? (i := 126) (by decide +kernel)) rfl
set_option maxRecDepth 100000 in
theorem wd_1661 : Cond.code yX12_does cX12_does 4 (some FieldType.int) ∈ lw_t2 := ch_7 (List.mem_of_getElem? (i := 127) rfl) rfl
theorem wd_1662 : Cond.methodLink RX12 314 yX12_doesNow ∈ lw_t2 := ch_7 (List.mem_of_getElem? (i := 128) (by decide +kernel)) rfl
theorem wd_1664 : Cond.instanceMethod yX12_doesNow ∈ lw_t2 := ch_7 (List.mem_of_getElem? (i := 130) (by decide +kernel)) rfl
set_option maxRecDepth 100000 in
theorem wd_1665 : Cond.code yX12_doesNow cX12_doesNow 4 (some FieldType.int) ∈ lw_t2 := ch_7 (List.mem_of_getElem? (i := 131) rfl) rfl
theorem wd_1666 : Cond.methodLink RX12 301 yX12_doesBy ∈ lw_t2 := ch_7 (List.mem_of_getElem? (i := 132) (by decide +kernel)) rfl
theorem wd_1668 : Cond.instanceMethod yX12_doesBy ∈ lw_t2 := ch_7 (List.mem_of_getElem? (i := 134) (by decide +kernel)) rfl
set_option maxRecDepth 100000 in
theorem wd_1669 : Cond.code yX12_doesBy cX12_doesBy 6 (some FieldType.int) ∈ lw_t2 := ch_7 (List.mem_of_getElem? (i := 135) rfl) rfl
theorem wd_1670 : Cond.methodLink RX12 293 yX12_worthOf ∈ lw_t2 := ch_7 (List.mem_of_getElem? (i := 136) (by decide +kernel)) rfl
theorem wd_1672 : Cond.instanceMethod yX12_worthOf ∈ lw_t2 := ch_7 (List.mem_of_getElem? (i := 138) (by decide +kernel)) rfl
set_option maxRecDepth 100000 in
theorem wd_1673 : Cond.code yX12_worthOf cX12_worthOf 3 (some FieldType.int) ∈ lw_t2 := ch_7 (List.mem_of_getElem? (i := 139) rfl) rfl
theorem wd_1674 : Cond.methodLink RX12 208 yX12_workOut ∈ lw_t2 := ch_7 (List.mem_of_getElem? (i := 140) (by decide +kernel)) rfl
theorem wd_1676 : Cond.instanceMethod yX12_workOut ∈ lw_t2 := ch_7 (List.mem_of_getElem? (i := 142) (by decide +kernel)) rfl
set_option maxRecDepth 100000 in
theorem wd_1677 : Cond.code yX12_workOut cX12_workOut 6 (some FieldType.int) ∈ lw_t2 := ch_7 (List.mem_of_getElem? (i := 143) rfl) rfl
theorem wd_1678 : Cond.methodLink RX12 204 yX12_worked ∈ lw_t2 := ch_7 (List.mem_of_getElem? (i := 144) (by decide +kernel)) rfl
theorem wd_1679 : Cond.static yX12_worked ∈ lw_t2 := ch_7 (List.mem_of_getElem? (i := 145) (by decide +kernel)) rfl
set_option maxRecDepth 100000 in
theorem wd_1680 : Cond.code yX12_worked cX12_worked 5 (some FieldType.int) ∈ lw_t2 := ch_7 (List.mem_of_getElem? (i := 146) rfl) rfl
theorem wd_1681 : Cond.methodLink RX12 200 yX12_bounded ∈ lw_t2 := ch_7 (List.mem_of_getElem? (i := 147) (by decide +kernel)) rfl
theorem wd_1682 : Cond.static yX12_bounded ∈ lw_t2 := ch_7 (List.mem_of_getElem? (i := 148) (by decide +kernel)) rfl
set_option maxRecDepth 100000 in
theorem wd_1683 : Cond.code yX12_bounded cX12_bounded 2 (some FieldType.int) ∈ lw_t2 := ch_7 (List.mem_of_getElem? (i := 149) rfl) rfl
theorem wd_1684 : Cond.constantLong RX12 187 (-1000000 : Int64) ∈ lw_t2 := ch_7 (List.mem_of_getElem? (i := 150) (by decide +kernel)) rfl
theorem wd_1685 : Cond.constantLong RX12 189 (1000000 : Int64) ∈ lw_t2 := ch_7 (List.mem_of_getElem? (i := 151) (by decide +kernel)) rfl
theorem wd_1686 : Cond.methodLink RX12 191 yJ9_min_f86c9 ∈ lw_t2 := ch_7 (List.mem_of_getElem? (i := 152) (by decide +kernel)) rfl
theorem wd_1687 : Cond.static yJ9_min_f86c9 ∈ lw_t2 := ch_7 (List.mem_of_getElem? (i := 153) (by decide +kernel)) rfl
set_option maxRecDepth 100000 in
theorem wd_1688 : Cond.code yJ9_min_f86c9 cJ9_min_f86c9 4 (some FieldType.long) ∈ lw_t2 := ch_7 (List.mem_of_getElem? (i := 154) rfl) rfl
theorem wd_1689 : Cond.methodLink RX12 197 yJ9_max_f86c9 ∈ lw_t2 := ch_7 (List.mem_of_getElem? (i := 155) (by decide +kernel)) rfl
theorem wd_1690 : Cond.static yJ9_max_f86c9 ∈ lw_t2 := ch_7 (List.mem_of_getElem? (i := 156) (by decide +kernel)) rfl
set_option maxRecDepth 100000 in
theorem wd_1691 : Cond.code yJ9_max_f86c9 cJ9_max_f86c9 4 (some FieldType.long) ∈ lw_t2 := ch_7 (List.mem_of_getElem? (i := 157) rfl) rfl
theorem wd_1692 : Cond.methodLink RX12 296 yJ9_max_7cf53 ∈ lw_t2 := ch_7 (List.mem_of_getElem? (i := 158) (by decide +kernel)) rfl
theorem wd_1693 : Cond.methodLink RX12 298 yX12_isWinter ∈ lw_t2 := ch_7 (List.mem_of_getElem? (i := 159) (by decide +kernel)) rfl
theorem wd_1695 : Cond.instanceMethod yX12_isWinter ∈ lw_t2 := ch_7 (List.mem_of_getElem? (i := 161) (by decide +kernel)) rfl
set_option maxRecDepth 100000 in
theorem wd_1696 : Cond.code yX12_isWinter cX12_isWinter 2 (some FieldType.boolean) ∈ lw_t2 := ch_7 (List.mem_of_getElem? (i := 162) rfl) rfl
theorem wd_1697 : Cond.methodLink RL 72 yX12_work ∈ lw_t2 := ch_7 (List.mem_of_getElem? (i := 163) (by decide +kernel)) rfl
theorem wd_1698 : Cond.instanceMethod yX12_work ∈ lw_t2 := ch_7 (List.mem_of_getElem? (i := 164) (by decide +kernel)) rfl
theorem wd_1699 : Cond.selects RX12 yX12_work yX12_work ∈ lw_t2 := ch_7 (List.mem_of_getElem? (i := 165) (by decide +kernel)) rfl
set_option maxRecDepth 100000 in
theorem wd_1700 : Cond.code yX12_work cX12_work 5 (some FieldType.int) ∈ lw_t2 := ch_7 (List.mem_of_getElem? (i := 166) rfl) rfl
theorem wd_1701 : Cond.methodLink RX12 317 yX12_isRefused ∈ lw_t2 := ch_7 (List.mem_of_getElem? (i := 167) (by decide +kernel)) rfl
theorem wd_1703 : Cond.instanceMethod yX12_isRefused ∈ lw_t2 := ch_7 (List.mem_of_getElem? (i := 169) (by decide +kernel)) rfl
set_option maxRecDepth 100000 in
theorem wd_1704 : Cond.code yX12_isRefused cX12_isRefused 2 (some FieldType.boolean) ∈ lw_t2 := ch_7 (List.mem_of_getElem? (i := 170) rfl) rfl
theorem wd_1705 : Cond.methodLink RX12 320 yX12_keep ∈ lw_t2 := ch_7 (List.mem_of_getElem? (i := 171) (by decide +kernel)) rfl
theorem wd_1707 : Cond.instanceMethod yX12_keep ∈ lw_t2 := ch_7 (List.mem_of_getElem? (i := 173) (by decide +kernel)) rfl
set_option maxRecDepth 100000 in
theorem wd_1708 : Cond.code yX12_keep cX12_keep 2 none ∈ lw_t2 := ch_7 (List.mem_of_getElem? (i := 174) rfl) rfl
theorem wd_1709 : Cond.methodLink RX12 323 yX12_workNow ∈ lw_t2 := ch_7 (List.mem_of_getElem? (i := 175) (by decide +kernel)) rfl
theorem wd_1711 : Cond.instanceMethod yX12_workNow ∈ lw_t2 := ch_7 (List.mem_of_getElem? (i := 177) (by decide +kernel)) rfl
set_option maxRecDepth 100000 in
theorem wd_1712 : Cond.code yX12_workNow cX12_workNow 4 none ∈ lw_t2 := ch_7 (List.mem_of_getElem? (i := 178) rfl) rfl
theorem wd_1713 : Cond.methodLink RL 76 yX12_pay ∈ lw_t2 := ch_7 (List.mem_of_getElem? (i := 179) (by decide +kernel)) rfl
theorem wd_1714 : Cond.instanceMethod yX12_pay ∈ lw_t2 := ch_7 (List.mem_of_getElem? (i := 180) (by decide +kernel)) rfl
theorem wd_1715 : Cond.selects RX12 yX12_pay yX12_pay ∈ lw_t2 := ch_7 (List.mem_of_getElem? (i := 181) (by decide +kernel)) rfl
set_option maxRecDepth 100000 in
theorem wd_1716 : Cond.code yX12_pay cX12_pay 3 (some FieldType.int) ∈ lw_t2 := ch_7 (List.mem_of_getElem? (i := 182) rfl) rfl
theorem wd_1717 : Cond.methodLink RL 80 yX12_ditch ∈ lw_t2 := ch_7 (List.mem_of_getElem? (i := 183) (by decide +kernel)) rfl
theorem wd_1718 : Cond.instanceMethod yX12_ditch ∈ lw_t2 := ch_7 (List.mem_of_getElem? (i := 184) (by decide +kernel)) rfl
theorem wd_1719 : Cond.selects RX12 yX12_ditch yX12_ditch ∈ lw_t2 := ch_7 (List.mem_of_getElem? (i := 185) (by decide +kernel)) rfl
set_option maxRecDepth 100000 in
theorem wd_1720 : Cond.code yX12_ditch cX12_ditch 3 (some FieldType.int) ∈ lw_t2 := ch_7 (List.mem_of_getElem? (i := 186) rfl) rfl
theorem wd_1721 : Cond.methodLink RX12 327 yX12_isAt ∈ lw_t2 := ch_7 (List.mem_of_getElem? (i := 187) (by decide +kernel)) rfl
theorem wd_1723 : Cond.instanceMethod yX12_isAt ∈ lw_t2 := ch_7 (List.mem_of_getElem? (i := 189) (by decide +kernel)) rfl
set_option maxRecDepth 100000 in
theorem wd_1724 : Cond.code yX12_isAt cX12_isAt 3 (some FieldType.boolean) ∈ lw_t2 := ch_7 (List.mem_of_getElem? (i := 190) rfl) rfl
theorem wd_1725 : Cond.methodLink RL 84 yX12_seasons ∈ lw_t2 := ch_7 (List.mem_of_getElem? (i := 191) (by decide +kernel)) rfl
theorem wd_1726 : Cond.instanceMethod yX12_seasons ∈ lw_t2 := ch_7 (List.mem_of_getElem? (i := 192) (by decide +kernel)) rfl
theorem wd_1727 : Cond.selects RX12 yX12_seasons yX12_seasons ∈ lw_t2 := ch_7 (List.mem_of_getElem? (i := 193) (by decide +kernel)) rfl
set_option maxRecDepth 100000 in
theorem wd_1728 : Cond.code yX12_seasons cX12_seasons 3 (some FieldType.int) ∈ lw_t2 := ch_7 (List.mem_of_getElem? (i := 194) rfl) rfl
theorem wd_1729 : Cond.methodLink RX12 336 yX12_areSeasons ∈ lw_t2 := ch_7 (List.mem_of_getElem? (i := 195) (by decide +kernel)) rfl
theorem wd_1731 : Cond.instanceMethod yX12_areSeasons ∈ lw_t2 := ch_7 (List.mem_of_getElem? (i := 197) (by decide +kernel)) rfl
set_option maxRecDepth 100000 in
theorem wd_1732 : Cond.code yX12_areSeasons cX12_areSeasons 2 (some FieldType.boolean) ∈ lw_t2 := ch_7 (List.mem_of_getElem? (i := 198) rfl) rfl
theorem wd_1733 : Cond.methodLink RX12 339 yX12_passSeason ∈ lw_t2 := ch_7 (List.mem_of_getElem? (i := 199) (by decide +kernel)) rfl
theorem wd_1735 : Cond.instanceMethod yX12_passSeason ∈ lw_t2 := ch_7 (List.mem_of_getElem? (i := 201) (by decide +kernel)) rfl
set_option maxRecDepth 100000 in
theorem wd_1736 : Cond.code yX12_passSeason cX12_passSeason 3 none ∈ lw_t2 := ch_7 (List.mem_of_getElem? (i := 202) rfl) rfl
theorem wd_1737 : Cond.methodLink RX12 330 yX12_wearOn ∈ lw_t2 := ch_7 (List.mem_of_getElem? (i := 203) (by decide +kernel)) rfl
theorem wd_1739 : Cond.instanceMethod yX12_wearOn ∈ lw_t2 := ch_7 (List.mem_of_getElem? (i := 205) (by decide +kernel)) rfl
set_option maxRecDepth 100000 in
theorem wd_1740 : Cond.code yX12_wearOn cX12_wearOn 4 none ∈ lw_t2 := ch_7 (List.mem_of_getElem? (i := 206) rfl) rfl
theorem wd_1741 : Cond.methodLink RX12 333 yX12_sumOf ∈ lw_t2 := ch_7 (List.mem_of_getElem? (i := 207) (by decide +kernel)) rfl
theorem wd_1743 : Cond.instanceMethod yX12_sumOf ∈ lw_t2 := ch_7 (List.mem_of_getElem? (i := 209) (by decide +kernel)) rfl
set_option maxRecDepth 100000 in
theorem wd_1744 : Cond.code yX12_sumOf cX12_sumOf 5 (some FieldType.int) ∈ lw_t2 := ch_7 (List.mem_of_getElem? (i := 210) rfl) rfl
theorem wd_1745 : Cond.methodLink RL 91 yX12_years ∈ lw_t2 := ch_7 (List.mem_of_getElem? (i := 211) (by decide +kernel)) rfl
theorem wd_1746 : Cond.instanceMethod yX12_years ∈ lw_t2 := ch_7 (List.mem_of_getElem? (i := 212) (by decide +kernel)) rfl
theorem wd_1747 : Cond.selects RX12 yX12_years yX12_years ∈ lw_t2 := ch_7 (List.mem_of_getElem? (i := 213) (by decide +kernel)) rfl
set_option maxRecDepth 100000 in
theorem wd_1748 : Cond.code yX12_years cX12_years 6 (some FieldType.int) ∈ lw_t2 := ch_7 (List.mem_of_getElem? (i := 214) rfl) rfl
theorem wd_1749 : Cond.methodLink RX12 353 yX12_drawDay ∈ lw_t2 := ch_7 (List.mem_of_getElem? (i := 215) (by decide +kernel)) rfl
theorem wd_1751 : Cond.instanceMethod yX12_drawDay ∈ lw_t2 := ch_7 (List.mem_of_getElem? (i := 217) (by decide +kernel)) rfl
set_option maxRecDepth 100000 in
theorem wd_1752 : Cond.code yX12_drawDay cX12_drawDay 4 none ∈ lw_t2 := ch_7 (List.mem_of_getElem? (i := 218) rfl) rfl
theorem wd_1753 : Cond.methodLink RX12 350 yX12_draw ∈ lw_t2 := ch_7 (List.mem_of_getElem? (i := 219) (by decide +kernel)) rfl
theorem wd_1755 : Cond.instanceMethod yX12_draw ∈ lw_t2 := ch_7 (List.mem_of_getElem? (i := 221) (by decide +kernel)) rfl
set_option maxRecDepth 100000 in
theorem wd_1756 : Cond.code yX12_draw cX12_draw 2 (some FieldType.int) ∈ lw_t2 := ch_7 (List.mem_of_getElem? (i := 222) rfl) rfl
theorem wd_1757 : Cond.constantLong RX12 346 (6364136223846793005 : Int64) ∈ lw_t2 := ch_7 (List.mem_of_getElem? (i := 223) (by decide +kernel)) rfl
theorem wd_1758 : Cond.constantLong RX12 348 (1442695040888963407 : Int64) ∈ lw_t2 := ch_7 (List.mem_of_getElem? (i := 224) (by decide +kernel)) rfl
theorem wd_1759 : Cond.methodLink RL 95 yX12_status ∈ lw_t2 := ch_7 (List.mem_of_getElem? (i := 225) (by decide +kernel)) rfl
theorem wd_1760 : Cond.instanceMethod yX12_status ∈ lw_t2 := ch_7 (List.mem_of_getElem? (i := 226) (by decide +kernel)) rfl
theorem wd_1761 : Cond.selects RX12 yX12_status yX12_status ∈ lw_t2 := ch_7 (List.mem_of_getElem? (i := 227) (by decide +kernel)) rfl
set_option maxRecDepth 100000 in
theorem wd_1762 : Cond.code yX12_status cX12_status 2 (some FieldType.int) ∈ lw_t2 := ch_7 (List.mem_of_getElem? (i := 228) rfl) rfl
theorem wd_1763 : Cond.methodLink RL 99 yX12_undo ∈ lw_t2 := ch_7 (List.mem_of_getElem? (i := 229) (by decide +kernel)) rfl
theorem wd_1764 : Cond.instanceMethod yX12_undo ∈ lw_t2 := ch_7 (List.mem_of_getElem? (i := 230) (by decide +kernel)) rfl
theorem wd_1765 : Cond.selects RX12 yX12_undo yX12_undo ∈ lw_t2 := ch_7 (List.mem_of_getElem? (i := 231) (by decide +kernel)) rfl
set_option maxRecDepth 100000 in
theorem wd_1766 : Cond.code yX12_undo cX12_undo 2 (some FieldType.int) ∈ lw_t2 := ch_7 (List.mem_of_getElem? (i := 232) rfl) rfl
theorem wd_1767 : Cond.methodLink RL 103 yX12_log ∈ lw_t2 := ch_7 (List.mem_of_getElem? (i := 233) (by decide +kernel)) rfl
theorem wd_1768 : Cond.instanceMethod yX12_log ∈ lw_t2 := ch_7 (List.mem_of_getElem? (i := 234) (by decide +kernel)) rfl
theorem wd_1769 : Cond.selects RX12 yX12_log yX12_log ∈ lw_t2 := ch_7 (List.mem_of_getElem? (i := 235) (by decide +kernel)) rfl
set_option maxRecDepth 100000 in
theorem wd_1770 : Cond.code yX12_log cX12_log 3 (some FieldType.int) ∈ lw_t2 := ch_7 (List.mem_of_getElem? (i := 236) rfl) rfl
theorem wd_1771 : Cond.methodLink RL 107 yX12_least ∈ lw_t2 := ch_7 (List.mem_of_getElem? (i := 237) (by decide +kernel)) rfl
theorem wd_1772 : Cond.instanceMethod yX12_least ∈ lw_t2 := ch_7 (List.mem_of_getElem? (i := 238) (by decide +kernel)) rfl
theorem wd_1773 : Cond.selects RX12 yX12_least yX12_least ∈ lw_t2 := ch_7 (List.mem_of_getElem? (i := 239) (by decide +kernel)) rfl
set_option maxRecDepth 100000 in
theorem wd_1774 : Cond.code yX12_least cX12_least 5 (some FieldType.int) ∈ lw_t2 := ch_8 (List.mem_of_getElem? (i := 0) rfl) rfl
theorem wd_1775 : Cond.methodLink RX12 359 yX12_canMend ∈ lw_t2 := ch_8 (List.mem_of_getElem? (i := 1) (by decide +kernel)) rfl
theorem wd_1777 : Cond.instanceMethod yX12_canMend ∈ lw_t2 := ch_8 (List.mem_of_getElem? (i := 3) (by decide +kernel)) rfl
set_option maxRecDepth 100000 in
theorem wd_1778 : Cond.code yX12_canMend cX12_canMend 8 (some FieldType.boolean) ∈ lw_t2 := ch_8 (List.mem_of_getElem? (i := 4) rfl) rfl
theorem wd_1779 : Cond.methodLink RL 111 yX12_way ∈ lw_t2 := ch_8 (List.mem_of_getElem? (i := 5) (by decide +kernel)) rfl
theorem wd_1780 : Cond.instanceMethod yX12_way ∈ lw_t2 := ch_8 (List.mem_of_getElem? (i := 6) (by decide +kernel)) rfl
theorem wd_1781 : Cond.selects RX12 yX12_way yX12_way ∈ lw_t2 := ch_8 (List.mem_of_getElem? (i := 7) (by decide +kernel)) rfl
set_option maxRecDepth 100000 in
theorem wd_1782 : Cond.code yX12_way cX12_way 4 (some FieldType.int) ∈ lw_t2 := ch_8 (List.mem_of_getElem? (i := 8) rfl) rfl
theorem wd_1783 : Cond.methodLink RX12 373 yX12_layWay ∈ lw_t2 := ch_8 (List.mem_of_getElem? (i := 9) (by decide +kernel)) rfl
theorem wd_1785 : Cond.instanceMethod yX12_layWay ∈ lw_t2 := ch_8 (List.mem_of_getElem? (i := 11) (by decide +kernel)) rfl
set_option maxRecDepth 100000 in
theorem wd_1786 : Cond.code yX12_layWay cX12_layWay 3 none ∈ lw_t2 := ch_8 (List.mem_of_getElem? (i := 12) rfl) rfl
theorem wd_1787 : Cond.methodLink RX12 369 yX12_tryWay ∈ lw_t2 := ch_8 (List.mem_of_getElem? (i := 13) (by decide +kernel)) rfl
theorem wd_1789 : Cond.instanceMethod yX12_tryWay ∈ lw_t2 := ch_8 (List.mem_of_getElem? (i := 15) (by decide +kernel)) rfl
set_option maxRecDepth 100000 in
theorem wd_1790 : Cond.code yX12_tryWay cX12_tryWay 8 none ∈ lw_t2 := ch_8 (List.mem_of_getElem? (i := 16) rfl) rfl
theorem wd_1791 : Cond.methodLink RL 115 yX12_worth ∈ lw_t2 := ch_8 (List.mem_of_getElem? (i := 17) (by decide +kernel)) rfl
theorem wd_1792 : Cond.instanceMethod yX12_worth ∈ lw_t2 := ch_8 (List.mem_of_getElem? (i := 18) (by decide +kernel)) rfl
theorem wd_1793 : Cond.selects RX12 yX12_worth yX12_worth ∈ lw_t2 := ch_8 (List.mem_of_getElem? (i := 19) (by decide +kernel)) rfl
set_option maxRecDepth 100000 in
theorem wd_1794 : Cond.code yX12_worth cX12_worth 4 (some FieldType.int) ∈ lw_t2 := ch_8 (List.mem_of_getElem? (i := 20) rfl) rfl
theorem wd_1795 : Cond.methodLink RL 119 yX12_buys ∈ lw_t2 := ch_8 (List.mem_of_getElem? (i := 21) (by decide +kernel)) rfl
theorem wd_1796 : Cond.instanceMethod yX12_buys ∈ lw_t2 := ch_8 (List.mem_of_getElem? (i := 22) (by decide +kernel)) rfl
theorem wd_1797 : Cond.selects RX12 yX12_buys yX12_buys ∈ lw_t2 := ch_8 (List.mem_of_getElem? (i := 23) (by decide +kernel)) rfl
set_option maxRecDepth 100000 in
theorem wd_1798 : Cond.code yX12_buys cX12_buys 5 (some FieldType.int) ∈ lw_t2 := ch_8 (List.mem_of_getElem? (i := 24) rfl) rfl
theorem wd_1799 : Cond.methodLink RL 124 yX12_game ∈ lw_t2 := ch_8 (List.mem_of_getElem? (i := 25) (by decide +kernel)) rfl
theorem wd_1800 : Cond.instanceMethod yX12_game ∈ lw_t2 := ch_8 (List.mem_of_getElem? (i := 26) (by decide +kernel)) rfl
theorem wd_1801 : Cond.selects RX12 yX12_game yX12_game ∈ lw_t2 := ch_8 (List.mem_of_getElem? (i := 27) (by decide +kernel)) rfl
set_option maxRecDepth 100000 in
theorem wd_1802 : Cond.code yX12_game cX12_game 7 (some FieldType.int) ∈ lw_t2 := ch_8 (List.mem_of_getElem? (i := 28) rfl) rfl
theorem wd_1803 : Cond.methodLink RX12 376 yX12_areTwo ∈ lw_t2 := ch_8 (List.mem_of_getElem? (i := 29) (by decide +kernel)) rfl
theorem wd_1805 : Cond.instanceMethod yX12_areTwo ∈ lw_t2 := ch_8 (List.mem_of_getElem? (i := 31) (by decide +kernel)) rfl
set_option maxRecDepth 100000 in
theorem wd_1806 : Cond.code yX12_areTwo cX12_areTwo 4 (some FieldType.boolean) ∈ lw_t2 := ch_8 (List.mem_of_getElem? (i := 32) rfl) rfl
theorem wd_1807 : Cond.methodLink RX12 379 yX12_isGameKind ∈ lw_t2 := ch_8 (List.mem_of_getElem? (i := 33) (by decide +kernel)) rfl
theorem wd_1808 : Cond.static yX12_isGameKind ∈ lw_t2 := ch_8 (List.mem_of_getElem? (i := 34) (by decide +kernel)) rfl
set_option maxRecDepth 100000 in
theorem wd_1809 : Cond.code yX12_isGameKind cX12_isGameKind 1 (some FieldType.boolean) ∈ lw_t2 := ch_8 (List.mem_of_getElem? (i := 35) rfl) rfl
theorem wd_1810 : Cond.constant RX12 382 (-1000000 : Int32) ∈ lw_t2 := ch_8 (List.mem_of_getElem? (i := 36) (by decide +kernel)) rfl
theorem wd_1811 : Cond.methodLink RX12 383 yX12_gameOf ∈ lw_t2 := ch_8 (List.mem_of_getElem? (i := 37) (by decide +kernel)) rfl
theorem wd_1813 : Cond.instanceMethod yX12_gameOf ∈ lw_t2 := ch_8 (List.mem_of_getElem? (i := 39) (by decide +kernel)) rfl
set_option maxRecDepth 100000 in
theorem wd_1814 : Cond.code yX12_gameOf cX12_gameOf 6 (some FieldType.int) ∈ lw_t2 := ch_8 (List.mem_of_getElem? (i := 40) rfl) rfl
theorem wd_1815 : Cond.methodLink RL 129 yX12_rests ∈ lw_t2 := ch_8 (List.mem_of_getElem? (i := 41) (by decide +kernel)) rfl
theorem wd_1816 : Cond.instanceMethod yX12_rests ∈ lw_t2 := ch_8 (List.mem_of_getElem? (i := 42) (by decide +kernel)) rfl
theorem wd_1817 : Cond.selects RX12 yX12_rests yX12_rests ∈ lw_t2 := ch_8 (List.mem_of_getElem? (i := 43) (by decide +kernel)) rfl
set_option maxRecDepth 100000 in
theorem wd_1818 : Cond.code yX12_rests cX12_rests 8 (some FieldType.int) ∈ lw_t2 := ch_8 (List.mem_of_getElem? (i := 44) rfl) rfl
theorem wd_1819 : Cond.methodLink RX12 387 yX12_isRest ∈ lw_t2 := ch_8 (List.mem_of_getElem? (i := 45) (by decide +kernel)) rfl
theorem wd_1821 : Cond.instanceMethod yX12_isRest ∈ lw_t2 := ch_8 (List.mem_of_getElem? (i := 47) (by decide +kernel)) rfl
set_option maxRecDepth 100000 in
theorem wd_1822 : Cond.code yX12_isRest cX12_isRest 7 (some FieldType.boolean) ∈ lw_t2 := ch_8 (List.mem_of_getElem? (i := 48) rfl) rfl
theorem wd_1823 : Cond.methodLink RL 133 yX12_road ∈ lw_t2 := ch_8 (List.mem_of_getElem? (i := 49) (by decide +kernel)) rfl
theorem wd_1824 : Cond.instanceMethod yX12_road ∈ lw_t2 := ch_8 (List.mem_of_getElem? (i := 50) (by decide +kernel)) rfl
theorem wd_1825 : Cond.selects RX12 yX12_road yX12_road ∈ lw_t2 := ch_8 (List.mem_of_getElem? (i := 51) (by decide +kernel)) rfl
set_option maxRecDepth 100000 in
theorem wd_1826 : Cond.code yX12_road cX12_road 2 (some FieldType.int) ∈ lw_t2 := ch_8 (List.mem_of_getElem? (i := 52) rfl) rfl
theorem wd_1827 : Cond.methodLink RX12 390 yX12_roadOf ∈ lw_t2 := ch_8 (List.mem_of_getElem? (i := 53) (by decide +kernel)) rfl
theorem wd_1829 : Cond.instanceMethod yX12_roadOf ∈ lw_t2 := ch_8 (List.mem_of_getElem? (i := 55) (by decide +kernel)) rfl
set_option maxRecDepth 100000 in
theorem wd_1830 : Cond.code yX12_roadOf cX12_roadOf 2 (some FieldType.int) ∈ lw_t2 := ch_8 (List.mem_of_getElem? (i := 56) rfl) rfl
theorem wd_1831 : Cond.methodLink RL 137 yX12_shares ∈ lw_t2 := ch_8 (List.mem_of_getElem? (i := 57) (by decide +kernel)) rfl
theorem wd_1832 : Cond.instanceMethod yX12_shares ∈ lw_t2 := ch_8 (List.mem_of_getElem? (i := 58) (by decide +kernel)) rfl
theorem wd_1833 : Cond.selects RX12 yX12_shares yX12_shares ∈ lw_t2 := ch_8 (List.mem_of_getElem? (i := 59) (by decide +kernel)) rfl
set_option maxRecDepth 100000 in
theorem wd_1834 : Cond.code yX12_shares cX12_shares 4 (some FieldType.int) ∈ lw_t2 := ch_8 (List.mem_of_getElem? (i := 60) rfl) rfl
theorem wd_1835 : Cond.methodLink RX12 396 yX12_useOfAll ∈ lw_t2 := ch_8 (List.mem_of_getElem? (i := 61) (by decide +kernel)) rfl
theorem wd_1837 : Cond.instanceMethod yX12_useOfAll ∈ lw_t2 := ch_8 (List.mem_of_getElem? (i := 63) (by decide +kernel)) rfl
set_option maxRecDepth 100000 in
theorem wd_1838 : Cond.code yX12_useOfAll cX12_useOfAll 3 (some FieldType.int) ∈ lw_t2 := ch_8 (List.mem_of_getElem? (i := 64) rfl) rfl
theorem wd_1839 : Cond.methodLink RX12 393 yX12_useOf ∈ lw_t2 := ch_8 (List.mem_of_getElem? (i := 65) (by decide +kernel)) rfl
theorem wd_1841 : Cond.instanceMethod yX12_useOf ∈ lw_t2 := ch_8 (List.mem_of_getElem? (i := 67) (by decide +kernel)) rfl
set_option maxRecDepth 100000 in
theorem wd_1842 : Cond.code yX12_useOf cX12_useOf 4 (some FieldType.int) ∈ lw_t2 := ch_8 (List.mem_of_getElem? (i := 68) rfl) rfl
theorem wd_1843 : Cond.methodLink RL 170 yX12_toll ∈ lw_t2 := ch_8 (List.mem_of_getElem? (i := 69) (by decide +kernel)) rfl
theorem wd_1844 : Cond.instanceMethod yX12_toll ∈ lw_t2 := ch_8 (List.mem_of_getElem? (i := 70) (by decide +kernel)) rfl
theorem wd_1845 : Cond.selects RX12 yX12_toll yX12_toll ∈ lw_t2 := ch_8 (List.mem_of_getElem? (i := 71) (by decide +kernel)) rfl
set_option maxRecDepth 100000 in
theorem wd_1846 : Cond.code yX12_toll cX12_toll 5 (some FieldType.int) ∈ lw_t2 := ch_8 (List.mem_of_getElem? (i := 72) rfl) rfl
theorem wd_1847 : Cond.methodLink RL 142 yX12_seen ∈ lw_t2 := ch_8 (List.mem_of_getElem? (i := 73) (by decide +kernel)) rfl
theorem wd_1848 : Cond.instanceMethod yX12_seen ∈ lw_t2 := ch_8 (List.mem_of_getElem? (i := 74) (by decide +kernel)) rfl
theorem wd_1849 : Cond.selects RX12 yX12_seen yX12_seen ∈ lw_t2 := ch_8 (List.mem_of_getElem? (i := 75) (by decide +kernel)) rfl
set_option maxRecDepth 100000 in
theorem wd_1850 : Cond.code yX12_seen cX12_seen 3 (some FieldType.int) ∈ lw_t2 := ch_8 (List.mem_of_getElem? (i := 76) rfl) rfl
theorem wd_1851 : Cond.methodLink RL 146 yX12_feigned ∈ lw_t2 := ch_8 (List.mem_of_getElem? (i := 77) (by decide +kernel)) rfl
theorem wd_1852 : Cond.instanceMethod yX12_feigned ∈ lw_t2 := ch_8 (List.mem_of_getElem? (i := 78) (by decide +kernel)) rfl
theorem wd_1853 : Cond.selects RX12 yX12_feigned yX12_feigned ∈ lw_t2 := ch_8 (List.mem_of_getElem? (i := 79) (by decide +kernel)) rfl
set_option maxRecDepth 100000 in
theorem wd_1854 : Cond.code yX12_feigned cX12_feigned 5 (some FieldType.int) ∈ lw_t2 := ch_8 (List.mem_of_getElem? (i := 80) rfl) rfl
theorem wd_1855 : Cond.methodLink RX12 404 yX12_areFeigning ∈ lw_t2 := ch_8 (List.mem_of_getElem? (i := 81) (by decide +kernel)) rfl
theorem wd_1857 : Cond.instanceMethod yX12_areFeigning ∈ lw_t2 := ch_8 (List.mem_of_getElem? (i := 83) (by decide +kernel)) rfl
set_option maxRecDepth 100000 in
theorem wd_1858 : Cond.code yX12_areFeigning cX12_areFeigning 2 (some FieldType.boolean) ∈ lw_t2 := ch_8 (List.mem_of_getElem? (i := 84) rfl) rfl
theorem wd_1859 : Cond.methodLink RX12 407 yX12_isFeigned ∈ lw_t2 := ch_8 (List.mem_of_getElem? (i := 85) (by decide +kernel)) rfl
theorem wd_1861 : Cond.instanceMethod yX12_isFeigned ∈ lw_t2 := ch_8 (List.mem_of_getElem? (i := 87) (by decide +kernel)) rfl
set_option maxRecDepth 100000 in
theorem wd_1862 : Cond.code yX12_isFeigned cX12_isFeigned 5 (some FieldType.boolean) ∈ lw_t2 := ch_8 (List.mem_of_getElem? (i := 88) rfl) rfl
theorem wd_1863 : Cond.methodLink RX12 399 yJ6_bitCount_0f7a4 ∈ lw_t2 := ch_8 (List.mem_of_getElem? (i := 89) (by decide +kernel)) rfl
theorem wd_1864 : Cond.methodLink RL 150 yX12_honest ∈ lw_t2 := ch_8 (List.mem_of_getElem? (i := 90) (by decide +kernel)) rfl
theorem wd_1865 : Cond.instanceMethod yX12_honest ∈ lw_t2 := ch_8 (List.mem_of_getElem? (i := 91) (by decide +kernel)) rfl
theorem wd_1866 : Cond.selects RX12 yX12_honest yX12_honest ∈ lw_t2 := ch_8 (List.mem_of_getElem? (i := 92) (by decide +kernel)) rfl
set_option maxRecDepth 100000 in
theorem wd_1867 : Cond.code yX12_honest cX12_honest 4 (some FieldType.int) ∈ lw_t2 := ch_8 (List.mem_of_getElem? (i := 93) rfl) rfl
theorem wd_1868 : Cond.methodLink RX12 410 yX12_feigned ∈ lw_t2 := ch_8 (List.mem_of_getElem? (i := 94) (by decide +kernel)) rfl
theorem wd_1869 : Cond.methodLink RL 154 yX12_best ∈ lw_t2 := ch_8 (List.mem_of_getElem? (i := 95) (by decide +kernel)) rfl
theorem wd_1870 : Cond.instanceMethod yX12_best ∈ lw_t2 := ch_8 (List.mem_of_getElem? (i := 96) (by decide +kernel)) rfl
theorem wd_1871 : Cond.selects RX12 yX12_best yX12_best ∈ lw_t2 := ch_8 (List.mem_of_getElem? (i := 97) (by decide +kernel)) rfl
set_option maxRecDepth 100000 in
theorem wd_1872 : Cond.code yX12_best cX12_best 7 (some FieldType.int) ∈ lw_t2 := ch_8 (List.mem_of_getElem? (i := 98) rfl) rfl
theorem wd_1873 : Cond.methodLink RX12 413 yJ9_abs_0f7a4 ∈ lw_t2 := ch_8 (List.mem_of_getElem? (i := 99) (by decide +kernel)) rfl
theorem wd_1874 : Cond.methodLink RL 158 yX12_whose ∈ lw_t2 := ch_8 (List.mem_of_getElem? (i := 100) (by decide +kernel)) rfl
theorem wd_1875 : Cond.instanceMethod yX12_whose ∈ lw_t2 := ch_8 (List.mem_of_getElem? (i := 101) (by decide +kernel)) rfl
theorem wd_1876 : Cond.selects RX12 yX12_whose yX12_whose ∈ lw_t2 := ch_8 (List.mem_of_getElem? (i := 102) (by decide +kernel)) rfl
set_option maxRecDepth 100000 in
theorem wd_1877 : Cond.code yX12_whose cX12_whose 6 (some FieldType.int) ∈ lw_t2 := ch_8 (List.mem_of_getElem? (i := 103) rfl) rfl
theorem wd_1878 : Cond.methodLink RL 162 yX12_fails ∈ lw_t2 := ch_8 (List.mem_of_getElem? (i := 104) (by decide +kernel)) rfl
theorem wd_1879 : Cond.instanceMethod yX12_fails ∈ lw_t2 := ch_8 (List.mem_of_getElem? (i := 105) (by decide +kernel)) rfl
theorem wd_1880 : Cond.selects RX12 yX12_fails yX12_fails ∈ lw_t2 := ch_8 (List.mem_of_getElem? (i := 106) (by decide +kernel)) rfl
set_option maxRecDepth 100000 in
theorem wd_1881 : Cond.code yX12_fails cX12_fails 5 (some FieldType.int) ∈ lw_t2 := ch_8 (List.mem_of_getElem? (i := 107) rfl) rfl
theorem wd_1882 : Cond.methodLink RX12 416 yX12_worn ∈ lw_t2 := ch_8 (List.mem_of_getElem? (i := 108) (by decide +kernel)) rfl
theorem wd_1884 : Cond.instanceMethod yX12_worn ∈ lw_t2 := ch_8 (List.mem_of_getElem? (i := 110) (by decide +kernel)) rfl
set_option maxRecDepth 100000 in
theorem wd_1885 : Cond.code yX12_worn cX12_worn 2 (some FieldType.int) ∈ lw_t2 := ch_8 (List.mem_of_getElem? (i := 111) rfl) rfl
theorem wd_1886 : Cond.methodLink RL 166 yX12_odds ∈ lw_t2 := ch_8 (List.mem_of_getElem? (i := 112) (by decide +kernel)) rfl
theorem wd_1887 : Cond.instanceMethod yX12_odds ∈ lw_t2 := ch_8 (List.mem_of_getElem? (i := 113) (by decide +kernel)) rfl
theorem wd_1888 : Cond.selects RX12 yX12_odds yX12_odds ∈ lw_t2 := ch_8 (List.mem_of_getElem? (i := 114) (by decide +kernel)) rfl
set_option maxRecDepth 100000 in
theorem wd_1889 : Cond.code yX12_odds cX12_odds 9 (some FieldType.int) ∈ lw_t2 := ch_8 (List.mem_of_getElem? (i := 115) rfl) rfl
theorem wd_1890 : Cond.constantLong RX12 419 (1000000000 : Int64) ∈ lw_t2 := ch_8 (List.mem_of_getElem? (i := 116) (by decide +kernel)) rfl
theorem wd_1891 : Cond.constantLong RX12 421 (100 : Int64) ∈ lw_t2 := ch_8 (List.mem_of_getElem? (i := 117) (by decide +kernel)) rfl
theorem wd_1892 : Cond.methodLink RL 174 yX12_worst ∈ lw_t2 := ch_8 (List.mem_of_getElem? (i := 118) (by decide +kernel)) rfl
theorem wd_1893 : Cond.instanceMethod yX12_worst ∈ lw_t2 := ch_8 (List.mem_of_getElem? (i := 119) (by decide +kernel)) rfl
theorem wd_1894 : Cond.selects RX12 yX12_worst yX12_worst ∈ lw_t2 := ch_8 (List.mem_of_getElem? (i := 120) (by decide +kernel)) rfl
set_option maxRecDepth 100000 in
theorem wd_1895 : Cond.code yX12_worst cX12_worst 3 (some FieldType.int) ∈ lw_t2 := ch_8 (List.mem_of_getElem? (i := 121) rfl) rfl
theorem wd_1896 : Cond.methodLink RL 178 yX12_ends ∈ lw_t2 := ch_8 (List.mem_of_getElem? (i := 122) (by decide +kernel)) rfl
theorem wd_1897 : Cond.instanceMethod yX12_ends ∈ lw_t2 := ch_8 (List.mem_of_getElem? (i := 123) (by decide +kernel)) rfl
theorem wd_1898 : Cond.selects RX12 yX12_ends yX12_ends ∈ lw_t2 := ch_8 (List.mem_of_getElem? (i := 124) (by decide +kernel)) rfl
set_option maxRecDepth 100000 in
theorem wd_1899 : Cond.code yX12_ends cX12_ends 5 (some FieldType.int) ∈ lw_t2 := ch_8 (List.mem_of_getElem? (i := 125) rfl) rfl
theorem wd_1900 : Cond.methodLink RL 182 yX12_cut ∈ lw_t2 := ch_8 (List.mem_of_getElem? (i := 126) (by decide +kernel)) rfl
theorem wd_1901 : Cond.instanceMethod yX12_cut ∈ lw_t2 := ch_8 (List.mem_of_getElem? (i := 127) (by decide +kernel)) rfl
theorem wd_1902 : Cond.selects RX12 yX12_cut yX12_cut ∈ lw_t2 := ch_8 (List.mem_of_getElem? (i := 128) (by decide +kernel)) rfl
set_option maxRecDepth 100000 in
theorem wd_1903 : Cond.code yX12_cut cX12_cut 3 (some FieldType.int) ∈ lw_t2 := ch_8 (List.mem_of_getElem? (i := 129) rfl) rfl
theorem wd_1904 : Cond.methodLink RX12 423 yX12_reachedBut ∈ lw_t2 := ch_8 (List.mem_of_getElem? (i := 130) (by decide +kernel)) rfl
theorem wd_1906 : Cond.instanceMethod yX12_reachedBut ∈ lw_t2 := ch_8 (List.mem_of_getElem? (i := 132) (by decide +kernel)) rfl
set_option maxRecDepth 100000 in
theorem wd_1907 : Cond.code yX12_reachedBut cX12_reachedBut 5 (some FieldType.int) ∈ lw_t2 := ch_8 (List.mem_of_getElem? (i := 133) rfl) rfl
theorem wd_1908 : Cond.methodLink RL 186 yX12_neighbours ∈ lw_t2 := ch_8 (List.mem_of_getElem? (i := 134) (by decide +kernel)) rfl
theorem wd_1909 : Cond.instanceMethod yX12_neighbours ∈ lw_t2 := ch_8 (List.mem_of_getElem? (i := 135) (by decide +kernel)) rfl
theorem wd_1910 : Cond.selects RX12 yX12_neighbours yX12_neighbours ∈ lw_t2 := ch_8 (List.mem_of_getElem? (i := 136) (by decide +kernel)) rfl
set_option maxRecDepth 100000 in
theorem wd_1911 : Cond.code yX12_neighbours cX12_neighbours 4 (some FieldType.int) ∈ lw_t2 := ch_8 (List.mem_of_getElem? (i := 137) rfl) rfl
theorem wd_1912 : Cond.methodLink RL 190 yX12_image ∈ lw_t2 := ch_8 (List.mem_of_getElem? (i := 138) (by decide +kernel)) rfl
theorem wd_1913 : Cond.instanceMethod yX12_image ∈ lw_t2 := ch_8 (List.mem_of_getElem? (i := 139) (by decide +kernel)) rfl
theorem wd_1914 : Cond.selects RX12 yX12_image yX12_image ∈ lw_t2 := ch_8 (List.mem_of_getElem? (i := 140) (by decide +kernel)) rfl
set_option maxRecDepth 100000 in
theorem wd_1915 : Cond.code yX12_image cX12_image 2 (some FieldType.int) ∈ lw_t2 := ch_8 (List.mem_of_getElem? (i := 141) rfl) rfl
theorem wd_1916 : Cond.methodLink RL 194 yX12_back ∈ lw_t2 := ch_8 (List.mem_of_getElem? (i := 142) (by decide +kernel)) rfl
theorem wd_1917 : Cond.instanceMethod yX12_back ∈ lw_t2 := ch_8 (List.mem_of_getElem? (i := 143) (by decide +kernel)) rfl
theorem wd_1918 : Cond.selects RX12 yX12_back yX12_back ∈ lw_t2 := ch_8 (List.mem_of_getElem? (i := 144) (by decide +kernel)) rfl
set_option maxRecDepth 100000 in
theorem wd_1919 : Cond.code yX12_back cX12_back 2 (some FieldType.int) ∈ lw_t2 := ch_8 (List.mem_of_getElem? (i := 145) rfl) rfl
theorem wd_1920 : Cond.methodLink RL 198 yX12_count ∈ lw_t2 := ch_8 (List.mem_of_getElem? (i := 146) (by decide +kernel)) rfl
theorem wd_1921 : Cond.instanceMethod yX12_count ∈ lw_t2 := ch_8 (List.mem_of_getElem? (i := 147) (by decide +kernel)) rfl
theorem wd_1922 : Cond.selects RX12 yX12_count yX12_count ∈ lw_t2 := ch_8 (List.mem_of_getElem? (i := 148) (by decide +kernel)) rfl
set_option maxRecDepth 100000 in
theorem wd_1923 : Cond.code yX12_count cX12_count 2 (some FieldType.int) ∈ lw_t2 := ch_8 (List.mem_of_getElem? (i := 149) rfl) rfl
theorem wd_1924 : Cond.constantLong RL 85 (4294967295 : Int64) ∈ lw_t2 := ch_8 (List.mem_of_getElem? (i := 150) (by decide +kernel)) rfl
theorem wd_1942 : Cond.arrayClass FieldType.char ∈ lw_t2 := ch_8 (List.mem_of_getElem? (i := 168) (by decide +kernel)) rfl
