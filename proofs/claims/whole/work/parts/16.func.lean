def m_Lab_addLaw : mu_M := (RX0, yX0_addLaw, cX0_addLaw, 2, some .int)
theorem ok_Lab_addLaw : mOKv m_Lab_addLaw 1 := ⟨wd_625, wd_626, wd_103, wd_627, by decide, by decide, by decide +kernel⟩
def m_Lab_beginYear : mu_M := (RX0, yX0_beginYear, cX0_beginYear, 3, none)
theorem ok_Lab_beginYear : mOKv m_Lab_beginYear 0 := ⟨wd_820, wd_20, wd_103, wd_821, by decide, by decide, by decide +kernel⟩
def m_Lab_ownDay : mu_M := (RX0, yX0_ownDay, cX0_ownDay, 7, some .int)
theorem ok_Lab_ownDay : mOKv m_Lab_ownDay 3 := ⟨wd_702, wd_18, wd_103, wd_703, by decide, by decide, by decide +kernel⟩
def m_Lab_effect : mu_M := (RX0, yX0_effect, cX0_effect, 6, some .int)
theorem ok_Lab_effect : mOKv m_Lab_effect 4 := ⟨wd_697, wd_698, wd_103, wd_699, by decide, by decide, by decide +kernel⟩
def m_Lab_canCome : mu_M := (RX0, yX0_canCome, cX0_canCome, 3, some .boolean)
theorem ok_Lab_canCome : mOKv m_Lab_canCome 2 := ⟨wd_692, wd_693, wd_103, wd_694, by decide, by decide, by decide +kernel⟩
def m_Lab_shouldBuy : mu_M := (RX0, yX0_shouldBuy, cX0_shouldBuy, 5, some .boolean)
theorem ok_Lab_shouldBuy : mOKv m_Lab_shouldBuy 1 := ⟨wd_981, wd_27, wd_103, wd_982, by decide, by decide, by decide +kernel⟩
def m_Lab_buyers : mu_M := (RX0, yX0_buyers, cX0_buyers, 3, some .int)
theorem ok_Lab_buyers : mOKv m_Lab_buyers 0 := ⟨wd_976, wd_977, wd_103, wd_978, by decide, by decide, by decide +kernel⟩
def m_Lab_canMeet : mu_M := (RX0, yX0_canMeet, cX0_canMeet, 4, some .boolean)
theorem ok_Lab_canMeet : mOKv m_Lab_canMeet 3 := ⟨wd_988, wd_989, wd_103, wd_990, by decide, by decide, by decide +kernel⟩
def m_Lab_canWork : mu_M := (RX0, yX0_canWork, cX0_canWork, 4, some .boolean)
theorem ok_Lab_canWork : mOKv m_Lab_canWork 3 := ⟨wd_688, wd_689, wd_103, wd_690, by decide, by decide, by decide +kernel⟩
def m_Lab_effectNow : mu_M := (RX0, yX0_effectNow, cX0_effectNow, 4, some .int)
theorem ok_Lab_effectNow : mOKv m_Lab_effectNow 3 := ⟨wd_968, wd_969, wd_103, wd_970, by decide, by decide, by decide +kernel⟩
def m_Lab_doersOf : mu_M := (RX0, yX0_doersOf, cX0_doersOf, 5, some .int)
theorem ok_Lab_doersOf : mOKv m_Lab_doersOf 2 := ⟨wd_1123, wd_1124, wd_103, wd_1125, by decide, by decide, by decide +kernel⟩
def m_Lab_drain : mu_M := (RX0, yX0_drain, cX0_drain, 4, none)
theorem ok_Lab_drain : mOKv m_Lab_drain 1 := ⟨wd_788, wd_789, wd_103, wd_790, by decide, by decide, by decide +kernel⟩
def m_Lab_draw : mu_M := (RX0, yX0_draw, cX0_draw, 2, some .int)
theorem ok_Lab_draw : mOKv m_Lab_draw 1 := ⟨wd_862, wd_23, wd_103, wd_863, by decide, by decide, by decide +kernel⟩
def m_Lab_holdTo : mu_M := (RX0, yX0_holdTo, cX0_holdTo, 2, some .boolean)
theorem ok_Lab_holdTo : mOKv m_Lab_holdTo 1 := ⟨wd_664, wd_665, wd_103, wd_666, by decide, by decide, by decide +kernel⟩
def m_Lab_holding : mu_M := (RX0, yX0_holding, cX0_holding, 1, some .int)
theorem ok_Lab_holding : mOKv m_Lab_holding 0 := ⟨wd_1219, wd_1220, wd_103, wd_1221, by decide, by decide, by decide +kernel⟩
def m_Lab_laws : mu_M := (RX0, yX0_laws, cX0_laws, 1, some .int)
theorem ok_Lab_laws : mOKv m_Lab_laws 0 := ⟨wd_617, wd_618, wd_103, wd_619, by decide, by decide, by decide +kernel⟩
def m_Lab_mostWorth : mu_M := (RX0, yX0_mostWorth, cX0_mostWorth, 5, some .int)
theorem ok_Lab_mostWorth : mOKv m_Lab_mostWorth 1 := ⟨wd_964, wd_965, wd_103, wd_966, by decide, by decide, by decide +kernel⟩
def m_Lab_wornOn : mu_M := (RX0, yX0_wornOn, cX0_wornOn, 5, some .int)
theorem ok_Lab_wornOn : mOKv m_Lab_wornOn 3 := ⟨wd_811, wd_812, wd_103, wd_813, by decide, by decide, by decide +kernel⟩
def m_Lab_passSeason : mu_M := (RX0, yX0_passSeason, cX0_passSeason, 3, none)
theorem ok_Lab_passSeason : mOKv m_Lab_passSeason 0 := ⟨wd_807, wd_808, wd_103, wd_809, by decide, by decide, by decide +kernel⟩
def m_Lab_sow : mu_M := (RX0, yX0_sow, cX0_sow, 3, none)
theorem ok_Lab_sow : mOKv m_Lab_sow 1 := ⟨wd_853, wd_854, wd_103, wd_855, by decide, by decide, by decide +kernel⟩
def m_Lab_workDay : mu_M := (RX0, yX0_workDay, cX0_workDay, 5, none)
theorem ok_Lab_workDay : mOKv m_Lab_workDay 3 := ⟨wd_750, wd_751, wd_103, wd_752, by decide, by decide, by decide +kernel⟩
def m_Lab_workDrawnDays : mu_M := (RX0, yX0_workDrawnDays, cX0_workDrawnDays, 4, none)
theorem ok_Lab_workDrawnDays : mOKv m_Lab_workDrawnDays 0 := ⟨wd_857, wd_858, wd_103, wd_859, by decide, by decide, by decide +kernel⟩
def m_Out_spreadParts : mu_M := (RX3, yX3_spreadParts, cX3_spreadParts, 6, none)
theorem ok_Out_spreadParts : mOKv m_Out_spreadParts 2 := ⟨wd_1153, wd_32, wd_106, wd_1154, by decide, by decide, by decide +kernel⟩
def m_Out_badParts : mu_M := (RX3, yX3_badParts, cX3_badParts, 6, some .int)
theorem ok_Out_badParts : mOKv m_Out_badParts 3 := ⟨wd_1147, wd_1148, wd_106, wd_1149, by decide, by decide, by decide +kernel⟩
def m_Out_foreseeDays : mu_M := (RX3, yX3_foreseeDays, cX3_foreseeDays, 6, none)
theorem ok_Out_foreseeDays : mOKv m_Out_foreseeDays 2 := ⟨wd_913, wd_24, wd_106, wd_914, by decide, by decide, by decide +kernel⟩
def m_Out_foreseeLowest : mu_M := (RX3, yX3_foreseeLowest, cX3_foreseeLowest, 6, none)
theorem ok_Out_foreseeLowest : mOKv m_Out_foreseeLowest 1 := ⟨wd_925, wd_25, wd_106, wd_926, by decide, by decide, by decide +kernel⟩
def m_Out_leastRow : mu_M := (RX3, yX3_leastRow, cX3_leastRow, 7, some .int)
theorem ok_Out_leastRow : mOKv m_Out_leastRow 4 := ⟨wd_929, wd_26, wd_106, wd_930, by decide, by decide, by decide +kernel⟩
def m_Out_fewestDays : mu_M := (RX3, yX3_fewestDays, cX3_fewestDays, 6, some .int)
theorem ok_Out_fewestDays : mOKv m_Out_fewestDays 2 := ⟨wd_904, wd_905, wd_106, wd_906, by decide, by decide, by decide +kernel⟩
def m_Out_seasonsTillFull : mu_M := (RX3, yX3_seasonsTillFull, cX3_seasonsTillFull, 5, some .int)
theorem ok_Out_seasonsTillFull : mOKv m_Out_seasonsTillFull 1 := ⟨wd_1136, wd_1137, wd_106, wd_1138, by decide, by decide, by decide +kernel⟩
def m_Out_firstToFail : mu_M := (RX3, yX3_firstToFail, cX3_firstToFail, 5, some .int)
theorem ok_Out_firstToFail : mOKv m_Out_firstToFail 0 := ⟨wd_1131, wd_1132, wd_106, wd_1133, by decide, by decide, by decide +kernel⟩
def m_Out_ones : mu_M := (RX3, yX3_ones, cX3_ones, 3, some .int)
theorem ok_Out_ones : mOKv m_Out_ones 2 := ⟨wd_1003, wd_1004, wd_106, wd_1005, by decide, by decide, by decide +kernel⟩
def m_Out_others : mu_M := (RX3, yX3_others, cX3_others, 3, some .int)
theorem ok_Out_others : mOKv m_Out_others 2 := ⟨wd_1009, wd_1010, wd_106, wd_1011, by decide, by decide, by decide +kernel⟩
def m_Out_isRest : mu_M := (RX3, yX3_isRest, cX3_isRest, 7, some .boolean)
theorem ok_Out_isRest : mOKv m_Out_isRest 2 := ⟨wd_1024, wd_28, wd_106, wd_1025, by decide, by decide, by decide +kernel⟩
def m_Out_restAt : mu_M := (RX3, yX3_restAt, cX3_restAt, 11, some .int)
theorem ok_Out_restAt : mOKv m_Out_restAt 1 := ⟨wd_1017, wd_1018, wd_106, wd_1019, by decide, by decide, by decide +kernel⟩
def m_Out_setUpGame : mu_M := (RX3, yX3_setUpGame, cX3_setUpGame, 5, none)
theorem ok_Out_setUpGame : mOKv m_Out_setUpGame 3 := ⟨wd_998, wd_999, wd_106, wd_1000, by decide, by decide, by decide +kernel⟩
def m_Roa_reachedWithout : mu_M := (RX7, yX7_reachedWithout, cX7_reachedWithout, 6, some .int)
theorem ok_Roa_reachedWithout : mOKv m_Roa_reachedWithout 1 := ⟨wd_1191, wd_33, wd_104, wd_1192, by decide, by decide, by decide +kernel⟩
def m_Roa_bridges : mu_M := (RX7, yX7_bridges, cX7_bridges, 4, some .int)
theorem ok_Roa_bridges : mOKv m_Roa_bridges 0 := ⟨wd_1186, wd_1187, wd_104, wd_1188, by decide, by decide, by decide +kernel⟩
def m_Roa_deadEnds : mu_M := (RX7, yX7_deadEnds, cX7_deadEnds, 5, some .int)
theorem ok_Roa_deadEnds : mOKv m_Roa_deadEnds 0 := ⟨wd_1177, wd_1178, wd_104, wd_1179, by decide, by decide, by decide +kernel⟩
def m_Roa_reaches : mu_M := (RX7, yX7_reaches, cX7_reaches, 2, some .boolean)
theorem ok_Roa_reaches : mOKv m_Roa_reaches 1 := ⟨wd_948, wd_949, wd_104, wd_950, by decide, by decide, by decide +kernel⟩
def m_Roa_stretchesTo : mu_M := (RX7, yX7_stretchesTo, cX7_stretchesTo, 2, some .int)
theorem ok_Roa_stretchesTo : mOKv m_Roa_stretchesTo 1 := ⟨wd_956, wd_957, wd_104, wd_958, by decide, by decide, by decide +kernel⟩
def m_Roa_roadOf : mu_M := (RX7, yX7_roadOf, cX7_roadOf, 3, some .int)
theorem ok_Roa_roadOf : mOKv m_Roa_roadOf 1 := ⟨wd_1033, wd_1034, wd_104, wd_1035, by decide, by decide, by decide +kernel⟩
def m_Roa_useOf : mu_M := (RX7, yX7_useOf, cX7_useOf, 5, some .int)
theorem ok_Roa_useOf : mOKv m_Roa_useOf 1 := ⟨wd_1049, wd_1050, wd_104, wd_1051, by decide, by decide, by decide +kernel⟩
def m_Roa_mostUsing : mu_M := (RX7, yX7_mostUsing, cX7_mostUsing, 3, some .int)
theorem ok_Roa_mostUsing : mOKv m_Roa_mostUsing 0 := ⟨wd_1161, wd_1162, wd_104, wd_1163, by decide, by decide, by decide +kernel⟩
def m_Roa_mostWorn : mu_M := (RX7, yX7_mostWorn, cX7_mostWorn, 3, some .int)
theorem ok_Roa_mostWorn : mOKv m_Roa_mostWorn 0 := ⟨wd_1169, wd_1170, wd_104, wd_1171, by decide, by decide, by decide +kernel⟩
def m_Roa_spreadFrom : mu_M := (RX7, yX7_spreadFrom, cX7_spreadFrom, 7, none)
theorem ok_Roa_spreadFrom : mOKv m_Roa_spreadFrom 1 := ⟨wd_938, wd_939, wd_104, wd_940, by decide, by decide, by decide +kernel⟩
def m_Roa_touching : mu_M := (RX7, yX7_touching, cX7_touching, 6, some .int)
theorem ok_Roa_touching : mOKv m_Roa_touching 1 := ⟨wd_1198, wd_1199, wd_104, wd_1200, by decide, by decide, by decide +kernel⟩
def m_Roa_useOfAll : mu_M := (RX7, yX7_useOfAll, cX7_useOfAll, 3, some .int)
theorem ok_Roa_useOfAll : mOKv m_Roa_useOfAll 0 := ⟨wd_1044, wd_1045, wd_104, wd_1046, by decide, by decide, by decide +kernel⟩
def m_Roa_wearTo : mu_M := (RX7, yX7_wearTo, cX7_wearTo, 2, some .int)
theorem ok_Roa_wearTo : mOKv m_Roa_wearTo 1 := ⟨wd_952, wd_953, wd_104, wd_954, by decide, by decide, by decide +kernel⟩
def m_Sig_allSets : mu_M := (RX8, yX8_allSets, cX8_allSets, 1, some .int)
theorem ok_Sig_allSets : mOKv m_Sig_allSets 0 := ⟨wd_1064, wd_29, wd_105, wd_1065, by decide, by decide, by decide +kernel⟩
def m_Sig_add : mu_M := (RX8, yX8_add, cX8_add, 3, some .int)
theorem ok_Sig_add : mOKv m_Sig_add 2 := ⟨wd_1059, wd_1060, wd_105, wd_1061, by decide, by decide, by decide +kernel⟩
def m_Sig_fits : mu_M := (RX8, yX8_fits, cX8_fits, 5, some .boolean)
theorem ok_Sig_fits : mOKv m_Sig_fits 2 := ⟨wd_1082, wd_30, wd_105, wd_1083, by decide, by decide, by decide +kernel⟩
def m_Sig_apart : mu_M := (RX8, yX8_apart, cX8_apart, 6, some .int)
theorem ok_Sig_apart : mOKv m_Sig_apart 3 := ⟨wd_1113, wd_31, wd_105, wd_1114, by decide, by decide, by decide +kernel⟩
def m_Sig_canAsk : mu_M := (RX8, yX8_canAsk, cX8_canAsk, 2, some .boolean)
theorem ok_Sig_canAsk : mOKv m_Sig_canAsk 1 := ⟨wd_1072, wd_1073, wd_105, wd_1074, by decide, by decide, by decide +kernel⟩
def m_Sig_fitting : mu_M := (RX8, yX8_fitting, cX8_fitting, 4, some .int)
theorem ok_Sig_fitting : mOKv m_Sig_fitting 1 := ⟨wd_1077, wd_1078, wd_105, wd_1079, by decide, by decide, by decide +kernel⟩
def m_Sig_fittingAt : mu_M := (RX8, yX8_fittingAt, cX8_fittingAt, 5, some .int)
theorem ok_Sig_fittingAt : mOKv m_Sig_fittingAt 2 := ⟨wd_1091, wd_1092, wd_105, wd_1093, by decide, by decide, by decide +kernel⟩
def m_Sig_forget : mu_M := (RX8, yX8_forget, cX8_forget, 1, none)
theorem ok_Sig_forget : mOKv m_Sig_forget 0 := ⟨wd_612, wd_613, wd_105, wd_614, by decide, by decide, by decide +kernel⟩
def m_Sig_inNone : mu_M := (RX8, yX8_inNone, cX8_inNone, 4, some .int)
theorem ok_Sig_inNone : mOKv m_Sig_inNone 1 := ⟨wd_1099, wd_1100, wd_105, wd_1101, by decide, by decide, by decide +kernel⟩
def m_Sig_size : mu_M := (RX8, yX8_size, cX8_size, 1, some .int)
theorem ok_Sig_size : mOKv m_Sig_size 0 := ⟨wd_1236, wd_1237, wd_105, wd_1238, by decide, by decide, by decide +kernel⟩
def m_Sig_toWatch : mu_M := (RX8, yX8_toWatch, cX8_toWatch, 5, some .int)
theorem ok_Sig_toWatch : mOKv m_Sig_toWatch 1 := ⟨wd_1107, wd_1108, wd_105, wd_1109, by decide, by decide, by decide +kernel⟩
def f_Lab_addLaw (N : Nat) (h : mu_H) (p1 : Nat) : Option (Int32 × mu_H) :=
  if h.1 22 4 < 4 then
    gd (ix (h.1 22 4) 4) <|
    bn (24 + 3 * (h.1 22 4).toNatClampNeg) fun o1 =>
    (f_Law_take N h o1 p1).bind fun h2 =>
    bn (ui h2 22 4 ((h2.1 22 4) + 1)) fun h3 =>
    some ((h3.1 22 4) - 1, h3)
  else
    some ((-1), h)
def f_Lab_beginYear_L2 (N : Nat) (rec1 : (Int32 × mu_H) → Option mu_H) : (Int32 × mu_H) → Option mu_H := fun ((x2, h3) : Int32 × mu_H) =>
  (f_Par_houses N h3 3).bind fun x4 =>
  if x4 ≤ x2 then
    some h3
  else
    (f_Sta_debt N h3 14 x2).bind fun x5 =>
    (f_Sta_owed N h3 14 x2).bind fun x6 =>
    bn (x5 + x6) fun x7 =>
    jn (fun (x9 : Int32) =>
      (f_Sta_setDebt N h3 14 x2 x9).bind fun h10 =>
      (f_Par_ofRules N h10 3 0).bind fun x11 =>
      (f_Sta_setOwed N h10 14 x2 x11).bind fun h12 =>
      rec1 (x2 + 1, h12)) fun j8 =>
    if x7 ≤ 999 then
      j8 x7
    else
      j8 999
def f_Lab_beginYear (N : Nat) (h : mu_H) : Option mu_H :=
  lp (f_Lab_beginYear_L2 N) N (0, h)
def f_Lab_ownDay (N : Nat) (h : mu_H) (a1 : Int32) (a2 : Int32) (a3 : Int32) : Option (Int32 × mu_H) :=
  (f_Par_ofHouse N h 3 a1 1).bind fun x1 =>
  (f_Par_stepsTo N h 3 a1 a2).bind fun x2 =>
  bn ((2 * x1) - x2) fun x3 =>
  jn (fun ((x5, h6) : Int32 × mu_H) =>
    if 0 ≤ x5 then
      if x5 ≤ 99 then
        some (x5, h6)
      else
        some (99, h6)
    else
      some (0, h6)) fun j4 =>
  if h.1 22 5 < 0 then
    j4 (x3, h)
  else
    if 4 ≤ h.1 22 5 then
      j4 (x3, h)
    else
      gd (ix 0 6) <|
      bn (ui h 36 (0 : Int32).toNatClampNeg x1) fun h7 =>
      (f_Par_ofHouse N h7 3 a1 2).bind fun x8 =>
      gd (ix 1 6) <|
      bn (ui h7 36 (1 : Int32).toNatClampNeg x8) fun h9 =>
      gd (ix 2 6) <|
      bn (ui h9 36 (2 : Int32).toNatClampNeg x2) fun h10 =>
      gd (ix 3 6) <|
      bn (ui h10 36 (3 : Int32).toNatClampNeg a3) fun h11 =>
      (f_Sta_wet N h11 14 a2).bind fun x12 =>
      gd (ix 4 6) <|
      bn (ui h11 36 (4 : Int32).toNatClampNeg x12) fun h13 =>
      (f_Sta_season N h13 14).bind fun x14 =>
      gd (ix 5 6) <|
      bn (ui h13 36 (5 : Int32).toNatClampNeg (x14 - x14 / 4 * 4)) fun h15 =>
      gd (ix (h15.1 22 5) 4) <|
      bn (24 + 3 * (h15.1 22 5).toNatClampNeg) fun o16 =>
      bi (f_Law_valueFor N h15 o16) fun x17 h18 =>
      j4 (x17, h18)
def f_Lab_effect (N : Nat) (h : mu_H) (a1 : Int32) (a2 : Int32) (a3 : Int32) (a4 : Int32) : Option (Int32 × mu_H) :=
  jn (fun ((x2, h3) : Int32 × mu_H) =>
    jn (fun (x5 : Int32) =>
      (f_Sta_isWinter N h3 14).bind fun x6 =>
      if x6 = 0 then
        some (x5, h3)
      else
        some (x5 / 2, h3)) fun j4 =>
    if a3 = 1 then
      bn (x2 / 2) fun x7 =>
      j4 x7
    else
      j4 x2) fun j1 =>
  if a3 = 2 then
    j1 (8, h)
  else
    if a3 = 3 then
      j1 (0, h)
    else
      bi (f_Lab_ownDay N h a1 a2 a4) fun x8 h9 =>
      j1 (x8, h9)
def f_Lab_canCome (N : Nat) (h : mu_H) (a1 : Int32) (a2 : Int32) : Option Int32 :=
  (f_Par_stepsTo N h 3 a1 a2).bind fun x1 =>
  if x1 = (-1) then
    some 0
  else
    some 1
def f_Lab_shouldBuy_L2 (N : Nat) (a1 : Int32) (rec1 : (Int32 × mu_H) → Option (Int32 × mu_H)) : (Int32 × mu_H) → Option (Int32 × mu_H) := fun ((x2, h3) : Int32 × mu_H) =>
  (f_Par_stretches N h3 3).bind fun x4 =>
  if x4 ≤ x2 then
    some (1, h3)
  else
    (f_Sta_wear N h3 14 x2).bind fun x5 =>
    bi (f_Lab_effect N h3 a1 x2 2 x5) fun x6 h7 =>
    (f_Lab_canCome N h7 a1 x2).bind fun x9 =>
    jn (fun (h11 : mu_H) =>
      rec1 (x2 + 1, h11)) fun j10 =>
    if x9 = 0 then
      j10 h7
    else
      bi (f_Lab_effect N h7 a1 x2 0 x5) fun x12 h13 =>
      if x12 < x6 then
        j10 h13
      else
        some (0, h13)
def f_Lab_shouldBuy (N : Nat) (h : mu_H) (a1 : Int32) : Option (Int32 × mu_H) :=
  lp (f_Lab_shouldBuy_L2 N a1) N (0, h)
def f_Lab_buyers_L4 (N : Nat) (rec1 : (Int32 × Int32 × mu_H) → Option (Int32 × mu_H)) : (Int32 × Int32 × mu_H) → Option (Int32 × mu_H) := fun ((x2, x3, h4) : Int32 × Int32 × mu_H) =>
  (f_Par_houses N h4 3).bind fun x5 =>
  if x5 ≤ x3 then
    some (x2, h4)
  else
    bi (f_Lab_shouldBuy N h4 x3) fun x6 h7 =>
    jn (fun (x10 : Int32) =>
      rec1 (x10, x3 + 1, h7)) fun j9 =>
    if x6 = 0 then
      j9 x2
    else
      bn (x2 ||| ((1 : Int32) <<< (x3 &&& 31))) fun x11 =>
      j9 x11
def f_Lab_buyers (N : Nat) (h : mu_H) : Option (Int32 × mu_H) :=
  lp (f_Lab_buyers_L4 N) N (0, 0, h)
def f_Lab_canMeet (N : Nat) (h : mu_H) (a1 : Int32) (a2 : Int32) (a3 : Int32) : Option Int32 :=
  (f_Par_hasHouse N h 3 a1).bind fun x1 =>
  if x1 = 0 then
    some 0
  else
    (f_Par_hasHouse N h 3 a2).bind fun x2 =>
    if x2 = 0 then
      some 0
    else
      if a1 = a2 then
        some 0
      else
        (f_Par_hasStretch N h 3 a3).bind fun x3 =>
        if x3 = 0 then
          some 0
        else
          (f_Lab_canCome N h a1 a3).bind fun x4 =>
          if x4 = 0 then
            some 0
          else
            (f_Lab_canCome N h a2 a3).bind fun x5 =>
            if x5 = 0 then
              some 0
            else
              some 1
def f_Lab_canWork (N : Nat) (h : mu_H) (a1 : Int32) (a2 : Int32) (a3 : Int32) : Option Int32 :=
  if a3 = 2 then
    some 1
  else
    (f_Lab_canCome N h a1 a2).bind fun x1 =>
    if x1 = 0 then
      some 0
    else
      some 1
def f_Lab_effectNow (N : Nat) (h : mu_H) (a1 : Int32) (a2 : Int32) (a3 : Int32) : Option (Int32 × mu_H) :=
  (f_Sta_wear N h 14 a2).bind fun x1 =>
  bi (f_Lab_effect N h a1 a2 a3 x1) fun x2 h3 =>
  some (x2, h3)
def f_Lab_doersOf_L5 (N : Nat) (a1 : Int32) (a2 : Int32) (rec1 : (Int32 × Int32 × mu_H) → Option (Int32 × mu_H)) : (Int32 × Int32 × mu_H) → Option (Int32 × mu_H) := fun ((x2, x3, h4) : Int32 × Int32 × mu_H) =>
  (f_Par_houses N h4 3).bind fun x5 =>
  if x5 ≤ x3 then
    some (x2, h4)
  else
    (f_Lab_canCome N h4 x3 a1).bind fun x6 =>
    jn (fun ((x8, h9) : Int32 × mu_H) =>
      rec1 (x8, x3 + 1, h9)) fun j7 =>
    if x6 = 0 then
      j7 (x2, h4)
    else
      bi (f_Lab_effectNow N h4 x3 a1 0) fun x10 h11 =>
      jn (fun (h14 : mu_H) =>
        bn (x2 ||| ((1 : Int32) <<< (x3 &&& 31))) fun x15 =>
        j7 (x15, h14)) fun j13 =>
      if x10 = a2 then
        j13 h11
      else
        bi (f_Lab_effectNow N h11 x3 a1 1) fun x16 h17 =>
        if x16 = a2 then
          j13 h17
        else
          j7 (x2, h17)
def f_Lab_doersOf (N : Nat) (h : mu_H) (a1 : Int32) (a2 : Int32) : Option (Int32 × mu_H) :=
  lp (f_Lab_doersOf_L5 N a1 a2) N (0, 0, h)
def f_Lab_drain_L39 (N : Nat) (a1 : Int32) (x1 : Int32) (rec5 : (Int32 × mu_H) → Option mu_H) : (Int32 × mu_H) → Option mu_H := fun ((x6, h7) : Int32 × mu_H) =>
  (f_Par_stretches N h7 3).bind fun x8 =>
  if x8 ≤ x6 then
    some h7
  else
    jn (fun (h10 : mu_H) =>
      rec5 (x6 + 1, h10)) fun j9 =>
    if x6 = a1 then
      j9 h7
    else
      (f_Par_touches N h7 3 x6 x1).bind fun x11 =>
      if x11 = 0 then
        j9 h7
      else
        (f_Sta_wet N h7 14 x6).bind fun x12 =>
        if 9 ≤ x12 then
          j9 h7
        else
          (f_Sta_wet N h7 14 x6).bind fun x13 =>
          (f_Sta_setWet N h7 14 x6 (x13 + 1)).bind fun h14 =>
          j9 h14
def f_Lab_drain (N : Nat) (h : mu_H) (a1 : Int32) : Option mu_H :=
  (f_Par_ofStretch N h 3 a1 1).bind fun x1 =>
  (f_Sta_addToBox N h 14 (-2)).bind fun h2 =>
  (f_Sta_wet N h2 14 a1).bind fun x3 =>
  (f_Sta_setWet N h2 14 a1 (x3 - 1)).bind fun h4 =>
  lp (f_Lab_drain_L39 N a1 x1) N (0, h4)
def f_Lab_draw (N : Nat) (h : mu_H) (a1 : Int32) : Option (Int32 × mu_H) :=
  bn (ul h 22 6 (((h.2 22 6) * 6364136223846793005) + 1442695040888963407)) fun h1 =>
  if 1 ≤ a1 then
    gd (decide (¬ a1.toInt64 = 0)) <|
    some (((((h1.2 22 6).toUInt64 >>> ((33 : Int32).toInt64.toUInt64 &&& Int64.toUInt64 63)).toInt64) - (((h1.2 22 6).toUInt64 >>> ((33 : Int32).toInt64.toUInt64 &&& Int64.toUInt64 63)).toInt64) / a1.toInt64 * a1.toInt64).toInt32, h1)
  else
    some (0, h1)
def f_Lab_holdTo (N : Nat) (h : mu_H) (a1 : Int32) : Option (Int32 × mu_H) :=
  if a1 < (-1) then
    some (0, h)
  else
    if a1 < h.1 22 4 then
      bn (ui h 22 5 a1) fun h1 =>
      some (1, h1)
    else
      some (0, h)
def f_Lab_holding (N : Nat) (h : mu_H) : Option Int32 :=
  some (h.1 22 5)
def f_Lab_laws (N : Nat) (h : mu_H) : Option Int32 :=
  some (h.1 22 4)
def f_Lab_mostWorth_L7 (N : Nat) (a1 : Int32) (rec1 : (Int32 × Int32 × Int32 × mu_H) → Option (Int32 × mu_H)) : (Int32 × Int32 × Int32 × mu_H) → Option (Int32 × mu_H) := fun ((x2, x3, x4, h5) : Int32 × Int32 × Int32 × mu_H) =>
  (f_Par_stretches N h5 3).bind fun x6 =>
  if x6 ≤ x4 then
    some (x3, h5)
  else
    (f_Lab_canCome N h5 a1 x4).bind fun x7 =>
    jn (fun ((x9, x10, h11) : Int32 × Int32 × mu_H) =>
      rec1 (x9, x10, x4 + 1, h11)) fun j8 =>
    if x7 = 0 then
      j8 (x2, x3, h5)
    else
      bi (f_Lab_effectNow N h5 a1 x4 0) fun x12 h13 =>
      if x12 ≤ x2 then
        j8 (x2, x3, h13)
      else
        bi (f_Lab_effectNow N h13 a1 x4 0) fun x15 h16 =>
        j8 (x15, x4, h16)
def f_Lab_mostWorth (N : Nat) (h : mu_H) (a1 : Int32) : Option (Int32 × mu_H) :=
  lp (f_Lab_mostWorth_L7 N a1) N ((-1), (-1), 0, h)
def f_Lab_wornOn (N : Nat) (h : mu_H) (a1 : Int32) (a2 : Int32) (a3 : Int32) : Option Int32 :=
  (f_Par_ofStretch N h 3 a1 4).bind fun x1 =>
  bn (a2 + x1) fun x2 =>
  jn (fun (x4 : Int32) =>
    if x4 ≤ 99 then
      some x4
    else
      some 99) fun j3 =>
  if a3 = 0 then
    j3 x2
  else
    (f_Par_ofRules N h 3 1).bind fun x5 =>
    (f_Sta_wet N h 14 a1).bind fun x6 =>
    bn (x2 + (x5 + x6)) fun x7 =>
    j3 x7
def f_Lab_passSeason_L10 (N : Nat) (x1 : Int32) (k2 : mu_H → Option mu_H) (rec10 : (Int32 × mu_H) → Option mu_H) : (Int32 × mu_H) → Option mu_H := fun ((x11, h12) : Int32 × mu_H) =>
  (f_Par_stretches N h12 3).bind fun x13 =>
  if x13 ≤ x11 then
    k2 h12
  else
    (f_Sta_wear N h12 14 x11).bind fun x14 =>
    (f_Lab_wornOn N h12 x11 x14 x1).bind fun x15 =>
    (f_Sta_setWear N h12 14 x11 x15).bind fun h16 =>
    rec10 (x11 + 1, h16)
def f_Lab_passSeason (N : Nat) (h : mu_H) : Option mu_H :=
  (f_Sta_isWinter N h 14).bind fun x1 =>
  jn (fun (h3 : mu_H) =>
    (f_Sta_nextSeason N h3 14).bind fun h4 =>
    (f_Sta_season N h4 14).bind fun x5 =>
    jn (fun (h7 : mu_H) =>
      (f_Sta_writeLog N h7 14).bind fun h8 =>
      some h8) fun j6 =>
    if x5 - x5 / 4 * 4 = 0 then
      (f_Lab_beginYear N h4).bind fun h9 =>
      j6 h9
    else
      j6 h4) fun k2 =>
  lp (f_Lab_passSeason_L10 N x1 k2) N (0, h)
def f_Lab_sow (N : Nat) (h : mu_H) (a1 : Int64) : Option mu_H :=
  bn (ul h 22 6 a1) fun h1 =>
  some h1
def f_Lab_workDay (N : Nat) (h : mu_H) (a1 : Int32) (a2 : Int32) (a3 : Int32) : Option mu_H :=
  (f_Sta_wear N h 14 a2).bind fun x1 =>
  (f_Sta_wear N h 14 a2).bind fun x2 =>
  bi (f_Lab_effect N h a1 a2 a3 x2) fun x3 h4 =>
  bn (x1 - x3) fun x6 =>
  jn (fun (x8 : Int32) =>
    (f_Sta_setWear N h4 14 a2 x8).bind fun h9 =>
    (f_Sta_owed N h9 14 a1).bind fun x10 =>
    (f_Sta_setOwed N h9 14 a1 (x10 - 1)).bind fun h11 =>
    (f_Sta_countWork N h11 14).bind fun h12 =>
    if a3 = 2 then
      (f_Par_ofRules N h12 3 2).bind fun x13 =>
      (f_Sta_addToBox N h12 14 x13).bind fun h14 =>
      some h14
    else
      some h12) fun j7 =>
  if 0 ≤ x6 then
    j7 x6
  else
    j7 0
def f_Lab_workDrawnDays_L2 (N : Nat) (rec1 : (Int32 × mu_H) → Option mu_H) : (Int32 × mu_H) → Option mu_H := fun ((x2, h3) : Int32 × mu_H) =>
  (f_Par_houses N h3 3).bind fun x4 =>
  if x4 ≤ x2 then
    some h3
  else
    (f_Sta_owed N h3 14 x2).bind fun x5 =>
    jn (fun (h7 : mu_H) =>
      rec1 (x2 + 1, h7)) fun j6 =>
    if x5 ≤ 0 then
      j6 h3
    else
      (f_Par_stretches N h3 3).bind fun x8 =>
      bi (f_Lab_draw N h3 x8) fun x9 h10 =>
      bi (f_Lab_draw N h10 10) fun x12 h13 =>
      (f_Par_ofHouse N h13 3 x2 2).bind fun x15 =>
      jn (fun ((x17, h18) : Int32 × mu_H) =>
        (f_Lab_canCome N h18 x2 x9).bind fun x19 =>
        if x19 = 0 then
          j6 h18
        else
          (f_Lab_workDay N h18 x2 x9 x17).bind fun h20 =>
          j6 h20) fun j16 =>
      if x12 < x15 then
        j16 (0, h13)
      else
        bi (f_Lab_draw N h13 2) fun x21 h22 =>
        jn (fun (x25 : Int32) =>
          j16 (x25, h22)) fun j24 =>
        if x21 = 0 then
          j24 1
        else
          j24 3
def f_Lab_workDrawnDays (N : Nat) (h : mu_H) : Option mu_H :=
  lp (f_Lab_workDrawnDays_L2 N) N (0, h)
def f_Out_spreadParts_L3 (N : Nat) (a1 : Int32) (a2 : Int32) (rec1 : (Int32 × mu_H) → Option mu_H) : (Int32 × mu_H) → Option mu_H := fun ((x2, h3) : Int32 × mu_H) =>
  if x2 < 0 then
    some h3
  else
    gd (ix x2 100) <|
    bn (h3.1 47 x2.toNatClampNeg) fun x4 =>
    bn (((x4.toInt64 * a2.toInt64) / 100).toInt32) fun x5 =>
    gd (ix x2 100) <|
    bn (ui h3 47 x2.toNatClampNeg 0) fun h6 =>
    (f_Lab_wornOn N h6 a1 x2 1).bind fun x7 =>
    gd (ix x7 100) <|
    gd (ix x7 100) <|
    bn (ui h6 47 x7.toNatClampNeg ((h6.1 47 x7.toNatClampNeg) + x5)) fun h8 =>
    (f_Lab_wornOn N h8 a1 x2 0).bind fun x9 =>
    gd (ix x9 100) <|
    gd (ix x9 100) <|
    bn (ui h8 47 x9.toNatClampNeg ((h8.1 47 x9.toNatClampNeg) + (x4 - x5))) fun h10 =>
    rec1 (x2 + (-1), h10)
def f_Out_spreadParts (N : Nat) (h : mu_H) (a1 : Int32) (a2 : Int32) : Option mu_H :=
  lp (f_Out_spreadParts_L3 N a1 a2) N (99, h)
def f_Out_badParts_L51 (h5 : mu_H) (rec6 : (Int32 × Int32) → Option (Int32 × mu_H)) : (Int32 × Int32) → Option (Int32 × mu_H) := fun ((x7, x8) : Int32 × Int32) =>
  if 100 ≤ x8 then
    some (x7, h5)
  else
    gd (ix x8 100) <|
    bn (x7 + (h5.1 47 x8.toNatClampNeg)) fun x9 =>
    rec6 (x9, x8 + 1)
def f_Out_badParts_L26 (N : Nat) (a1 : Int32) (a2 : Int32) (a3 : Int32) (k4 : mu_H → Option (Int32 × mu_H)) (rec10 : (Int32 × mu_H) → Option (Int32 × mu_H)) : (Int32 × mu_H) → Option (Int32 × mu_H) := fun ((x11, h12) : Int32 × mu_H) =>
  if a2 ≤ x11 then
    k4 h12
  else
    (f_Out_spreadParts N h12 a1 a3).bind fun h13 =>
    rec10 (x11 + 1, h13)
def f_Out_badParts (N : Nat) (h : mu_H) (a1 : Int32) (a2 : Int32) (a3 : Int32) : Option (Int32 × mu_H) :=
  (f_Arr_fill N h 47 100 0).bind fun h1 =>
  (f_Sta_wear N h1 14 a1).bind fun x2 =>
  gd (ix x2 100) <|
  bn (ui h1 47 x2.toNatClampNeg 1000000000) fun h3 =>
  jn (fun (h5 : mu_H) =>
    lp (f_Out_badParts_L51 h5) N (0, 60)) fun k4 =>
  lp (f_Out_badParts_L26 N a1 a2 a3 k4) N (0, h3)
def f_Out_foreseeDays_L26 (N : Nat) (a1 : Int32) (x4 : Int32) (k6 : mu_H → Option mu_H) (rec8 : (Int32 × mu_H) → Option mu_H) : (Int32 × mu_H) → Option mu_H := fun ((x9, h10) : Int32 × mu_H) =>
  (f_Par_houses N h10 3).bind fun x11 =>
  if x11 ≤ x9 then
    k6 h10
  else
    gd (ix x4 100) <|
    if 6 ≤ h10.1 45 x4.toNatClampNeg then
      k6 h10
    else
      gd (ix x9 6) <|
      jn (fun (h13 : mu_H) =>
        rec8 (x9 + 1, h13)) fun j12 =>
      if h10.1 43 x9.toNatClampNeg ≤ 0 then
        j12 h10
      else
        bi (f_Lab_effect N h10 x9 a1 0 x4) fun x14 h15 =>
        bn (z_mmax 0 (x4 - x14)) fun x17 =>
        gd (ix ((x9 * 100) + x4) 600) <|
        bn (ui h15 44 ((x9 * 100) + x4).toNatClampNeg x17) fun h18 =>
        gd (ix x17 100) <|
        gd (ix x4 100) <|
        gd (ix x17 100) <|
        bn (ui h18 45 x17.toNatClampNeg (z_mmin (h18.1 45 x17.toNatClampNeg) ((h18.1 45 x4.toNatClampNeg) + 1))) fun h19 =>
        j12 h19
def f_Out_foreseeDays_L19 (N : Nat) (a1 : Int32) (rec3 : (Int32 × mu_H) → Option mu_H) : (Int32 × mu_H) → Option mu_H := fun ((x4, h5) : Int32 × mu_H) =>
  if x4 < 0 then
    some h5
  else
    jn (fun (h7 : mu_H) =>
      rec3 (x4 + (-1), h7)) fun k6 =>
    lp (f_Out_foreseeDays_L26 N a1 x4 k6) N (0, h5)
def f_Out_foreseeDays (N : Nat) (h : mu_H) (a1 : Int32) (a2 : Int32) : Option mu_H :=
  (f_Arr_fill N h 45 100 1000).bind fun h1 =>
  gd (ix a2 100) <|
  bn (ui h1 45 a2.toNatClampNeg 0) fun h2 =>
  lp (f_Out_foreseeDays_L19 N a1) N (a2, h2)
def f_Out_foreseeLowest_L41 (N : Nat) (x4 : Int32) (x9 : Int32) (h10 : mu_H) (k11 : Int32 → Option mu_H) (rec14 : (Int32 × Int32) → Option mu_H) : (Int32 × Int32) → Option mu_H := fun ((x15, x16) : Int32 × Int32) =>
  (f_Par_houses N h10 3).bind fun x17 =>
  if x17 ≤ x16 then
    k11 x15
  else
    gd (ix x9 100) <|
    if 6 < (h10.1 45 x9.toNatClampNeg) + x4 then
      k11 x15
    else
      gd (ix x16 6) <|
      jn (fun (x19 : Int32) =>
        rec14 (x19, x16 + 1)) fun j18 =>
      if h10.1 43 x16.toNatClampNeg ≤ 0 then
        j18 x15
      else
        gd (ix ((x16 * 100) + x9) 600) <|
        gd (ix (((x4 - 1) * 100) + (h10.1 44 ((x16 * 100) + x9).toNatClampNeg)) 700) <|
        bn (z_mmin x15 (h10.1 46 (((x4 - 1) * 100) + (h10.1 44 ((x16 * 100) + x9).toNatClampNeg)).toNatClampNeg)) fun x20 =>
        j18 x20
def f_Out_foreseeLowest_L30 (N : Nat) (a1 : Int32) (x4 : Int32) (k6 : mu_H → Option mu_H) (rec8 : (Int32 × mu_H) → Option mu_H) : (Int32 × mu_H) → Option mu_H := fun ((x9, h10) : Int32 × mu_H) =>
  if a1 < x9 then
    k6 h10
  else
    jn (fun (x12 : Int32) =>
      gd (ix ((x4 * 100) + x9) 700) <|
      bn (ui h10 46 ((x4 * 100) + x9).toNatClampNeg x12) fun h13 =>
      rec8 (x9 + 1, h13)) fun k11 =>
    lp (f_Out_foreseeLowest_L41 N x4 x9 h10 k11) N (x9, 0)
def f_Out_foreseeLowest_L22 (N : Nat) (a1 : Int32) (rec3 : (Int32 × mu_H) → Option mu_H) : (Int32 × mu_H) → Option mu_H := fun ((x4, h5) : Int32 × mu_H) =>
  if 6 < x4 then
    some h5
  else
    jn (fun (h7 : mu_H) =>
      rec3 (x4 + 1, h7)) fun k6 =>
    lp (f_Out_foreseeLowest_L30 N a1 x4 k6) N (0, h5)
def f_Out_foreseeLowest_L2 (a1 : Int32) (k1 : mu_H → Option mu_H) (rec21 : (Int32 × mu_H) → Option mu_H) : (Int32 × mu_H) → Option mu_H := fun ((x22, h23) : Int32 × mu_H) =>
  if a1 < x22 then
    k1 h23
  else
    gd (ix x22 700) <|
    bn (ui h23 46 x22.toNatClampNeg x22) fun h24 =>
    rec21 (x22 + 1, h24)
def f_Out_foreseeLowest (N : Nat) (h : mu_H) (a1 : Int32) : Option mu_H :=
  jn (fun (h2 : mu_H) =>
    lp (f_Out_foreseeLowest_L22 N a1) N (1, h2)) fun k1 =>
  lp (f_Out_foreseeLowest_L2 a1 k1) N (0, h)
def f_Out_leastRow_L27 (N : Nat) (rf : mu_H → Int32 → Int32 → Int32 → Int32 → Option (Int32 × mu_H)) (a1 : Int32) (a2 : Int32) (a3 : Int32) (a4 : Int32) (rec1 : (Int32 × mu_H) → Option (Int32 × mu_H)) : (Int32 × mu_H) → Option (Int32 × mu_H) := fun ((x2, h3) : Int32 × mu_H) =>
  (f_Par_houses N h3 3).bind fun x4 =>
  if x4 ≤ x2 then
    some ((-1), h3)
  else
    gd (ix x2 6) <|
    jn (fun (h6 : mu_H) =>
      rec1 (x2 + 1, h6)) fun j5 =>
    if h3.1 43 x2.toNatClampNeg ≤ 0 then
      j5 h3
    else
      gd (ix x2 6) <|
      gd (ix x2 6) <|
      bn (ui h3 43 x2.toNatClampNeg ((h3.1 43 x2.toNatClampNeg) - 1)) fun h7 =>
      gd (ix ((x2 * 100) + a2) 600) <|
      bi (rf h7 (a1 - 1) (h7.1 44 ((x2 * 100) + a2).toNatClampNeg) a3 ((a4 * 10) + x2)) fun x8 h9 =>
      gd (ix x2 6) <|
      gd (ix x2 6) <|
      bn (ui h9 43 x2.toNatClampNeg ((h9.1 43 x2.toNatClampNeg) + 1)) fun h11 =>
      if x8 = (-1) then
        j5 h11
      else
        some (x8, h11)
def f_Out_leastRow_B (N : Nat) (rf : mu_H → Int32 → Int32 → Int32 → Int32 → Option (Int32 × mu_H)) (h : mu_H) (a1 : Int32) (a2 : Int32) (a3 : Int32) (a4 : Int32) : Option (Int32 × mu_H) :=
  gd (ix ((a1 * 100) + a2) 700) <|
  if h.1 46 ((a1 * 100) + a2).toNatClampNeg ≤ a3 then
    if a1 = 0 then
      some (a4, h)
    else
      lp (f_Out_leastRow_L27 N rf a1 a2 a3 a4) N (0, h)
  else
    some ((-1), h)
def f_Out_leastRow_R (N : Nat) : ((mu_H × Int32 × Int32 × Int32 × Int32) → Option (Int32 × mu_H)) → (mu_H × Int32 × Int32 × Int32 × Int32) → Option (Int32 × mu_H) := fun (rf : (mu_H × Int32 × Int32 × Int32 × Int32) → Option (Int32 × mu_H)) (s : mu_H × Int32 × Int32 × Int32 × Int32) => f_Out_leastRow_B N (fun h a1 a2 a3 a4 => rf (h, a1, a2, a3, a4)) s.1 s.2.1 s.2.2.1 s.2.2.2.1 s.2.2.2.2
def f_Out_leastRow (N : Nat) (h : mu_H) (a1 : Int32) (a2 : Int32) (a3 : Int32) (a4 : Int32) : Option (Int32 × mu_H) := lp (f_Out_leastRow_R N) 10 (h, a1, a2, a3, a4)
def f_Out_fewestDays_L77 (N : Nat) (a2 : Int32) (x1 : Int32) (k6 : (Int32 × Int32 × mu_H) → Option (Int32 × mu_H)) (rec10 : (Int32 × mu_H) → Option (Int32 × mu_H)) : (Int32 × mu_H) → Option (Int32 × mu_H) := fun ((x11, h12) : Int32 × mu_H) =>
  if 6 < x11 then
    some ((-1), h12)
  else
    bi (f_Out_leastRow N h12 x11 x1 a2 0) fun x13 h14 =>
    if x13 = (-1) then
      rec10 (x11 + 1, h14)
    else
      k6 (x11, x13, h14)
def f_Out_fewestDays_L12 (N : Nat) (a1 : Int32) (k2 : mu_H → Option (Int32 × mu_H)) (rec16 : (Int32 × mu_H) → Option (Int32 × mu_H)) : (Int32 × mu_H) → Option (Int32 × mu_H) := fun ((x17, h18) : Int32 × mu_H) =>
  (f_Par_houses N h18 3).bind fun x19 =>
  if x19 ≤ x17 then
    k2 h18
  else
    (f_Lab_canCome N h18 x17 a1).bind fun x20 =>
    jn (fun (x22 : Int32) =>
      gd (ix x17 6) <|
      bn (ui h18 43 x17.toNatClampNeg x22) fun h23 =>
      rec16 (x17 + 1, h23)) fun j21 =>
    if x20 = 0 then
      j21 0
    else
      (f_Sta_owed N h18 14 x17).bind fun x24 =>
      j21 x24
def f_Out_fewestDays (N : Nat) (h : mu_H) (a1 : Int32) (a2 : Int32) : Option (Int32 × mu_H) :=
  (f_Sta_wear N h 14 a1).bind fun x1 =>
  jn (fun (h3 : mu_H) =>
    (f_Out_foreseeDays N h3 a1 x1).bind fun h4 =>
    (f_Out_foreseeLowest N h4 x1).bind fun h5 =>
    jn (fun ((x7, x8, h9) : Int32 × Int32 × mu_H) =>
      some ((x7 * 1000000) + x8, h9)) fun k6 =>
    lp (f_Out_fewestDays_L77 N a2 x1 k6) N (0, h5)) fun k2 =>
  lp (f_Out_fewestDays_L12 N a1 k2) N (0, h)
def f_Out_seasonsTillFull_L11 (N : Nat) (h : mu_H) (a1 : Int32) (rec2 : (Int32 × Int32) → Option Int32) : (Int32 × Int32) → Option Int32 := fun ((x3, x4) : Int32 × Int32) =>
  if 200 < x4 then
    some (-1)
  else
    if x3 < 99 then
      (f_Sta_season N h 14).bind fun x5 =>
      jn (fun (x7 : Int32) =>
        (f_Lab_wornOn N h a1 x3 x7).bind fun x8 =>
        rec2 (x8, x4 + 1)) fun j6 =>
      if (x5 + x4) - (x5 + x4) / 4 * 4 = 3 then
        j6 1
      else
        j6 0
    else
      some x4
def f_Out_seasonsTillFull (N : Nat) (h : mu_H) (a1 : Int32) : Option Int32 :=
  (f_Sta_wear N h 14 a1).bind fun x1 =>
  lp (f_Out_seasonsTillFull_L11 N h a1) N (x1, 0)
def f_Out_firstToFail_L8 (N : Nat) (h : mu_H) (rec1 : (Int32 × Int32 × Int32) → Option Int32) : (Int32 × Int32 × Int32) → Option Int32 := fun ((x2, x3, x4) : Int32 × Int32 × Int32) =>
  (f_Par_stretches N h 3).bind fun x5 =>
  if x5 ≤ x4 then
    some x2
  else
    (f_Out_seasonsTillFull N h x4).bind fun x6 =>
    jn (fun ((x8, x9) : Int32 × Int32) =>
      rec1 (x8, x9, x4 + 1)) fun j7 =>
    if x6 = (-1) then
      j7 (x2, x3)
    else
      if x3 ≤ x6 then
        j7 (x2, x3)
      else
        j7 (x4, x6)
def f_Out_firstToFail (N : Nat) (h : mu_H) : Option Int32 :=
  lp (f_Out_firstToFail_L8 N h) N ((-1), 201, 0)
def f_Out_ones (N : Nat) (h : mu_H) (a1 : Int32) (a2 : Int32) : Option Int32 :=
  gd (ix a1 4) <|
  gd (ix a2 4) <|
  gd (ix a1 4) <|
  some ((((h.1 48 a1.toNatClampNeg) + (h.1 49 a2.toNatClampNeg)) / 2) - (sv_6.getD a1.toNatClampNeg 0))
def f_Out_others (N : Nat) (h : mu_H) (a1 : Int32) (a2 : Int32) : Option Int32 :=
  gd (ix a1 4) <|
  gd (ix a2 4) <|
  gd (ix a2 4) <|
  some ((((h.1 48 a1.toNatClampNeg) + (h.1 49 a2.toNatClampNeg)) / 2) - (sv_6.getD a2.toNatClampNeg 0))
def f_Out_isRest_L11 (N : Nat) (h : mu_H) (a1 : Int32) (a2 : Int32) (rec1 : Int32 → Option Int32) : Int32 → Option Int32 := fun (x2 : Int32) =>
  if 3 ≤ x2 then
    some 1
  else
    gd (ix x2 3) <|
    bn (sv_7.getD x2.toNatClampNeg 0) fun x3 =>
    (f_Out_ones N h x3 a2).bind fun x4 =>
    (f_Out_ones N h a1 a2).bind fun x5 =>
    if x5 < x4 then
      some 0
    else
      (f_Out_others N h a1 x3).bind fun x6 =>
      (f_Out_others N h a1 a2).bind fun x7 =>
      if x6 ≤ x7 then
        rec1 (x2 + 1)
      else
        some 0
def f_Out_isRest (N : Nat) (h : mu_H) (a1 : Int32) (a2 : Int32) : Option Int32 :=
  lp (f_Out_isRest_L11 N h a1 a2) N 0
def f_Out_restAt_L39 (N : Nat) (h : mu_H) (a1 : Int32) (k1 : (Int32 × Int32) → Option Int32) (x9 : Int32) (k10 : Int32 → Option Int32) (rec12 : (Int32 × Int32) → Option Int32) : (Int32 × Int32) → Option Int32 := fun ((x13, x14) : Int32 × Int32) =>
  if 3 ≤ x14 then
    k10 x13
  else
    gd (ix x14 3) <|
    bn (sv_7.getD x14.toNatClampNeg 0) fun x15 =>
    (f_Out_isRest N h x9 x15).bind fun x16 =>
    jn (fun (x18 : Int32) =>
      rec12 (x18, x14 + 1)) fun j17 =>
    if x16 = 0 then
      j17 x13
    else
      if x13 = a1 then
        k1 (x9, x15)
      else
        j17 (x13 + 1)
def f_Out_restAt_L13 (N : Nat) (h : mu_H) (a1 : Int32) (k1 : (Int32 × Int32) → Option Int32) (k4 : Int32 → Option Int32) (rec6 : (Int32 × Int32) → Option Int32) : (Int32 × Int32) → Option Int32 := fun ((x7, x8) : Int32 × Int32) =>
  if 3 ≤ x8 then
    k4 x7
  else
    gd (ix x8 3) <|
    bn (sv_7.getD x8.toNatClampNeg 0) fun x9 =>
    jn (fun (x11 : Int32) =>
      rec6 (x11, x8 + 1)) fun k10 =>
    lp (f_Out_restAt_L39 N h a1 k1 x9 k10) N (x7, 0)
def f_Out_restAt (N : Nat) (h : mu_H) (a1 : Int32) : Option Int32 :=
  jn (fun ((x2, x3) : Int32 × Int32) =>
    some ((10 * x2) + x3)) fun k1 =>
  jn (fun (x5 : Int32) =>
    if a1 = (-1) then
      some x5
    else
      some (-1)) fun k4 =>
  lp (f_Out_restAt_L13 N h a1 k1 k4) N (0, 0)
def f_Out_setUpGame_L3 (N : Nat) (a1 : Int32) (a2 : Int32) (a3 : Int32) (rec1 : (Int32 × mu_H) → Option mu_H) : (Int32 × mu_H) → Option mu_H := fun ((x2, h3) : Int32 × mu_H) =>
  if 4 ≤ x2 then
    some h3
  else
    bi (f_Lab_effectNow N h3 a1 a3 x2) fun x4 h5 =>
    gd (ix x2 4) <|
    bn (ui h5 48 x2.toNatClampNeg x4) fun h7 =>
    bi (f_Lab_effectNow N h7 a2 a3 x2) fun x8 h9 =>
    gd (ix x2 4) <|
    bn (ui h9 49 x2.toNatClampNeg x8) fun h11 =>
    rec1 (x2 + 1, h11)
def f_Out_setUpGame (N : Nat) (h : mu_H) (a1 : Int32) (a2 : Int32) (a3 : Int32) : Option mu_H :=
  lp (f_Out_setUpGame_L3 N a1 a2 a3) N (0, h)
def f_Roa_reachedWithout_L13 (N : Nat) (h : mu_H) (a1 : Int32) (k4 : Int32 → Option Int32) (rec6 : (Int32 × Int32) → Option Int32) : (Int32 × Int32) → Option Int32 := fun ((x7, x8) : Int32 × Int32) =>
  (f_Par_stretches N h 3).bind fun x9 =>
  if x9 ≤ x8 then
    k4 x7
  else
    (f_Par_ofStretch N h 3 x8 0).bind fun x10 =>
    (f_Par_ofStretch N h 3 x8 1).bind fun x11 =>
    bn (((1 : Int32) <<< (x10 &&& 31)) ||| ((1 : Int32) <<< (x11 &&& 31))) fun x12 =>
    jn (fun (x14 : Int32) =>
      rec6 (x14, x8 + 1)) fun j13 =>
    if x8 = a1 then
      j13 x7
    else
      if x7 &&& x12 = 0 then
        j13 x7
      else
        bn (x7 ||| x12) fun x15 =>
        j13 x15
def f_Roa_reachedWithout_L4 (N : Nat) (h : mu_H) (a1 : Int32) (rec1 : (Int32 × Int32) → Option Int32) : (Int32 × Int32) → Option Int32 := fun ((x2, x3) : Int32 × Int32) =>
  if 8 ≤ x3 then
    some x2
  else
    jn (fun (x5 : Int32) =>
      rec1 (x5, x3 + 1)) fun k4 =>
    lp (f_Roa_reachedWithout_L13 N h a1 k4) N (x2, 0)
def f_Roa_reachedWithout (N : Nat) (h : mu_H) (a1 : Int32) : Option Int32 :=
  lp (f_Roa_reachedWithout_L4 N h a1) N (1, 1)
def f_Roa_bridges_L10 (N : Nat) (h : mu_H) (x1 : Int32) (rec2 : (Int32 × Int32) → Option Int32) : (Int32 × Int32) → Option Int32 := fun ((x3, x4) : Int32 × Int32) =>
  (f_Par_stretches N h 3).bind fun x5 =>
  if x5 ≤ x4 then
    some x3
  else
    (f_Roa_reachedWithout N h x4).bind fun x6 =>
    jn (fun (x8 : Int32) =>
      rec2 (x8, x4 + 1)) fun j7 =>
    if x6 = x1 then
      j7 x3
    else
      bn (x3 ||| ((1 : Int32) <<< (x4 &&& 31))) fun x9 =>
      j7 x9
def f_Roa_bridges (N : Nat) (h : mu_H) : Option Int32 :=
  (f_Roa_reachedWithout N h (-1)).bind fun x1 =>
  lp (f_Roa_bridges_L10 N h x1) N (0, 0)
def f_Roa_deadEnds_L15 (N : Nat) (h : mu_H) (x3 : Int32) (k4 : Int32 → Option Int32) (rec9 : (Int32 × Int32) → Option Int32) : (Int32 × Int32) → Option Int32 := fun ((x10, x11) : Int32 × Int32) =>
  (f_Par_stretches N h 3).bind fun x12 =>
  if x12 ≤ x11 then
    k4 x10
  else
    (f_Par_touches N h 3 x11 x3).bind fun x13 =>
    jn (fun (x15 : Int32) =>
      rec9 (x15, x11 + 1)) fun j14 =>
    if x13 = 0 then
      j14 x10
    else
      j14 (x10 + 1)
def f_Roa_deadEnds_L4 (N : Nat) (h : mu_H) (rec1 : (Int32 × Int32) → Option Int32) : (Int32 × Int32) → Option Int32 := fun ((x2, x3) : Int32 × Int32) =>
  if 8 ≤ x3 then
    some x2
  else
    jn (fun (x5 : Int32) =>
      jn (fun (x7 : Int32) =>
        rec1 (x7, x3 + 1)) fun j6 =>
      if x5 = 1 then
        bn (x2 ||| ((1 : Int32) <<< (x3 &&& 31))) fun x8 =>
        j6 x8
      else
        j6 x2) fun k4 =>
    lp (f_Roa_deadEnds_L15 N h x3 k4) N (0, 0)
def f_Roa_deadEnds (N : Nat) (h : mu_H) : Option Int32 :=
  lp (f_Roa_deadEnds_L4 N h) N (0, 0)
def f_Roa_reaches (N : Nat) (h : mu_H) (a1 : Int32) : Option Int32 :=
  gd (ix a1 8) <|
  if 1000000000 ≤ h.1 38 a1.toNatClampNeg then
    some 0
  else
    some 1
def f_Roa_stretchesTo (N : Nat) (h : mu_H) (a1 : Int32) : Option Int32 :=
  gd (ix a1 8) <|
  some ((h.1 38 a1.toNatClampNeg) - (h.1 38 a1.toNatClampNeg) / 512 * 512)
def f_Roa_roadOf (N : Nat) (h : mu_H) (a1 : Int32) : Option Int32 :=
  (f_Par_ofHouse N h 3 a1 0).bind fun x1 =>
  (f_Roa_reaches N h x1).bind fun x2 =>
  if x2 = 0 then
    some 0
  else
    (f_Roa_stretchesTo N h x1).bind fun x3 =>
    some x3
def f_Roa_useOf_L11 (N : Nat) (h : mu_H) (x1 : Int32) (rec2 : (Int32 × Int32) → Option Int32) : (Int32 × Int32) → Option Int32 := fun ((x3, x4) : Int32 × Int32) =>
  (f_Par_stretches N h 3).bind fun x5 =>
  if x5 ≤ x4 then
    some x3
  else
    jn (fun (x7 : Int32) =>
      rec2 (x7, x4 + 1)) fun j6 =>
    if (x1 >>> (x4 &&& 31)) &&& 1 = 0 then
      j6 x3
    else
      (f_Par_ofStretch N h 3 x4 4).bind fun x8 =>
      bn (x3 + x8) fun x9 =>
      j6 x9
def f_Roa_useOf (N : Nat) (h : mu_H) (a1 : Int32) : Option Int32 :=
  (f_Roa_roadOf N h a1).bind fun x1 =>
  lp (f_Roa_useOf_L11 N h x1) N (0, 0)
def f_Roa_mostUsing_L4 (N : Nat) (h : mu_H) (rec1 : (Int32 × Int32) → Option Int32) : (Int32 × Int32) → Option Int32 := fun ((x2, x3) : Int32 × Int32) =>
  (f_Par_houses N h 3).bind fun x4 =>
  if x4 ≤ x3 then
    some x2
  else
    (f_Roa_useOf N h x3).bind fun x5 =>
    (f_Roa_useOf N h x2).bind fun x6 =>
    jn (fun (x8 : Int32) =>
      rec1 (x8, x3 + 1)) fun j7 =>
    if x5 ≤ x6 then
      j7 x2
    else
      j7 x3
def f_Roa_mostUsing (N : Nat) (h : mu_H) : Option Int32 :=
  lp (f_Roa_mostUsing_L4 N h) N (0, 1)
def f_Roa_mostWorn_L4 (N : Nat) (h : mu_H) (rec1 : (Int32 × Int32) → Option Int32) : (Int32 × Int32) → Option Int32 := fun ((x2, x3) : Int32 × Int32) =>
  (f_Par_stretches N h 3).bind fun x4 =>
  if x4 ≤ x3 then
    some x2
  else
    (f_Sta_wear N h 14 x3).bind fun x5 =>
    (f_Sta_wear N h 14 x2).bind fun x6 =>
    jn (fun (x8 : Int32) =>
      rec1 (x8, x3 + 1)) fun j7 =>
    if x5 ≤ x6 then
      j7 x2
    else
      j7 x3
def f_Roa_mostWorn (N : Nat) (h : mu_H) : Option Int32 :=
  lp (f_Roa_mostWorn_L4 N h) N (0, 1)
def f_Roa_spreadFrom_L36 (N : Nat) (k7 : mu_H → Option mu_H) (rec9 : (Int32 × mu_H) → Option mu_H) : (Int32 × mu_H) → Option mu_H := fun ((x10, h11) : Int32 × mu_H) =>
  (f_Par_stretches N h11 3).bind fun x12 =>
  if x12 ≤ x10 then
    k7 h11
  else
    (f_Sta_wear N h11 14 x10).bind fun x13 =>
    bn ((x13 * 512) + ((1 : Int32) <<< (x10 &&& 31))) fun x14 =>
    (f_Par_ofStretch N h11 3 x10 0).bind fun x15 =>
    (f_Par_ofStretch N h11 3 x10 1).bind fun x16 =>
    gd (ix x15 8) <|
    gd (ix x16 8) <|
    gd (ix x15 8) <|
    bn (ui h11 38 x15.toNatClampNeg (z_mmin (h11.1 38 x15.toNatClampNeg) ((h11.1 38 x16.toNatClampNeg) + x14))) fun h17 =>
    gd (ix x16 8) <|
    gd (ix x15 8) <|
    gd (ix x16 8) <|
    bn (ui h17 38 x16.toNatClampNeg (z_mmin (h17.1 38 x16.toNatClampNeg) ((h17.1 38 x15.toNatClampNeg) + x14))) fun h18 =>
    rec9 (x10 + 1, h18)
def f_Roa_spreadFrom_L28 (N : Nat) (rec4 : (Int32 × mu_H) → Option mu_H) : (Int32 × mu_H) → Option mu_H := fun ((x5, h6) : Int32 × mu_H) =>
  if 8 ≤ x5 then
    some h6
  else
    jn (fun (h8 : mu_H) =>
      rec4 (x5 + 1, h8)) fun k7 =>
    lp (f_Roa_spreadFrom_L36 N k7) N (0, h6)
def f_Roa_spreadFrom (N : Nat) (h : mu_H) (a1 : Int32) : Option mu_H :=
  (f_Arr_fill N h 38 8 1000000000).bind fun h1 =>
  jn (fun (h3 : mu_H) =>
    lp (f_Roa_spreadFrom_L28 N) N (1, h3)) fun j2 =>
  if a1 < 0 then
    j2 h1
  else
    if 8 ≤ a1 then
      j2 h1
    else
      gd (ix a1 8) <|
      bn (ui h1 38 a1.toNatClampNeg 0) fun h19 =>
      j2 h19
def f_Roa_touching_L26 (N : Nat) (h : mu_H) (a1 : Int32) (x1 : Int32) (x2 : Int32) (rec3 : (Int32 × Int32) → Option Int32) : (Int32 × Int32) → Option Int32 := fun ((x4, x5) : Int32 × Int32) =>
  (f_Par_stretches N h 3).bind fun x6 =>
  if x6 ≤ x5 then
    some x4
  else
    jn (fun (x8 : Int32) =>
      rec3 (x8, x5 + 1)) fun j7 =>
    if x5 = a1 then
      j7 x4
    else
      (f_Par_touches N h 3 x5 x1).bind fun x9 =>
      jn (fun (_ : Unit) =>
        bn (x4 ||| ((1 : Int32) <<< (x5 &&& 31))) fun x11 =>
        j7 x11) fun j10 =>
      if x9 = 0 then
        (f_Par_touches N h 3 x5 x2).bind fun x12 =>
        if x12 = 0 then
          j7 x4
        else
          j10 ()
      else
        j10 ()
def f_Roa_touching (N : Nat) (h : mu_H) (a1 : Int32) : Option Int32 :=
  (f_Par_ofStretch N h 3 a1 0).bind fun x1 =>
  (f_Par_ofStretch N h 3 a1 1).bind fun x2 =>
  lp (f_Roa_touching_L26 N h a1 x1 x2) N (0, 0)
def f_Roa_useOfAll_L4 (N : Nat) (h : mu_H) (rec1 : (Int32 × Int32) → Option Int32) : (Int32 × Int32) → Option Int32 := fun ((x2, x3) : Int32 × Int32) =>
  (f_Par_houses N h 3).bind fun x4 =>
  if x4 ≤ x3 then
    some x2
  else
    (f_Roa_useOf N h x3).bind fun x5 =>
    bn (x2 + x5) fun x6 =>
    rec1 (x6, x3 + 1)
def f_Roa_useOfAll (N : Nat) (h : mu_H) : Option Int32 :=
  lp (f_Roa_useOfAll_L4 N h) N (0, 0)
def f_Roa_wearTo (N : Nat) (h : mu_H) (a1 : Int32) : Option Int32 :=
  gd (ix a1 8) <|
  some ((h.1 38 a1.toNatClampNeg) / 512)
def f_Sig_allSets (N : Nat) (h : mu_H) : Option Int32 :=
  (f_Par_houses N h 3).bind fun x1 =>
  some ((1 : Int32) <<< (x1 &&& 31))
def f_Sig_add (N : Nat) (h : mu_H) (a1 : Int32) (a2 : Int32) : Option (Int32 × mu_H) :=
  if a1 < 1 then
    some ((-1), h)
  else
    (f_Sig_allSets N h).bind fun x1 =>
    if x1 ≤ a1 then
      some ((-1), h)
    else
      if h.1 39 3 < 10 then
        gd (ix (h.1 39 3) 10) <|
        bn (ui h 40 (h.1 39 3).toNatClampNeg a1) fun h2 =>
        gd (ix (h2.1 39 3) 10) <|
        bn (ui h2 41 (h2.1 39 3).toNatClampNeg (vp_nar .boolean a2)) fun h3 =>
        bn (ui h3 39 3 ((h3.1 39 3) + 1)) fun h4 =>
        some (h4.1 39 3, h4)
      else
        some ((-1), h)
def f_Sig_fits_L12 (h : mu_H) (a1 : Int32) (rec2 : Int32 → Option Int32) : Int32 → Option Int32 := fun (x3 : Int32) =>
  if h.1 39 3 ≤ x3 then
    some 1
  else
    gd (ix x3 10) <|
    jn (fun (x5 : Int32) =>
      gd (ix x3 10) <|
      if x5 = h.1 41 x3.toNatClampNeg then
        rec2 (x3 + 1)
      else
        some 0) fun j4 =>
    if (h.1 40 x3.toNatClampNeg) &&& (a1 ^^^ (-1)) = 0 then
      j4 0
    else
      j4 1
def f_Sig_fits (N : Nat) (h : mu_H) (a1 : Int32) (a2 : Int32) : Option Int32 :=
  (f_Int_bitCount N h a1).bind fun x1 =>
  if x1 = a2 then
    lp (f_Sig_fits_L12 h a1) N 0
  else
    some 0
def f_Sig_apart_L6 (N : Nat) (h : mu_H) (a1 : Int32) (a2 : Int32) (k1 : Int32 → Option Int32) (rec3 : (Int32 × Int32) → Option Int32) : (Int32 × Int32) → Option Int32 := fun ((x4, x5) : Int32 × Int32) =>
  (f_Sig_allSets N h).bind fun x6 =>
  if x6 ≤ x5 then
    k1 x4
  else
    jn (fun (x8 : Int32) =>
      rec3 (x8, x5 + 1)) fun j7 =>
    if (x5 >>> (a1 &&& 31)) &&& 1 = 0 then
      j7 x4
    else
      (f_Sig_fits N h x5 a2).bind fun x9 =>
      if x9 = 0 then
        j7 x4
      else
        j7 (x4 + 1)
def f_Sig_apart (N : Nat) (h : mu_H) (a1 : Int32) (a2 : Int32) (a3 : Int32) : Option Int32 :=
  jn (fun (x2 : Int32) =>
    some (z_mabs (a3 - (2 * x2)))) fun k1 =>
  lp (f_Sig_apart_L6 N h a1 a2 k1) N (0, 0)
def f_Sig_canAsk (N : Nat) (h : mu_H) (a1 : Int32) : Option Int32 :=
  (f_Par_isNone N h 3).bind fun x1 =>
  if x1 = 0 then
    if a1 < 0 then
      some 0
    else
      if 3 < a1 then
        some 0
      else
        some 1
  else
    some 0
def f_Sig_fitting_L4 (N : Nat) (h : mu_H) (a1 : Int32) (rec1 : (Int32 × Int32) → Option Int32) : (Int32 × Int32) → Option Int32 := fun ((x2, x3) : Int32 × Int32) =>
  (f_Sig_allSets N h).bind fun x4 =>
  if x4 ≤ x3 then
    some x2
  else
    (f_Sig_fits N h x3 a1).bind fun x5 =>
    jn (fun (x7 : Int32) =>
      rec1 (x7, x3 + 1)) fun j6 =>
    if x5 = 0 then
      j6 x2
    else
      j6 (x2 + 1)
def f_Sig_fitting (N : Nat) (h : mu_H) (a1 : Int32) : Option Int32 :=
  lp (f_Sig_fitting_L4 N h a1) N (0, 0)
def f_Sig_fittingAt_L5 (N : Nat) (h : mu_H) (a1 : Int32) (rec1 : (Int32 × Int32) → Option Int32) : (Int32 × Int32) → Option Int32 := fun ((x2, x3) : Int32 × Int32) =>
  (f_Sig_allSets N h).bind fun x4 =>
  if x4 ≤ x3 then
    some (-1)
  else
    (f_Sig_fits N h x3 a1).bind fun x5 =>
    jn (fun (x7 : Int32) =>
      rec1 (x7, x3 + 1)) fun j6 =>
    if x5 = 0 then
      j6 x2
    else
      if x2 = 0 then
        some x3
      else
        j6 (x2 + (-1))
def f_Sig_fittingAt (N : Nat) (h : mu_H) (a1 : Int32) (a2 : Int32) : Option Int32 :=
  lp (f_Sig_fittingAt_L5 N h a1) N (a2, 0)
def f_Sig_forget (N : Nat) (h : mu_H) : Option mu_H :=
  bn (ui h 39 3 0) fun h1 =>
  some h1
def f_Sig_inNone_L4 (N : Nat) (h : mu_H) (a1 : Int32) (k1 : Int32 → Option Int32) (rec4 : (Int32 × Int32) → Option Int32) : (Int32 × Int32) → Option Int32 := fun ((x5, x6) : Int32 × Int32) =>
  (f_Sig_allSets N h).bind fun x7 =>
  if x7 ≤ x6 then
    k1 x5
  else
    (f_Sig_fits N h x6 a1).bind fun x8 =>
    jn (fun (x10 : Int32) =>
      rec4 (x10, x6 + 1)) fun j9 =>
    if x8 = 0 then
      j9 x5
    else
      bn (x5 ||| x6) fun x11 =>
      j9 x11
def f_Sig_inNone (N : Nat) (h : mu_H) (a1 : Int32) : Option Int32 :=
  jn (fun (x2 : Int32) =>
    (f_Sig_allSets N h).bind fun x3 =>
    some ((x3 - 1) &&& (x2 ^^^ (-1)))) fun k1 =>
  lp (f_Sig_inNone_L4 N h a1 k1) N (0, 0)
def f_Sig_size (N : Nat) (h : mu_H) : Option Int32 :=
  some (h.1 39 3)
def f_Sig_toWatch_L11 (N : Nat) (h : mu_H) (a1 : Int32) (x1 : Int32) (rec2 : (Int32 × Int32) → Option Int32) : (Int32 × Int32) → Option Int32 := fun ((x3, x4) : Int32 × Int32) =>
  (f_Par_houses N h 3).bind fun x5 =>
  if x5 ≤ x4 then
    some x3
  else
    (f_Sig_apart N h x4 a1 x1).bind fun x6 =>
    (f_Sig_apart N h x3 a1 x1).bind fun x7 =>
    jn (fun (x9 : Int32) =>
      rec2 (x9, x4 + 1)) fun j8 =>
    if x7 ≤ x6 then
      j8 x3
    else
      j8 x4
def f_Sig_toWatch (N : Nat) (h : mu_H) (a1 : Int32) : Option Int32 :=
  (f_Sig_fitting N h a1).bind fun x1 =>
  lp (f_Sig_toWatch_L11 N h a1 x1) N (0, 1)
set_option maxRecDepth 20000 in
theorem cb_Lab_addLaw (X : mu_X) (N : Nat) (h : mu_H) (p1 : Nat) (hp1 : isL p1) : aG X m_Lab_addLaw (rmk 2) (fun _ => ax X) (fun _ _ _ => True) 0 0 (fun r : Int32 × mu_H => qI X r.1 r.2) (f_Lab_addLaw N h p1) 0 [(0, .ref (xa X 22)), (1, .ref (xa X p1))] [] h := by
  unfold f_Lab_addLaw
  refine ro_aload_n (pc := 0) 0 dX0_addLaw_0 rfl rfl ?_
  refine gf_X0_4 (pc := 1) wd_253 dX0_addLaw_1 ?_
  refine ro_iconst (v := 4) (pc := 4) dX0_addLaw_4 (by decide) ?_
  refine ro_icmp_lt (tgt := 10) (pc := 5) dX0_addLaw_5 (by decide) (fun _ => ?_) (fun _ => ?_)
  · skip
    refine ro_aload_n (pc := 10) 0 dX0_addLaw_10 rfl rfl ?_
    refine gf_X0_2 (pc := 11) wd_251 dX0_addLaw_11 ?_
    refine ro_aload_n (pc := 14) 0 dX0_addLaw_14 rfl rfl ?_
    refine gf_X0_4 (pc := 15) wd_253 dX0_addLaw_15 ?_
    refine ro_qaldg (pc := 18) dX0_addLaw_18 (fun _ o1 ho1 => ?_)
    refine ro_aload_n (pc := 19) 1 dX0_addLaw_19 rfl rfl ?_
    refine ro_cvV (pc := 20) (kc := 1) (avs := [.ref (xa X p1)]) (st := []) ok_Law_take wd_628 (isL_0 ho1) (isL_c0 ho1) rfl ⟨by decide, by decide⟩ ⟨Nat.zero_le _, Nat.zero_le _⟩ (c_Law_take X N h o1 ho1 p1 hp1) rfl rfl (Nat.le_of_ble_eq_true rfl) dX0_addLaw_20 (fun h2 => ?_)
    refine ro_aload_n (pc := 23) 0 dX0_addLaw_23 rfl rfl ?_
    refine ro_dup (pc := 24) dX0_addLaw_24 rfl ?_
    refine gf_X0_4 (pc := 25) wd_253 dX0_addLaw_25 ?_
    refine ro_iconst (v := 1) (pc := 28) dX0_addLaw_28 (by decide) ?_
    refine ro_iadd (pc := 29) dX0_addLaw_29 ?_
    refine pf_X0_4 (pc := 30) wd_253 dX0_addLaw_30 ?_
    refine ro_bnh (fun h3 => ?_)
    refine ro_aload_n (pc := 33) 0 dX0_addLaw_33 rfl rfl ?_
    refine gf_X0_4 (pc := 34) wd_253 dX0_addLaw_34 ?_
    refine ro_iconst (v := 1) (pc := 37) dX0_addLaw_37 (by decide) ?_
    refine ro_isub (pc := 38) dX0_addLaw_38 ?_
    exact ro_iret (pc := 39) rfl rfl dX0_addLaw_39
  · skip
    refine ro_iconst (v := (-1)) (pc := 8) dX0_addLaw_8 (by decide) ?_
    exact ro_iret (pc := 9) rfl rfl dX0_addLaw_9
theorem c_Lab_addLaw (X : mu_X) (N : Nat) (h : mu_H) (p1 : Nat) (hp1 : isL p1) : ∀ r, f_Lab_addLaw N h p1 = some r → mI X m_Lab_addLaw 2 [.ref (xa X 22), .ref (xa X p1)] h r.1 r.2 := fun r hr => mI_of (by decide) rfl (Nat.le_of_ble_eq_true rfl) rfl (cb_Lab_addLaw X N h p1 hp1 r hr)
set_option maxRecDepth 20000 in
theorem cb_Lab_beginYear (X : mu_X) (N : Nat) (h : mu_H) : aG X m_Lab_beginYear (rmk 2) (fun _ => ax X) (fun _ _ _ => True) 0 0 (fun r : mu_H => qV X r) (f_Lab_beginYear N h) 0 [(0, .ref (xa X 22))] [] h := by
  unfold f_Lab_beginYear
  refine ro_iconst (v := 0) (pc := 0) dX0_beginYear_0 (by decide) ?_
  refine ro_istore_n (pc := 1) (lv' := [(1, .int 0), (0, .ref (xa X 22))]) dX0_beginYear_1 rfl (by decide) rfl ?_
  refine ro_lv [1, 0] rfl ?_
  refine ro_lp (pc := 2) (lvs := fun (s : Int32 × mu_H) => [(0, .ref (xa X 22)), (1, .int s.1)]) (hs := fun (s : Int32 × mu_H) => s.2) (fun rec1 hrec1 s => ?_) N (0, h)
  obtain ⟨x2, h3⟩ := s; unfold f_Lab_beginYear_L2; try dsimp only
  refine ro_iload_n (pc := 2) 1 dX0_beginYear_2 rfl rfl ?_
  refine ro_aload_n (pc := 3) 0 dX0_beginYear_3 rfl rfl ?_
  refine gf_X0_0 (pc := 4) wd_249 dX0_beginYear_4 ?_
  refine ro_cvP (pc := 7) (kc := 1) (avs := []) (st := [.int x2]) ok_Par_houses wd_822 cl_3 cv_3 rfl ⟨by decide, by decide⟩ ⟨Nat.zero_le _, Nat.zero_le _⟩ (c_Par_houses X N h3 3 isP_i3) rfl rfl (Nat.le_of_ble_eq_true rfl) dX0_beginYear_7 (fun x4 => ?_)
  refine ro_icmp_ge (tgt := 75) (pc := 10) dX0_beginYear_10 (by decide) (fun _ => ?_) (fun _ => ?_)
  · skip
    exact ro_vret (pc := 75) rfl rfl dX0_beginYear_75
  · skip
    refine ro_aload_n (pc := 13) 0 dX0_beginYear_13 rfl rfl ?_
    refine gf_X0_1 (pc := 14) wd_250 dX0_beginYear_14 ?_
    refine ro_iload_n (pc := 17) 1 dX0_beginYear_17 rfl rfl ?_
    refine ro_cvP (pc := 18) (kc := 1) (avs := [.int x2]) (st := []) ok_Sta_debt wd_823 cl_14 cv_14 rfl ⟨by decide, by decide⟩ ⟨Nat.zero_le _, Nat.zero_le _⟩ (c_Sta_debt X N h3 14 isT_i14 x2) rfl rfl (Nat.le_of_ble_eq_true rfl) dX0_beginYear_18 (fun x5 => ?_)
    refine ro_aload_n (pc := 21) 0 dX0_beginYear_21 rfl rfl ?_
    refine gf_X0_1 (pc := 22) wd_250 dX0_beginYear_22 ?_
    refine ro_iload_n (pc := 25) 1 dX0_beginYear_25 rfl rfl ?_
    refine ro_cvP (pc := 26) (kc := 1) (avs := [.int x2]) (st := [.int x5]) ok_Sta_owed wd_759 cl_14 cv_14 rfl ⟨by decide, by decide⟩ ⟨Nat.zero_le _, Nat.zero_le _⟩ (c_Sta_owed X N h3 14 isT_i14 x2) rfl rfl (Nat.le_of_ble_eq_true rfl) dX0_beginYear_26 (fun x6 => ?_)
    refine ro_iadd (pc := 29) dX0_beginYear_29 ?_
    refine ro_bn (fun x7 => ?_)
    refine ro_istore_n (pc := 30) (lv' := [(2, .int x7), (0, .ref (xa X 22)), (1, .int x2)]) dX0_beginYear_30 rfl (by decide) rfl ?_
    refine ro_aload_n (pc := 31) 1 dX0_beginYear_31 rfl rfl ?_
    refine gf_X0_1 (pc := 32) wd_250 dX0_beginYear_32 ?_
    refine ro_iload_n (pc := 35) 2 dX0_beginYear_35 rfl rfl ?_
    refine ro_iload_n (pc := 36) 0 dX0_beginYear_36 rfl rfl ?_
    refine ro_sipush (v := 999) (pc := 37) dX0_beginYear_37 (by decide) ?_
    refine ro_jn (pcj := 50) (lvs := fun (s : Int32) => [(0, .ref (xa X 22)), (1, .int x2)]) (hs := fun (s : Int32) => h3) (sts := fun (s : Int32) => [.int s, .int x2, .ref (xa X 14)]) (fun x9 => ?_) (fun j8 hj8 => ?_)
    · try dsimp only
      refine ro_cvV (pc := 50) (kc := 1) (avs := [.int x2, .int x9]) (st := []) ok_Sta_setDebt wd_827 cl_14 cv_14 rfl ⟨by decide, by decide⟩ ⟨Nat.zero_le _, Nat.zero_le _⟩ (c_Sta_setDebt X N h3 14 isT_i14 x2 x9) rfl rfl (Nat.le_of_ble_eq_true rfl) dX0_beginYear_50 (fun h10 => ?_)
      refine ro_aload_n (pc := 53) 0 dX0_beginYear_53 rfl rfl ?_
      refine gf_X0_1 (pc := 54) wd_250 dX0_beginYear_54 ?_
      refine ro_iload_n (pc := 57) 1 dX0_beginYear_57 rfl rfl ?_
      refine ro_aload_n (pc := 58) 0 dX0_beginYear_58 rfl rfl ?_
      refine gf_X0_0 (pc := 59) wd_249 dX0_beginYear_59 ?_
      refine ro_iconst (v := 0) (pc := 62) dX0_beginYear_62 (by decide) ?_
      refine ro_cvP (pc := 63) (kc := 1) (avs := [.int 0]) (st := [.int x2, .ref (xa X 14)]) ok_Par_ofRules wd_768 cl_3 cv_3 rfl ⟨by decide, by decide⟩ ⟨Nat.zero_le _, Nat.zero_le _⟩ (c_Par_ofRules X N h10 3 isP_i3 0) rfl rfl (Nat.le_of_ble_eq_true rfl) dX0_beginYear_63 (fun x11 => ?_)
      refine ro_cvV (pc := 66) (kc := 1) (avs := [.int x2, .int x11]) (st := []) ok_Sta_setOwed wd_760 cl_14 cv_14 rfl ⟨by decide, by decide⟩ ⟨Nat.zero_le _, Nat.zero_le _⟩ (c_Sta_setOwed X N h10 14 isT_i14 x2 x11) rfl rfl (Nat.le_of_ble_eq_true rfl) dX0_beginYear_66 (fun h12 => ?_)
      refine ro_iinc (pc := 69) (v := x2 + 1) (lv' := [(1, .int (x2 + 1)), (0, .ref (xa X 22))]) 1 dX0_beginYear_69 rfl rfl (by decide) rfl ?_
      refine ro_goto (tgt := 2) (pc := 72) dX0_beginYear_72 (by decide) ?_
      refine ro_lv [1, 0] rfl ?_
      exact hrec1 (x2 + 1, h12)
    · skip
      refine ro_icmp_le (tgt := 49) (pc := 40) dX0_beginYear_40 (by decide) (fun _ => ?_) (fun _ => ?_)
      · skip
        refine ro_iload_n (pc := 49) 0 dX0_beginYear_49 rfl rfl ?_
        refine ro_lv [1, 2] rfl ?_
        exact hj8 x7
      · skip
        refine ro_sipush (v := 999) (pc := 43) dX0_beginYear_43 (by decide) ?_
        refine ro_goto (tgt := 50) (pc := 46) dX0_beginYear_46 (by decide) ?_
        refine ro_lv [1, 2] rfl ?_
        exact hj8 999
theorem c_Lab_beginYear (X : mu_X) (N : Nat) (h : mu_H) : ∀ r, f_Lab_beginYear N h = some r → mV X m_Lab_beginYear 2 [.ref (xa X 22)] h r := fun r hr => mV_of (by decide) rfl (Nat.le_of_ble_eq_true rfl) rfl (cb_Lab_beginYear X N h r hr)
set_option maxRecDepth 20000 in
theorem cb_Lab_ownDay (X : mu_X) (N : Nat) (h : mu_H) (a1 : Int32) (a2 : Int32) (a3 : Int32) : aG X m_Lab_ownDay (rmk 4) (fun _ => ax X) (fun _ _ _ => True) 0 0 (fun r : Int32 × mu_H => qI X r.1 r.2) (f_Lab_ownDay N h a1 a2 a3) 0 [(0, .ref (xa X 22)), (1, .int a1), (2, .int a2), (3, .int a3)] [] h := by
  unfold f_Lab_ownDay
  refine ro_aload_n (pc := 0) 0 dX0_ownDay_0 rfl rfl ?_
  refine gf_X0_0 (pc := 1) wd_249 dX0_ownDay_1 ?_
  refine ro_iload_n (pc := 4) 1 dX0_ownDay_4 rfl rfl ?_
  refine ro_iconst (v := 1) (pc := 5) dX0_ownDay_5 (by decide) ?_
  refine ro_cvP (pc := 6) (kc := 1) (avs := [.int a1, .int 1]) (st := []) ok_Par_ofHouse wd_704 cl_3 cv_3 rfl ⟨by decide, by decide⟩ ⟨Nat.zero_le _, Nat.zero_le _⟩ (c_Par_ofHouse X N h 3 isP_i3 a1 1) rfl rfl (Nat.le_of_ble_eq_true rfl) dX0_ownDay_6 (fun x1 => ?_)
  refine ro_istore (pc := 9) (lv' := [(4, .int x1), (0, .ref (xa X 22)), (1, .int a1), (2, .int a2), (3, .int a3)]) dX0_ownDay_9 (by decide) rfl ?_
  refine ro_aload_n (pc := 11) 1 dX0_ownDay_11 rfl rfl ?_
  refine gf_X0_0 (pc := 12) wd_249 dX0_ownDay_12 ?_
  refine ro_iload_n (pc := 15) 2 dX0_ownDay_15 rfl rfl ?_
  refine ro_iload_n (pc := 16) 3 dX0_ownDay_16 rfl rfl ?_
  refine ro_cvP (pc := 17) (kc := 2) (avs := [.int a1, .int a2]) (st := []) ok_Par_stepsTo wd_695 cl_3 cv_3 rfl ⟨by decide, by decide⟩ ⟨Nat.zero_le _, Nat.zero_le _⟩ (c_Par_stepsTo X N h 3 isP_i3 a1 a2) rfl rfl (Nat.le_of_ble_eq_true rfl) dX0_ownDay_17 (fun x2 => ?_)
  refine ro_istore (pc := 20) (lv' := [(5, .int x2), (4, .int x1), (0, .ref (xa X 22)), (1, .int a1), (2, .int a2), (3, .int a3)]) dX0_ownDay_20 (by decide) rfl ?_
  refine ro_iconst (v := 2) (pc := 22) dX0_ownDay_22 (by decide) ?_
  refine ro_iload (pc := 23) 1 dX0_ownDay_23 rfl ?_
  refine ro_imul (pc := 25) dX0_ownDay_25 ?_
  refine ro_iload (pc := 26) 0 dX0_ownDay_26 rfl ?_
  refine ro_isub (pc := 28) dX0_ownDay_28 ?_
  refine ro_bn (fun x3 => ?_)
  refine ro_istore (pc := 29) (lv' := [(6, .int x3), (5, .int x2), (4, .int x1), (0, .ref (xa X 22)), (1, .int a1), (2, .int a2), (3, .int a3)]) dX0_ownDay_29 (by decide) rfl ?_
  refine ro_aload_n (pc := 31) 3 dX0_ownDay_31 rfl rfl ?_
  refine gf_X0_5 (pc := 32) wd_254 dX0_ownDay_32 ?_
  refine ro_jn (pcj := 131) (lvs := fun (s : Int32 × mu_H) => [(6, .int s.1)]) (hs := fun (s : Int32 × mu_H) => s.2) (sts := fun (s : Int32 × mu_H) => []) (fun s => ?_) (fun j4 hj4 => ?_)
  · obtain ⟨x5, h6⟩ := s; try dsimp only
    refine ro_iload (pc := 131) 0 dX0_ownDay_131 rfl ?_
    refine ro_if_ge (tgt := 138) (pc := 133) dX0_ownDay_133 (by decide) (fun _ => ?_) (fun _ => ?_)
    · skip
      refine ro_iload (pc := 138) 0 dX0_ownDay_138 rfl ?_
      refine ro_bipush (v := 99) (pc := 140) dX0_ownDay_140 (by decide) ?_
      refine ro_icmp_le (tgt := 150) (pc := 142) dX0_ownDay_142 (by decide) (fun _ => ?_) (fun _ => ?_)
      · skip
        refine ro_iload (pc := 150) 0 dX0_ownDay_150 rfl ?_
        exact ro_iret (pc := 152) rfl rfl dX0_ownDay_152
      · skip
        refine ro_bipush (v := 99) (pc := 145) dX0_ownDay_145 (by decide) ?_
        refine ro_goto (tgt := 152) (pc := 147) dX0_ownDay_147 (by decide) ?_
        exact ro_iret (pc := 152) rfl rfl dX0_ownDay_152
    · skip
      refine ro_iconst (v := 0) (pc := 136) dX0_ownDay_136 (by decide) ?_
      exact ro_iret (pc := 137) rfl rfl dX0_ownDay_137
  · skip
    refine ro_if_lt (tgt := 131) (pc := 35) dX0_ownDay_35 (by decide) (fun _ => ?_) (fun _ => ?_)
    · skip
      refine ro_lv [0] rfl ?_
      exact hj4 (x3, h)
    · skip
      refine ro_aload_n (pc := 38) 3 dX0_ownDay_38 rfl rfl ?_
      refine gf_X0_5 (pc := 39) wd_254 dX0_ownDay_39 ?_
      refine ro_iconst (v := 4) (pc := 42) dX0_ownDay_42 (by decide) ?_
      refine ro_icmp_ge (tgt := 131) (pc := 43) dX0_ownDay_43 (by decide) (fun _ => ?_) (fun _ => ?_)
      · skip
        refine ro_lv [0] rfl ?_
        exact hj4 (x3, h)
      · skip
        refine ro_aload_n (pc := 46) 3 dX0_ownDay_46 rfl rfl ?_
        refine gf_X0_3 (pc := 47) wd_252 dX0_ownDay_47 ?_
        refine ro_iconst (v := 0) (pc := 50) dX0_ownDay_50 (by decide) ?_
        refine ro_iload (pc := 51) 2 dX0_ownDay_51 rfl ?_
        refine ro_iast (pc := 53) (n := 6) cl_36 cv_36 dX0_ownDay_53 ?_
        refine ro_bnh (fun h7 => ?_)
        refine ro_aload_n (pc := 54) 3 dX0_ownDay_54 rfl rfl ?_
        refine gf_X0_3 (pc := 55) wd_252 dX0_ownDay_55 ?_
        refine ro_iconst (v := 1) (pc := 58) dX0_ownDay_58 (by decide) ?_
        refine ro_aload_n (pc := 59) 3 dX0_ownDay_59 rfl rfl ?_
        refine gf_X0_0 (pc := 60) wd_249 dX0_ownDay_60 ?_
        refine ro_iload_n (pc := 63) 4 dX0_ownDay_63 rfl rfl ?_
        refine ro_iconst (v := 2) (pc := 64) dX0_ownDay_64 (by decide) ?_
        refine ro_cvP (pc := 65) (kc := 1) (avs := [.int a1, .int 2]) (st := [.int 1, .ref (xa X 36)]) ok_Par_ofHouse wd_704 cl_3 cv_3 rfl ⟨by decide, by decide⟩ ⟨Nat.zero_le _, Nat.zero_le _⟩ (c_Par_ofHouse X N h7 3 isP_i3 a1 2) rfl rfl (Nat.le_of_ble_eq_true rfl) dX0_ownDay_65 (fun x8 => ?_)
        refine ro_iast (pc := 68) (n := 6) cl_36 cv_36 dX0_ownDay_68 ?_
        refine ro_bnh (fun h9 => ?_)
        refine ro_aload_n (pc := 69) 3 dX0_ownDay_69 rfl rfl ?_
        refine gf_X0_3 (pc := 70) wd_252 dX0_ownDay_70 ?_
        refine ro_iconst (v := 2) (pc := 73) dX0_ownDay_73 (by decide) ?_
        refine ro_iload (pc := 74) 1 dX0_ownDay_74 rfl ?_
        refine ro_iast (pc := 76) (n := 6) cl_36 cv_36 dX0_ownDay_76 ?_
        refine ro_bnh (fun h10 => ?_)
        refine ro_aload_n (pc := 77) 3 dX0_ownDay_77 rfl rfl ?_
        refine gf_X0_3 (pc := 78) wd_252 dX0_ownDay_78 ?_
        refine ro_iconst (v := 3) (pc := 81) dX0_ownDay_81 (by decide) ?_
        refine ro_iload_n (pc := 82) 6 dX0_ownDay_82 rfl rfl ?_
        refine ro_iast (pc := 83) (n := 6) cl_36 cv_36 dX0_ownDay_83 ?_
        refine ro_bnh (fun h11 => ?_)
        refine ro_aload_n (pc := 84) 3 dX0_ownDay_84 rfl rfl ?_
        refine gf_X0_3 (pc := 85) wd_252 dX0_ownDay_85 ?_
        refine ro_iconst (v := 4) (pc := 88) dX0_ownDay_88 (by decide) ?_
        refine ro_aload_n (pc := 89) 3 dX0_ownDay_89 rfl rfl ?_
        refine gf_X0_1 (pc := 90) wd_250 dX0_ownDay_90 ?_
        refine ro_iload_n (pc := 93) 5 dX0_ownDay_93 rfl rfl ?_
        refine ro_cvP (pc := 94) (kc := 1) (avs := [.int a2]) (st := [.int 4, .ref (xa X 36)]) ok_Sta_wet wd_705 cl_14 cv_14 rfl ⟨by decide, by decide⟩ ⟨Nat.zero_le _, Nat.zero_le _⟩ (c_Sta_wet X N h11 14 isT_i14 a2) rfl rfl (Nat.le_of_ble_eq_true rfl) dX0_ownDay_94 (fun x12 => ?_)
        refine ro_iast (pc := 97) (n := 6) cl_36 cv_36 dX0_ownDay_97 ?_
        refine ro_bnh (fun h13 => ?_)
        refine ro_aload_n (pc := 98) 3 dX0_ownDay_98 rfl rfl ?_
        refine gf_X0_3 (pc := 99) wd_252 dX0_ownDay_99 ?_
        refine ro_iconst (v := 5) (pc := 102) dX0_ownDay_102 (by decide) ?_
        refine ro_aload_n (pc := 103) 3 dX0_ownDay_103 rfl rfl ?_
        refine gf_X0_1 (pc := 104) wd_250 dX0_ownDay_104 ?_
        refine ro_cvP (pc := 107) (kc := 1) (avs := []) (st := [.int 5, .ref (xa X 36)]) ok_Sta_season wd_706 cl_14 cv_14 rfl ⟨by decide, by decide⟩ ⟨Nat.zero_le _, Nat.zero_le _⟩ (c_Sta_season X N h13 14 isT_i14) rfl rfl (Nat.le_of_ble_eq_true rfl) dX0_ownDay_107 (fun x14 => ?_)
        refine ro_iconst (v := 4) (pc := 110) dX0_ownDay_110 (by decide) ?_
        refine ro_irem (pc := 111) dX0_ownDay_111 (by decide) ?_
        refine ro_iast (pc := 112) (n := 6) cl_36 cv_36 dX0_ownDay_112 ?_
        refine ro_bnh (fun h15 => ?_)
        refine ro_aload_n (pc := 113) 3 dX0_ownDay_113 rfl rfl ?_
        refine gf_X0_2 (pc := 114) wd_251 dX0_ownDay_114 ?_
        refine ro_aload_n (pc := 117) 3 dX0_ownDay_117 rfl rfl ?_
        refine gf_X0_5 (pc := 118) wd_254 dX0_ownDay_118 ?_
        refine ro_qaldg (pc := 121) dX0_ownDay_121 (fun _ o16 ho16 => ?_)
        refine ro_aload_n (pc := 122) 3 dX0_ownDay_122 rfl rfl ?_
        refine gf_X0_3 (pc := 123) wd_252 dX0_ownDay_123 ?_
        refine ro_cvI (pc := 126) (kc := 3) (avs := [.ref (xa X 36)]) (st := []) ok_Law_valueFor wd_710 (isL_0 ho16) (isL_c0 ho16) rfl ⟨by decide, by decide⟩ ⟨Nat.zero_le _, Nat.zero_le _⟩ (c_Law_valueFor X N h15 o16 ho16) rfl rfl (Nat.le_of_ble_eq_true rfl) dX0_ownDay_126 (fun x17 h18 => ?_)
        refine ro_istore (pc := 129) (lv' := [(6, .int x17), (5, .int x2), (4, .int x1), (0, .ref (xa X 22)), (1, .int a1), (2, .int a2), (3, .int a3)]) dX0_ownDay_129 (by decide) rfl ?_
        refine ro_lv [0] rfl ?_
        exact hj4 (x17, h18)
theorem c_Lab_ownDay (X : mu_X) (N : Nat) (h : mu_H) (a1 : Int32) (a2 : Int32) (a3 : Int32) : ∀ r, f_Lab_ownDay N h a1 a2 a3 = some r → mI X m_Lab_ownDay 4 [.ref (xa X 22), .int a1, .int a2, .int a3] h r.1 r.2 := fun r hr => mI_of (by decide) rfl (Nat.le_of_ble_eq_true rfl) rfl (cb_Lab_ownDay X N h a1 a2 a3 r hr)
set_option maxRecDepth 20000 in
theorem cb_Lab_effect (X : mu_X) (N : Nat) (h : mu_H) (a1 : Int32) (a2 : Int32) (a3 : Int32) (a4 : Int32) : aG X m_Lab_effect (rmk 5) (fun _ => ax X) (fun _ _ _ => True) 0 0 (fun r : Int32 × mu_H => qI X r.1 r.2) (f_Lab_effect N h a1 a2 a3 a4) 0 [(0, .ref (xa X 22)), (1, .int a1), (2, .int a2), (3, .int a3), (4, .int a4)] [] h := by
  unfold f_Lab_effect
  refine ro_iconst (v := 0) (pc := 0) dX0_effect_0 (by decide) ?_
  refine ro_istore (pc := 1) (lv' := [(5, .int 0), (0, .ref (xa X 22)), (1, .int a1), (2, .int a2), (3, .int a3), (4, .int a4)]) dX0_effect_1 (by decide) rfl ?_
  refine ro_iload_n (pc := 3) 4 dX0_effect_3 rfl rfl ?_
  refine ro_iconst (v := 2) (pc := 4) dX0_effect_4 (by decide) ?_
  refine ro_jn (pcj := 30) (lvs := fun (s : Int32 × mu_H) => [(0, .ref (xa X 22)), (3, .int a3), (5, .int s.1)]) (hs := fun (s : Int32 × mu_H) => s.2) (sts := fun (s : Int32 × mu_H) => []) (fun s => ?_) (fun j1 hj1 => ?_)
  · obtain ⟨x2, h3⟩ := s; try dsimp only
    refine ro_iload_n (pc := 30) 1 dX0_effect_30 rfl rfl ?_
    refine ro_iconst (v := 1) (pc := 31) dX0_effect_31 (by decide) ?_
    refine ro_jn (pcj := 41) (lvs := fun (s : Int32) => [(0, .ref (xa X 22)), (5, .int s)]) (hs := fun (s : Int32) => h3) (sts := fun (s : Int32) => []) (fun x5 => ?_) (fun j4 hj4 => ?_)
    · try dsimp only
      refine ro_aload_n (pc := 41) 0 dX0_effect_41 rfl rfl ?_
      refine gf_X0_1 (pc := 42) wd_250 dX0_effect_42 ?_
      refine ro_cvP (pc := 45) (kc := 1) (avs := []) (st := []) ok_Sta_isWinter wd_724 cl_14 cv_14 rfl ⟨by decide, by decide⟩ ⟨Nat.zero_le _, Nat.zero_le _⟩ (c_Sta_isWinter X N h3 14 isT_i14) rfl rfl (Nat.le_of_ble_eq_true rfl) dX0_effect_45 (fun x6 => ?_)
      refine ro_if_eq (tgt := 58) (pc := 48) dX0_effect_48 (by decide) (fun _ => ?_) (fun _ => ?_)
      · skip
        refine ro_iload (pc := 58) 1 dX0_effect_58 rfl ?_
        exact ro_iret (pc := 60) rfl rfl dX0_effect_60
      · skip
        refine ro_iload (pc := 51) 1 dX0_effect_51 rfl ?_
        refine ro_iconst (v := 2) (pc := 53) dX0_effect_53 (by decide) ?_
        refine ro_idiv (pc := 54) dX0_effect_54 (by decide) ?_
        refine ro_goto (tgt := 60) (pc := 55) dX0_effect_55 (by decide) ?_
        exact ro_iret (pc := 60) rfl rfl dX0_effect_60
    · skip
      refine ro_icmp_ne (tgt := 41) (pc := 32) dX0_effect_32 (by decide) (fun _ => ?_) (fun _ => ?_)
      · skip
        refine ro_lv [0, 2] rfl ?_
        exact hj4 x2
      · skip
        refine ro_iload (pc := 35) 2 dX0_effect_35 rfl ?_
        refine ro_iconst (v := 2) (pc := 37) dX0_effect_37 (by decide) ?_
        refine ro_idiv (pc := 38) dX0_effect_38 (by decide) ?_
        refine ro_bn (fun x7 => ?_)
        refine ro_istore (pc := 39) (lv' := [(5, .int x7), (0, .ref (xa X 22)), (3, .int a3)]) dX0_effect_39 (by decide) rfl ?_
        refine ro_lv [1, 0] rfl ?_
        exact hj4 x7
  · skip
    refine ro_icmp_ne (tgt := 15) (pc := 5) dX0_effect_5 (by decide) (fun _ => ?_) (fun _ => ?_)
    · skip
      refine ro_iload_n (pc := 15) 4 dX0_effect_15 rfl rfl ?_
      refine ro_iconst (v := 3) (pc := 16) dX0_effect_16 (by decide) ?_
      refine ro_icmp_eq (tgt := 30) (pc := 17) dX0_effect_17 (by decide) (fun _ => ?_) (fun _ => ?_)
      · skip
        refine ro_lv [1, 4, 0] rfl ?_
        exact hj1 (0, h)
      · skip
        refine ro_aload_n (pc := 20) 1 dX0_effect_20 rfl rfl ?_
        refine ro_iload_n (pc := 21) 2 dX0_effect_21 rfl rfl ?_
        refine ro_iload_n (pc := 22) 3 dX0_effect_22 rfl rfl ?_
        refine ro_iload (pc := 23) 5 dX0_effect_23 rfl ?_
        refine ro_cvI (pc := 25) (kc := 4) (avs := [.int a1, .int a2, .int a4]) (st := []) ok_Lab_ownDay wd_700 cl_22 cv_22 rfl ⟨by decide, by decide⟩ ⟨Nat.zero_le _, Nat.zero_le _⟩ (c_Lab_ownDay X N h a1 a2 a4) rfl rfl (Nat.le_of_ble_eq_true rfl) dX0_effect_25 (fun x8 h9 => ?_)
        refine ro_istore (pc := 28) (lv' := [(5, .int x8), (0, .ref (xa X 22)), (1, .int a1), (2, .int a2), (3, .int a3), (4, .int a4)]) dX0_effect_28 (by decide) rfl ?_
        refine ro_lv [1, 4, 0] rfl ?_
        exact hj1 (x8, h9)
    · skip
      refine ro_bipush (v := 8) (pc := 8) dX0_effect_8 (by decide) ?_
      refine ro_istore (pc := 10) (lv' := [(5, .int 8), (0, .ref (xa X 22)), (1, .int a1), (2, .int a2), (3, .int a3), (4, .int a4)]) dX0_effect_10 (by decide) rfl ?_
      refine ro_goto (tgt := 30) (pc := 12) dX0_effect_12 (by decide) ?_
      refine ro_lv [1, 4, 0] rfl ?_
      exact hj1 (8, h)
theorem c_Lab_effect (X : mu_X) (N : Nat) (h : mu_H) (a1 : Int32) (a2 : Int32) (a3 : Int32) (a4 : Int32) : ∀ r, f_Lab_effect N h a1 a2 a3 a4 = some r → mI X m_Lab_effect 5 [.ref (xa X 22), .int a1, .int a2, .int a3, .int a4] h r.1 r.2 := fun r hr => mI_of (by decide) rfl (Nat.le_of_ble_eq_true rfl) rfl (cb_Lab_effect X N h a1 a2 a3 a4 r hr)
set_option maxRecDepth 20000 in
theorem cb_Lab_canCome (X : mu_X) (N : Nat) (h : mu_H) (a1 : Int32) (a2 : Int32) : aG X m_Lab_canCome (rmk 3) (fun _ => ax X) (fun _ _ _ => True) 0 0 (fun r : Int32 => qI X r h) (f_Lab_canCome N h a1 a2) 0 [(0, .ref (xa X 22)), (1, .int a1), (2, .int a2)] [] h := by
  unfold f_Lab_canCome
  refine ro_aload_n (pc := 0) 0 dX0_canCome_0 rfl rfl ?_
  refine gf_X0_0 (pc := 1) wd_249 dX0_canCome_1 ?_
  refine ro_iload_n (pc := 4) 1 dX0_canCome_4 rfl rfl ?_
  refine ro_iload_n (pc := 5) 2 dX0_canCome_5 rfl rfl ?_
  refine ro_cvP (pc := 6) (kc := 2) (avs := [.int a1, .int a2]) (st := []) ok_Par_stepsTo wd_695 cl_3 cv_3 rfl ⟨by decide, by decide⟩ ⟨Nat.zero_le _, Nat.zero_le _⟩ (c_Par_stepsTo X N h 3 isP_i3 a1 a2) rfl rfl (Nat.le_of_ble_eq_true rfl) dX0_canCome_6 (fun x1 => ?_)
  refine ro_iconst (v := (-1)) (pc := 9) dX0_canCome_9 (by decide) ?_
  refine ro_icmp_eq (tgt := 17) (pc := 10) dX0_canCome_10 (by decide) (fun _ => ?_) (fun _ => ?_)
  · skip
    refine ro_iconst (v := 0) (pc := 17) dX0_canCome_17 (by decide) ?_
    exact ro_zret (pc := 18) rfl rfl rfl dX0_canCome_18
  · skip
    refine ro_iconst (v := 1) (pc := 13) dX0_canCome_13 (by decide) ?_
    refine ro_goto (tgt := 18) (pc := 14) dX0_canCome_14 (by decide) ?_
    exact ro_zret (pc := 18) rfl rfl rfl dX0_canCome_18
theorem c_Lab_canCome (X : mu_X) (N : Nat) (h : mu_H) (a1 : Int32) (a2 : Int32) : ∀ r, f_Lab_canCome N h a1 a2 = some r → mI X m_Lab_canCome 3 [.ref (xa X 22), .int a1, .int a2] h r h := fun r hr => mI_of (by decide) rfl (Nat.le_of_ble_eq_true rfl) rfl (cb_Lab_canCome X N h a1 a2 r hr)
set_option maxRecDepth 20000 in
theorem cb_Lab_shouldBuy (X : mu_X) (N : Nat) (h : mu_H) (a1 : Int32) : aG X m_Lab_shouldBuy (rmk 6) (fun _ => ax X) (fun _ _ _ => True) 0 0 (fun r : Int32 × mu_H => qI X r.1 r.2) (f_Lab_shouldBuy N h a1) 0 [(0, .ref (xa X 22)), (1, .int a1)] [] h := by
  unfold f_Lab_shouldBuy
  refine ro_iconst (v := 0) (pc := 0) dX0_shouldBuy_0 (by decide) ?_
  refine ro_istore_n (pc := 1) (lv' := [(2, .int 0), (0, .ref (xa X 22)), (1, .int a1)]) dX0_shouldBuy_1 rfl (by decide) rfl ?_
  refine ro_lv [1, 2, 0] rfl ?_
  refine ro_lp (pc := 2) (lvs := fun (s : Int32 × mu_H) => [(0, .ref (xa X 22)), (1, .int a1), (2, .int s.1)]) (hs := fun (s : Int32 × mu_H) => s.2) (fun rec1 hrec1 s => ?_) N (0, h)
  obtain ⟨x2, h3⟩ := s; unfold f_Lab_shouldBuy_L2; try dsimp only
  refine ro_iload_n (pc := 2) 2 dX0_shouldBuy_2 rfl rfl ?_
  refine ro_aload_n (pc := 3) 0 dX0_shouldBuy_3 rfl rfl ?_
  refine gf_X0_0 (pc := 4) wd_249 dX0_shouldBuy_4 ?_
  refine ro_cvP (pc := 7) (kc := 1) (avs := []) (st := [.int x2]) ok_Par_stretches wd_796 cl_3 cv_3 rfl ⟨by decide, by decide⟩ ⟨Nat.zero_le _, Nat.zero_le _⟩ (c_Par_stretches X N h3 3 isP_i3) rfl rfl (Nat.le_of_ble_eq_true rfl) dX0_shouldBuy_7 (fun x4 => ?_)
  refine ro_icmp_ge (tgt := 62) (pc := 10) dX0_shouldBuy_10 (by decide) (fun _ => ?_) (fun _ => ?_)
  · skip
    refine ro_iconst (v := 1) (pc := 62) dX0_shouldBuy_62 (by decide) ?_
    exact ro_zret (pc := 63) rfl rfl rfl dX0_shouldBuy_63
  · skip
    refine ro_aload_n (pc := 13) 0 dX0_shouldBuy_13 rfl rfl ?_
    refine gf_X0_1 (pc := 14) wd_250 dX0_shouldBuy_14 ?_
    refine ro_iload_n (pc := 17) 2 dX0_shouldBuy_17 rfl rfl ?_
    refine ro_cvP (pc := 18) (kc := 1) (avs := [.int x2]) (st := []) ok_Sta_wear wd_753 cl_14 cv_14 rfl ⟨by decide, by decide⟩ ⟨Nat.zero_le _, Nat.zero_le _⟩ (c_Sta_wear X N h3 14 isT_i14 x2) rfl rfl (Nat.le_of_ble_eq_true rfl) dX0_shouldBuy_18 (fun x5 => ?_)
    refine ro_istore_n (pc := 21) (lv' := [(3, .int x5), (0, .ref (xa X 22)), (1, .int a1), (2, .int x2)]) dX0_shouldBuy_21 rfl (by decide) rfl ?_
    refine ro_aload_n (pc := 22) 1 dX0_shouldBuy_22 rfl rfl ?_
    refine ro_iload_n (pc := 23) 2 dX0_shouldBuy_23 rfl rfl ?_
    refine ro_iload_n (pc := 24) 3 dX0_shouldBuy_24 rfl rfl ?_
    refine ro_iconst (v := 2) (pc := 25) dX0_shouldBuy_25 (by decide) ?_
    refine ro_iload_n (pc := 26) 0 dX0_shouldBuy_26 rfl rfl ?_
    refine ro_cvI (pc := 27) (kc := 5) (avs := [.int a1, .int x2, .int 2, .int x5]) (st := []) ok_Lab_effect wd_754 cl_22 cv_22 rfl ⟨by decide, by decide⟩ ⟨Nat.zero_le _, Nat.zero_le _⟩ (c_Lab_effect X N h3 a1 x2 2 x5) rfl rfl (Nat.le_of_ble_eq_true rfl) dX0_shouldBuy_27 (fun x6 h7 => ?_)
    refine ro_istore (pc := 30) (lv' := [(4, .int x6), (3, .int x5), (0, .ref (xa X 22)), (1, .int a1), (2, .int x2)]) dX0_shouldBuy_30 (by decide) rfl ?_
    refine ro_aload_n (pc := 32) 2 dX0_shouldBuy_32 rfl rfl ?_
    refine ro_iload_n (pc := 33) 3 dX0_shouldBuy_33 rfl rfl ?_
    refine ro_iload_n (pc := 34) 4 dX0_shouldBuy_34 rfl rfl ?_
    refine ro_cvP (pc := 35) (kc := 3) (avs := [.int a1, .int x2]) (st := []) ok_Lab_canCome wd_691 cl_22 cv_22 rfl ⟨by decide, by decide⟩ ⟨Nat.zero_le _, Nat.zero_le _⟩ (c_Lab_canCome X N h7 a1 x2) rfl rfl (Nat.le_of_ble_eq_true rfl) dX0_shouldBuy_35 (fun x9 => ?_)
    refine ro_jn (pcj := 56) (lvs := fun (s : mu_H) => [(0, .ref (xa X 22)), (1, .int a1), (2, .int x2)]) (hs := fun (s : mu_H) => s) (sts := fun (s : mu_H) => []) (fun h11 => ?_) (fun j10 hj10 => ?_)
    · try dsimp only
      refine ro_iinc (pc := 56) (v := x2 + 1) (lv' := [(2, .int (x2 + 1)), (0, .ref (xa X 22)), (1, .int a1)]) 2 dX0_shouldBuy_56 rfl rfl (by decide) rfl ?_
      refine ro_goto (tgt := 2) (pc := 59) dX0_shouldBuy_59 (by decide) ?_
      refine ro_lv [1, 2, 0] rfl ?_
      exact hrec1 (x2 + 1, h11)
    · skip
      refine ro_if_eq (tgt := 56) (pc := 38) dX0_shouldBuy_38 (by decide) (fun _ => ?_) (fun _ => ?_)
      · skip
        refine ro_lv [2, 3, 4] rfl ?_
        exact hj10 h7
      · skip
        refine ro_aload_n (pc := 41) 2 dX0_shouldBuy_41 rfl rfl ?_
        refine ro_iload_n (pc := 42) 3 dX0_shouldBuy_42 rfl rfl ?_
        refine ro_iload_n (pc := 43) 4 dX0_shouldBuy_43 rfl rfl ?_
        refine ro_iconst (v := 0) (pc := 44) dX0_shouldBuy_44 (by decide) ?_
        refine ro_iload_n (pc := 45) 1 dX0_shouldBuy_45 rfl rfl ?_
        refine ro_cvI (pc := 46) (kc := 5) (avs := [.int a1, .int x2, .int 0, .int x5]) (st := []) ok_Lab_effect wd_754 cl_22 cv_22 rfl ⟨by decide, by decide⟩ ⟨Nat.zero_le _, Nat.zero_le _⟩ (c_Lab_effect X N h7 a1 x2 0 x5) rfl rfl (Nat.le_of_ble_eq_true rfl) dX0_shouldBuy_46 (fun x12 h13 => ?_)
        refine ro_iload (pc := 49) 0 dX0_shouldBuy_49 rfl ?_
        refine ro_icmp_lt (tgt := 56) (pc := 51) dX0_shouldBuy_51 (by decide) (fun _ => ?_) (fun _ => ?_)
        · skip
          refine ro_lv [2, 3, 4] rfl ?_
          exact hj10 h13
        · skip
          refine ro_iconst (v := 0) (pc := 54) dX0_shouldBuy_54 (by decide) ?_
          exact ro_zret (pc := 55) rfl rfl rfl dX0_shouldBuy_55
theorem c_Lab_shouldBuy (X : mu_X) (N : Nat) (h : mu_H) (a1 : Int32) : ∀ r, f_Lab_shouldBuy N h a1 = some r → mI X m_Lab_shouldBuy 6 [.ref (xa X 22), .int a1] h r.1 r.2 := fun r hr => mI_of (by decide) rfl (Nat.le_of_ble_eq_true rfl) rfl (cb_Lab_shouldBuy X N h a1 r hr)
set_option maxRecDepth 20000 in
theorem cb_Lab_buyers (X : mu_X) (N : Nat) (h : mu_H) : aG X m_Lab_buyers (rmk 7) (fun _ => ax X) (fun _ _ _ => True) 0 0 (fun r : Int32 × mu_H => qI X r.1 r.2) (f_Lab_buyers N h) 0 [(0, .ref (xa X 22))] [] h := by
  unfold f_Lab_buyers
  refine ro_iconst (v := 0) (pc := 0) dX0_buyers_0 (by decide) ?_
  refine ro_istore_n (pc := 1) (lv' := [(1, .int 0), (0, .ref (xa X 22))]) dX0_buyers_1 rfl (by decide) rfl ?_
  refine ro_iconst (v := 0) (pc := 2) dX0_buyers_2 (by decide) ?_
  refine ro_istore_n (pc := 3) (lv' := [(2, .int 0), (1, .int 0), (0, .ref (xa X 22))]) dX0_buyers_3 rfl (by decide) rfl ?_
  refine ro_lv [2, 1, 0] rfl ?_
  refine ro_lp (pc := 4) (lvs := fun (s : Int32 × Int32 × mu_H) => [(0, .ref (xa X 22)), (1, .int s.1), (2, .int s.2.1)]) (hs := fun (s : Int32 × Int32 × mu_H) => s.2.2) (fun rec1 hrec1 s => ?_) N (0, 0, h)
  obtain ⟨x2, x3, h4⟩ := s; unfold f_Lab_buyers_L4; try dsimp only
  refine ro_iload_n (pc := 4) 2 dX0_buyers_4 rfl rfl ?_
  refine ro_aload_n (pc := 5) 0 dX0_buyers_5 rfl rfl ?_
  refine gf_X0_0 (pc := 6) wd_249 dX0_buyers_6 ?_
  refine ro_cvP (pc := 9) (kc := 1) (avs := []) (st := [.int x3]) ok_Par_houses wd_822 cl_3 cv_3 rfl ⟨by decide, by decide⟩ ⟨Nat.zero_le _, Nat.zero_le _⟩ (c_Par_houses X N h4 3 isP_i3) rfl rfl (Nat.le_of_ble_eq_true rfl) dX0_buyers_9 (fun x5 => ?_)
  refine ro_icmp_ge (tgt := 35) (pc := 12) dX0_buyers_12 (by decide) (fun _ => ?_) (fun _ => ?_)
  · skip
    refine ro_iload_n (pc := 35) 1 dX0_buyers_35 rfl rfl ?_
    exact ro_iret (pc := 36) rfl rfl dX0_buyers_36
  · skip
    refine ro_aload_n (pc := 15) 0 dX0_buyers_15 rfl rfl ?_
    refine ro_iload_n (pc := 16) 2 dX0_buyers_16 rfl rfl ?_
    refine ro_cvI (pc := 17) (kc := 6) (avs := [.int x3]) (st := []) ok_Lab_shouldBuy wd_979 cl_22 cv_22 rfl ⟨by decide, by decide⟩ ⟨Nat.zero_le _, Nat.zero_le _⟩ (c_Lab_shouldBuy X N h4 x3) rfl rfl (Nat.le_of_ble_eq_true rfl) dX0_buyers_17 (fun x6 h7 => ?_)
    refine ro_jn (pcj := 29) (lvs := fun (s : Int32) => [(0, .ref (xa X 22)), (1, .int s), (2, .int x3)]) (hs := fun (s : Int32) => h7) (sts := fun (s : Int32) => []) (fun x10 => ?_) (fun j9 hj9 => ?_)
    · try dsimp only
      refine ro_iinc (pc := 29) (v := x3 + 1) (lv' := [(2, .int (x3 + 1)), (0, .ref (xa X 22)), (1, .int x10)]) 2 dX0_buyers_29 rfl rfl (by decide) rfl ?_
      refine ro_goto (tgt := 4) (pc := 32) dX0_buyers_32 (by decide) ?_
      refine ro_lv [1, 2, 0] rfl ?_
      exact hrec1 (x10, x3 + 1, h7)
    · skip
      refine ro_if_eq (tgt := 29) (pc := 20) dX0_buyers_20 (by decide) (fun _ => ?_) (fun _ => ?_)
      · skip
        exact hj9 x2
      · skip
        refine ro_iload_n (pc := 23) 1 dX0_buyers_23 rfl rfl ?_
        refine ro_iconst (v := 1) (pc := 24) dX0_buyers_24 (by decide) ?_
        refine ro_iload_n (pc := 25) 2 dX0_buyers_25 rfl rfl ?_
        refine ro_ishl (pc := 26) dX0_buyers_26 ?_
        refine ro_ior (pc := 27) dX0_buyers_27 ?_
        refine ro_bn (fun x11 => ?_)
        refine ro_istore_n (pc := 28) (lv' := [(1, .int x11), (0, .ref (xa X 22)), (2, .int x3)]) dX0_buyers_28 rfl (by decide) rfl ?_
        refine ro_lv [1, 0, 2] rfl ?_
        exact hj9 x11
theorem c_Lab_buyers (X : mu_X) (N : Nat) (h : mu_H) : ∀ r, f_Lab_buyers N h = some r → mI X m_Lab_buyers 7 [.ref (xa X 22)] h r.1 r.2 := fun r hr => mI_of (by decide) rfl (Nat.le_of_ble_eq_true rfl) rfl (cb_Lab_buyers X N h r hr)
set_option maxRecDepth 20000 in
theorem cb_Lab_canMeet (X : mu_X) (N : Nat) (h : mu_H) (a1 : Int32) (a2 : Int32) (a3 : Int32) : aG X m_Lab_canMeet (rmk 4) (fun _ => ax X) (fun _ _ _ => True) 0 0 (fun r : Int32 => qI X r h) (f_Lab_canMeet N h a1 a2 a3) 0 [(0, .ref (xa X 22)), (1, .int a1), (2, .int a2), (3, .int a3)] [] h := by
  unfold f_Lab_canMeet
  refine ro_aload_n (pc := 0) 0 dX0_canMeet_0 rfl rfl ?_
  refine gf_X0_0 (pc := 1) wd_249 dX0_canMeet_1 ?_
  refine ro_iload_n (pc := 4) 1 dX0_canMeet_4 rfl rfl ?_
  refine ro_cvP (pc := 5) (kc := 1) (avs := [.int a1]) (st := []) ok_Par_hasHouse wd_991 cl_3 cv_3 rfl ⟨by decide, by decide⟩ ⟨Nat.zero_le _, Nat.zero_le _⟩ (c_Par_hasHouse X N h 3 isP_i3 a1) rfl rfl (Nat.le_of_ble_eq_true rfl) dX0_canMeet_5 (fun x1 => ?_)
  refine ro_if_eq (tgt := 38) (pc := 8) dX0_canMeet_8 (by decide) (fun _ => ?_) (fun _ => ?_)
  · skip
    refine ro_iconst (v := 0) (pc := 38) dX0_canMeet_38 (by decide) ?_
    exact ro_zret (pc := 39) rfl rfl rfl dX0_canMeet_39
  · skip
    refine ro_aload_n (pc := 11) 0 dX0_canMeet_11 rfl rfl ?_
    refine gf_X0_0 (pc := 12) wd_249 dX0_canMeet_12 ?_
    refine ro_iload_n (pc := 15) 2 dX0_canMeet_15 rfl rfl ?_
    refine ro_cvP (pc := 16) (kc := 1) (avs := [.int a2]) (st := []) ok_Par_hasHouse wd_991 cl_3 cv_3 rfl ⟨by decide, by decide⟩ ⟨Nat.zero_le _, Nat.zero_le _⟩ (c_Par_hasHouse X N h 3 isP_i3 a2) rfl rfl (Nat.le_of_ble_eq_true rfl) dX0_canMeet_16 (fun x2 => ?_)
    refine ro_if_eq (tgt := 38) (pc := 19) dX0_canMeet_19 (by decide) (fun _ => ?_) (fun _ => ?_)
    · skip
      refine ro_iconst (v := 0) (pc := 38) dX0_canMeet_38 (by decide) ?_
      exact ro_zret (pc := 39) rfl rfl rfl dX0_canMeet_39
    · skip
      refine ro_iload_n (pc := 22) 1 dX0_canMeet_22 rfl rfl ?_
      refine ro_iload_n (pc := 23) 2 dX0_canMeet_23 rfl rfl ?_
      refine ro_icmp_eq (tgt := 38) (pc := 24) dX0_canMeet_24 (by decide) (fun _ => ?_) (fun _ => ?_)
      · skip
        refine ro_iconst (v := 0) (pc := 38) dX0_canMeet_38 (by decide) ?_
        exact ro_zret (pc := 39) rfl rfl rfl dX0_canMeet_39
      · skip
        refine ro_aload_n (pc := 27) 0 dX0_canMeet_27 rfl rfl ?_
        refine gf_X0_0 (pc := 28) wd_249 dX0_canMeet_28 ?_
        refine ro_iload_n (pc := 31) 3 dX0_canMeet_31 rfl rfl ?_
        refine ro_cvP (pc := 32) (kc := 1) (avs := [.int a3]) (st := []) ok_Par_hasStretch wd_992 cl_3 cv_3 rfl ⟨by decide, by decide⟩ ⟨Nat.zero_le _, Nat.zero_le _⟩ (c_Par_hasStretch X N h 3 isP_i3 a3) rfl rfl (Nat.le_of_ble_eq_true rfl) dX0_canMeet_32 (fun x3 => ?_)
        refine ro_if_ne (tgt := 40) (pc := 35) dX0_canMeet_35 (by decide) (fun _ => ?_) (fun _ => ?_)
        · skip
          refine ro_aload_n (pc := 40) 0 dX0_canMeet_40 rfl rfl ?_
          refine ro_iload_n (pc := 41) 1 dX0_canMeet_41 rfl rfl ?_
          refine ro_iload_n (pc := 42) 3 dX0_canMeet_42 rfl rfl ?_
          refine ro_cvP (pc := 43) (kc := 3) (avs := [.int a1, .int a3]) (st := []) ok_Lab_canCome wd_691 cl_22 cv_22 rfl ⟨by decide, by decide⟩ ⟨Nat.zero_le _, Nat.zero_le _⟩ (c_Lab_canCome X N h a1 a3) rfl rfl (Nat.le_of_ble_eq_true rfl) dX0_canMeet_43 (fun x4 => ?_)
          refine ro_if_eq (tgt := 62) (pc := 46) dX0_canMeet_46 (by decide) (fun _ => ?_) (fun _ => ?_)
          · skip
            refine ro_iconst (v := 0) (pc := 62) dX0_canMeet_62 (by decide) ?_
            exact ro_zret (pc := 63) rfl rfl rfl dX0_canMeet_63
          · skip
            refine ro_aload_n (pc := 49) 0 dX0_canMeet_49 rfl rfl ?_
            refine ro_iload_n (pc := 50) 2 dX0_canMeet_50 rfl rfl ?_
            refine ro_iload_n (pc := 51) 3 dX0_canMeet_51 rfl rfl ?_
            refine ro_cvP (pc := 52) (kc := 3) (avs := [.int a2, .int a3]) (st := []) ok_Lab_canCome wd_691 cl_22 cv_22 rfl ⟨by decide, by decide⟩ ⟨Nat.zero_le _, Nat.zero_le _⟩ (c_Lab_canCome X N h a2 a3) rfl rfl (Nat.le_of_ble_eq_true rfl) dX0_canMeet_52 (fun x5 => ?_)
            refine ro_if_eq (tgt := 62) (pc := 55) dX0_canMeet_55 (by decide) (fun _ => ?_) (fun _ => ?_)
            · skip
              refine ro_iconst (v := 0) (pc := 62) dX0_canMeet_62 (by decide) ?_
              exact ro_zret (pc := 63) rfl rfl rfl dX0_canMeet_63
            · skip
              refine ro_iconst (v := 1) (pc := 58) dX0_canMeet_58 (by decide) ?_
              refine ro_goto (tgt := 63) (pc := 59) dX0_canMeet_59 (by decide) ?_
              exact ro_zret (pc := 63) rfl rfl rfl dX0_canMeet_63
        · skip
          refine ro_iconst (v := 0) (pc := 38) dX0_canMeet_38 (by decide) ?_
          exact ro_zret (pc := 39) rfl rfl rfl dX0_canMeet_39
theorem c_Lab_canMeet (X : mu_X) (N : Nat) (h : mu_H) (a1 : Int32) (a2 : Int32) (a3 : Int32) : ∀ r, f_Lab_canMeet N h a1 a2 a3 = some r → mI X m_Lab_canMeet 4 [.ref (xa X 22), .int a1, .int a2, .int a3] h r h := fun r hr => mI_of (by decide) rfl (Nat.le_of_ble_eq_true rfl) rfl (cb_Lab_canMeet X N h a1 a2 a3 r hr)
set_option maxRecDepth 20000 in
theorem cb_Lab_canWork (X : mu_X) (N : Nat) (h : mu_H) (a1 : Int32) (a2 : Int32) (a3 : Int32) : aG X m_Lab_canWork (rmk 4) (fun _ => ax X) (fun _ _ _ => True) 0 0 (fun r : Int32 => qI X r h) (f_Lab_canWork N h a1 a2 a3) 0 [(0, .ref (xa X 22)), (1, .int a1), (2, .int a2), (3, .int a3)] [] h := by
  unfold f_Lab_canWork
  refine ro_iload_n (pc := 0) 3 dX0_canWork_0 rfl rfl ?_
  refine ro_iconst (v := 2) (pc := 1) dX0_canWork_1 (by decide) ?_
  refine ro_icmp_eq (tgt := 14) (pc := 2) dX0_canWork_2 (by decide) (fun _ => ?_) (fun _ => ?_)
  · skip
    refine ro_iconst (v := 1) (pc := 14) dX0_canWork_14 (by decide) ?_
    refine ro_goto (tgt := 19) (pc := 15) dX0_canWork_15 (by decide) ?_
    exact ro_zret (pc := 19) rfl rfl rfl dX0_canWork_19
  · skip
    refine ro_aload_n (pc := 5) 0 dX0_canWork_5 rfl rfl ?_
    refine ro_iload_n (pc := 6) 1 dX0_canWork_6 rfl rfl ?_
    refine ro_iload_n (pc := 7) 2 dX0_canWork_7 rfl rfl ?_
    refine ro_cvP (pc := 8) (kc := 3) (avs := [.int a1, .int a2]) (st := []) ok_Lab_canCome wd_691 cl_22 cv_22 rfl ⟨by decide, by decide⟩ ⟨Nat.zero_le _, Nat.zero_le _⟩ (c_Lab_canCome X N h a1 a2) rfl rfl (Nat.le_of_ble_eq_true rfl) dX0_canWork_8 (fun x1 => ?_)
    refine ro_if_eq (tgt := 18) (pc := 11) dX0_canWork_11 (by decide) (fun _ => ?_) (fun _ => ?_)
    · skip
      refine ro_iconst (v := 0) (pc := 18) dX0_canWork_18 (by decide) ?_
      exact ro_zret (pc := 19) rfl rfl rfl dX0_canWork_19
    · skip
      refine ro_iconst (v := 1) (pc := 14) dX0_canWork_14 (by decide) ?_
      refine ro_goto (tgt := 19) (pc := 15) dX0_canWork_15 (by decide) ?_
      exact ro_zret (pc := 19) rfl rfl rfl dX0_canWork_19
theorem c_Lab_canWork (X : mu_X) (N : Nat) (h : mu_H) (a1 : Int32) (a2 : Int32) (a3 : Int32) : ∀ r, f_Lab_canWork N h a1 a2 a3 = some r → mI X m_Lab_canWork 4 [.ref (xa X 22), .int a1, .int a2, .int a3] h r h := fun r hr => mI_of (by decide) rfl (Nat.le_of_ble_eq_true rfl) rfl (cb_Lab_canWork X N h a1 a2 a3 r hr)
set_option maxRecDepth 20000 in
theorem cb_Lab_effectNow (X : mu_X) (N : Nat) (h : mu_H) (a1 : Int32) (a2 : Int32) (a3 : Int32) : aG X m_Lab_effectNow (rmk 6) (fun _ => ax X) (fun _ _ _ => True) 0 0 (fun r : Int32 × mu_H => qI X r.1 r.2) (f_Lab_effectNow N h a1 a2 a3) 0 [(0, .ref (xa X 22)), (1, .int a1), (2, .int a2), (3, .int a3)] [] h := by
  unfold f_Lab_effectNow
  refine ro_aload_n (pc := 0) 0 dX0_effectNow_0 rfl rfl ?_
  refine ro_iload_n (pc := 1) 1 dX0_effectNow_1 rfl rfl ?_
  refine ro_iload_n (pc := 2) 2 dX0_effectNow_2 rfl rfl ?_
  refine ro_iload_n (pc := 3) 3 dX0_effectNow_3 rfl rfl ?_
  refine ro_aload_n (pc := 4) 0 dX0_effectNow_4 rfl rfl ?_
  refine gf_X0_1 (pc := 5) wd_250 dX0_effectNow_5 ?_
  refine ro_iload_n (pc := 8) 2 dX0_effectNow_8 rfl rfl ?_
  refine ro_cvP (pc := 9) (kc := 1) (avs := [.int a2]) (st := [.int a3, .int a2, .int a1, .ref (xa X 22)]) ok_Sta_wear wd_753 cl_14 cv_14 rfl ⟨by decide, by decide⟩ ⟨Nat.zero_le _, Nat.zero_le _⟩ (c_Sta_wear X N h 14 isT_i14 a2) rfl rfl (Nat.le_of_ble_eq_true rfl) dX0_effectNow_9 (fun x1 => ?_)
  refine ro_cvI (pc := 12) (kc := 5) (avs := [.int a1, .int a2, .int a3, .int x1]) (st := []) ok_Lab_effect wd_754 cl_22 cv_22 rfl ⟨by decide, by decide⟩ ⟨Nat.zero_le _, Nat.zero_le _⟩ (c_Lab_effect X N h a1 a2 a3 x1) rfl rfl (Nat.le_of_ble_eq_true rfl) dX0_effectNow_12 (fun x2 h3 => ?_)
  exact ro_iret (pc := 15) rfl rfl dX0_effectNow_15
theorem c_Lab_effectNow (X : mu_X) (N : Nat) (h : mu_H) (a1 : Int32) (a2 : Int32) (a3 : Int32) : ∀ r, f_Lab_effectNow N h a1 a2 a3 = some r → mI X m_Lab_effectNow 6 [.ref (xa X 22), .int a1, .int a2, .int a3] h r.1 r.2 := fun r hr => mI_of (by decide) rfl (Nat.le_of_ble_eq_true rfl) rfl (cb_Lab_effectNow X N h a1 a2 a3 r hr)
set_option maxRecDepth 20000 in
theorem cb_Lab_doersOf (X : mu_X) (N : Nat) (h : mu_H) (a1 : Int32) (a2 : Int32) : aG X m_Lab_doersOf (rmk 7) (fun _ => ax X) (fun _ _ _ => True) 0 0 (fun r : Int32 × mu_H => qI X r.1 r.2) (f_Lab_doersOf N h a1 a2) 0 [(0, .ref (xa X 22)), (1, .int a1), (2, .int a2)] [] h := by
  unfold f_Lab_doersOf
  refine ro_iconst (v := 0) (pc := 0) dX0_doersOf_0 (by decide) ?_
  refine ro_istore_n (pc := 1) (lv' := [(3, .int 0), (0, .ref (xa X 22)), (1, .int a1), (2, .int a2)]) dX0_doersOf_1 rfl (by decide) rfl ?_
  refine ro_iconst (v := 0) (pc := 2) dX0_doersOf_2 (by decide) ?_
  refine ro_istore (pc := 3) (lv' := [(4, .int 0), (3, .int 0), (0, .ref (xa X 22)), (1, .int a1), (2, .int a2)]) dX0_doersOf_3 (by decide) rfl ?_
  refine ro_lv [2, 3, 4, 1, 0] rfl ?_
  refine ro_lp (pc := 5) (lvs := fun (s : Int32 × Int32 × mu_H) => [(0, .ref (xa X 22)), (1, .int a1), (2, .int a2), (3, .int s.1), (4, .int s.2.1)]) (hs := fun (s : Int32 × Int32 × mu_H) => s.2.2) (fun rec1 hrec1 s => ?_) N (0, 0, h)
  obtain ⟨x2, x3, h4⟩ := s; unfold f_Lab_doersOf_L5; try dsimp only
  refine ro_iload (pc := 5) 4 dX0_doersOf_5 rfl ?_
  refine ro_aload_n (pc := 7) 0 dX0_doersOf_7 rfl rfl ?_
  refine gf_X0_0 (pc := 8) wd_249 dX0_doersOf_8 ?_
  refine ro_cvP (pc := 11) (kc := 1) (avs := []) (st := [.int x3]) ok_Par_houses wd_822 cl_3 cv_3 rfl ⟨by decide, by decide⟩ ⟨Nat.zero_le _, Nat.zero_le _⟩ (c_Par_houses X N h4 3 isP_i3) rfl rfl (Nat.le_of_ble_eq_true rfl) dX0_doersOf_11 (fun x5 => ?_)
  refine ro_icmp_ge (tgt := 64) (pc := 14) dX0_doersOf_14 (by decide) (fun _ => ?_) (fun _ => ?_)
  · skip
    refine ro_iload_n (pc := 64) 3 dX0_doersOf_64 rfl rfl ?_
    exact ro_iret (pc := 65) rfl rfl dX0_doersOf_65
  · skip
    refine ro_aload_n (pc := 17) 0 dX0_doersOf_17 rfl rfl ?_
    refine ro_iload (pc := 18) 4 dX0_doersOf_18 rfl ?_
    refine ro_iload_n (pc := 20) 1 dX0_doersOf_20 rfl rfl ?_
    refine ro_cvP (pc := 21) (kc := 3) (avs := [.int x3, .int a1]) (st := []) ok_Lab_canCome wd_691 cl_22 cv_22 rfl ⟨by decide, by decide⟩ ⟨Nat.zero_le _, Nat.zero_le _⟩ (c_Lab_canCome X N h4 x3 a1) rfl rfl (Nat.le_of_ble_eq_true rfl) dX0_doersOf_21 (fun x6 => ?_)
    refine ro_jn (pcj := 58) (lvs := fun (s : Int32 × mu_H) => [(0, .ref (xa X 22)), (1, .int a1), (2, .int a2), (3, .int s.1), (4, .int x3)]) (hs := fun (s : Int32 × mu_H) => s.2) (sts := fun (s : Int32 × mu_H) => []) (fun s => ?_) (fun j7 hj7 => ?_)
    · obtain ⟨x8, h9⟩ := s; try dsimp only
      refine ro_iinc (pc := 58) (v := x3 + 1) (lv' := [(4, .int (x3 + 1)), (0, .ref (xa X 22)), (1, .int a1), (2, .int a2), (3, .int x8)]) 4 dX0_doersOf_58 rfl rfl (by decide) rfl ?_
      refine ro_goto (tgt := 5) (pc := 61) dX0_doersOf_61 (by decide) ?_
      refine ro_lv [1, 2, 3, 4, 0] rfl ?_
      exact hrec1 (x8, x3 + 1, h9)
    · skip
      refine ro_if_eq (tgt := 58) (pc := 24) dX0_doersOf_24 (by decide) (fun _ => ?_) (fun _ => ?_)
      · skip
        exact hj7 (x2, h4)
      · skip
        refine ro_aload_n (pc := 27) 0 dX0_doersOf_27 rfl rfl ?_
        refine ro_iload (pc := 28) 4 dX0_doersOf_28 rfl ?_
        refine ro_iload_n (pc := 30) 1 dX0_doersOf_30 rfl rfl ?_
        refine ro_iconst (v := 0) (pc := 31) dX0_doersOf_31 (by decide) ?_
        refine ro_cvI (pc := 32) (kc := 6) (avs := [.int x3, .int a1, .int 0]) (st := []) ok_Lab_effectNow wd_967 cl_22 cv_22 rfl ⟨by decide, by decide⟩ ⟨Nat.zero_le _, Nat.zero_le _⟩ (c_Lab_effectNow X N h4 x3 a1 0) rfl rfl (Nat.le_of_ble_eq_true rfl) dX0_doersOf_32 (fun x10 h11 => ?_)
        refine ro_iload_n (pc := 35) 2 dX0_doersOf_35 rfl rfl ?_
        refine ro_jn (pcj := 51) (lvs := fun (s : mu_H) => [(0, .ref (xa X 22)), (1, .int a1), (2, .int a2), (3, .int x2), (4, .int x3)]) (hs := fun (s : mu_H) => s) (sts := fun (s : mu_H) => []) (fun h14 => ?_) (fun j13 hj13 => ?_)
        · try dsimp only
          refine ro_iload_n (pc := 51) 3 dX0_doersOf_51 rfl rfl ?_
          refine ro_iconst (v := 1) (pc := 52) dX0_doersOf_52 (by decide) ?_
          refine ro_iload (pc := 53) 4 dX0_doersOf_53 rfl ?_
          refine ro_ishl (pc := 55) dX0_doersOf_55 ?_
          refine ro_ior (pc := 56) dX0_doersOf_56 ?_
          refine ro_bn (fun x15 => ?_)
          refine ro_istore_n (pc := 57) (lv' := [(3, .int x15), (0, .ref (xa X 22)), (1, .int a1), (2, .int a2), (4, .int x3)]) dX0_doersOf_57 rfl (by decide) rfl ?_
          refine ro_lv [1, 2, 3, 0, 4] rfl ?_
          exact hj7 (x15, h14)
        · skip
          refine ro_icmp_eq (tgt := 51) (pc := 36) dX0_doersOf_36 (by decide) (fun _ => ?_) (fun _ => ?_)
          · skip
            exact hj13 h11
          · skip
            refine ro_aload_n (pc := 39) 0 dX0_doersOf_39 rfl rfl ?_
            refine ro_iload (pc := 40) 4 dX0_doersOf_40 rfl ?_
            refine ro_iload_n (pc := 42) 1 dX0_doersOf_42 rfl rfl ?_
            refine ro_iconst (v := 1) (pc := 43) dX0_doersOf_43 (by decide) ?_
            refine ro_cvI (pc := 44) (kc := 6) (avs := [.int x3, .int a1, .int 1]) (st := []) ok_Lab_effectNow wd_967 cl_22 cv_22 rfl ⟨by decide, by decide⟩ ⟨Nat.zero_le _, Nat.zero_le _⟩ (c_Lab_effectNow X N h11 x3 a1 1) rfl rfl (Nat.le_of_ble_eq_true rfl) dX0_doersOf_44 (fun x16 h17 => ?_)
            refine ro_iload_n (pc := 47) 2 dX0_doersOf_47 rfl rfl ?_
            refine ro_icmp_ne (tgt := 58) (pc := 48) dX0_doersOf_48 (by decide) (fun _ => ?_) (fun _ => ?_)
            · skip
              exact hj7 (x2, h17)
            · skip
              exact hj13 h17
theorem c_Lab_doersOf (X : mu_X) (N : Nat) (h : mu_H) (a1 : Int32) (a2 : Int32) : ∀ r, f_Lab_doersOf N h a1 a2 = some r → mI X m_Lab_doersOf 7 [.ref (xa X 22), .int a1, .int a2] h r.1 r.2 := fun r hr => mI_of (by decide) rfl (Nat.le_of_ble_eq_true rfl) rfl (cb_Lab_doersOf X N h a1 a2 r hr)
set_option maxRecDepth 20000 in
theorem cb_Lab_drain (X : mu_X) (N : Nat) (h : mu_H) (a1 : Int32) : aG X m_Lab_drain (rmk 3) (fun _ => ax X) (fun _ _ _ => True) 0 0 (fun r : mu_H => qV X r) (f_Lab_drain N h a1) 0 [(0, .ref (xa X 22)), (1, .int a1)] [] h := by
  unfold f_Lab_drain
  refine ro_aload_n (pc := 0) 0 dX0_drain_0 rfl rfl ?_
  refine gf_X0_0 (pc := 1) wd_249 dX0_drain_1 ?_
  refine ro_iload_n (pc := 4) 1 dX0_drain_4 rfl rfl ?_
  refine ro_iconst (v := 1) (pc := 5) dX0_drain_5 (by decide) ?_
  refine ro_cvP (pc := 6) (kc := 1) (avs := [.int a1, .int 1]) (st := []) ok_Par_ofStretch wd_791 cl_3 cv_3 rfl ⟨by decide, by decide⟩ ⟨Nat.zero_le _, Nat.zero_le _⟩ (c_Par_ofStretch X N h 3 isP_i3 a1 1) rfl rfl (Nat.le_of_ble_eq_true rfl) dX0_drain_6 (fun x1 => ?_)
  refine ro_istore_n (pc := 9) (lv' := [(2, .int x1), (0, .ref (xa X 22)), (1, .int a1)]) dX0_drain_9 rfl (by decide) rfl ?_
  refine ro_aload_n (pc := 10) 1 dX0_drain_10 rfl rfl ?_
  refine gf_X0_1 (pc := 11) wd_250 dX0_drain_11 ?_
  refine ro_bipush (v := (-2)) (pc := 14) dX0_drain_14 (by decide) ?_
  refine ro_cvV (pc := 16) (kc := 1) (avs := [.int (-2)]) (st := []) ok_Sta_addToBox wd_769 cl_14 cv_14 rfl ⟨by decide, by decide⟩ ⟨Nat.zero_le _, Nat.zero_le _⟩ (c_Sta_addToBox X N h 14 isT_i14 (-2)) rfl rfl (Nat.le_of_ble_eq_true rfl) dX0_drain_16 (fun h2 => ?_)
  refine ro_aload_n (pc := 19) 1 dX0_drain_19 rfl rfl ?_
  refine gf_X0_1 (pc := 20) wd_250 dX0_drain_20 ?_
  refine ro_iload_n (pc := 23) 2 dX0_drain_23 rfl rfl ?_
  refine ro_aload_n (pc := 24) 1 dX0_drain_24 rfl rfl ?_
  refine gf_X0_1 (pc := 25) wd_250 dX0_drain_25 ?_
  refine ro_iload_n (pc := 28) 2 dX0_drain_28 rfl rfl ?_
  refine ro_cvP (pc := 29) (kc := 1) (avs := [.int a1]) (st := [.int a1, .ref (xa X 14)]) ok_Sta_wet wd_705 cl_14 cv_14 rfl ⟨by decide, by decide⟩ ⟨Nat.zero_le _, Nat.zero_le _⟩ (c_Sta_wet X N h2 14 isT_i14 a1) rfl rfl (Nat.le_of_ble_eq_true rfl) dX0_drain_29 (fun x3 => ?_)
  refine ro_iconst (v := 1) (pc := 32) dX0_drain_32 (by decide) ?_
  refine ro_isub (pc := 33) dX0_drain_33 ?_
  refine ro_cvV (pc := 34) (kc := 1) (avs := [.int a1, .int (x3 - 1)]) (st := []) ok_Sta_setWet wd_792 cl_14 cv_14 rfl ⟨by decide, by decide⟩ ⟨Nat.zero_le _, Nat.zero_le _⟩ (c_Sta_setWet X N h2 14 isT_i14 a1 (x3 - 1)) rfl rfl (Nat.le_of_ble_eq_true rfl) dX0_drain_34 (fun h4 => ?_)
  refine ro_iconst (v := 0) (pc := 37) dX0_drain_37 (by decide) ?_
  refine ro_istore_n (pc := 38) (lv' := [(3, .int 0), (2, .int x1), (0, .ref (xa X 22)), (1, .int a1)]) dX0_drain_38 rfl (by decide) rfl ?_
  refine ro_lv [2, 3, 1, 0] rfl ?_
  refine ro_lp (pc := 39) (lvs := fun (s : Int32 × mu_H) => [(0, .ref (xa X 22)), (1, .int a1), (2, .int x1), (3, .int s.1)]) (hs := fun (s : Int32 × mu_H) => s.2) (fun rec5 hrec5 s => ?_) N (0, h4)
  obtain ⟨x6, h7⟩ := s; unfold f_Lab_drain_L39; try dsimp only
  refine ro_iload_n (pc := 39) 3 dX0_drain_39 rfl rfl ?_
  refine ro_aload_n (pc := 40) 0 dX0_drain_40 rfl rfl ?_
  refine gf_X0_0 (pc := 41) wd_249 dX0_drain_41 ?_
  refine ro_cvP (pc := 44) (kc := 1) (avs := []) (st := [.int x6]) ok_Par_stretches wd_796 cl_3 cv_3 rfl ⟨by decide, by decide⟩ ⟨Nat.zero_le _, Nat.zero_le _⟩ (c_Par_stretches X N h7 3 isP_i3) rfl rfl (Nat.le_of_ble_eq_true rfl) dX0_drain_44 (fun x8 => ?_)
  refine ro_icmp_ge (tgt := 104) (pc := 47) dX0_drain_47 (by decide) (fun _ => ?_) (fun _ => ?_)
  · skip
    exact ro_vret (pc := 104) rfl rfl dX0_drain_104
  · skip
    refine ro_iload_n (pc := 50) 3 dX0_drain_50 rfl rfl ?_
    refine ro_iload_n (pc := 51) 1 dX0_drain_51 rfl rfl ?_
    refine ro_jn (pcj := 98) (lvs := fun (s : mu_H) => [(0, .ref (xa X 22)), (1, .int a1), (2, .int x1), (3, .int x6)]) (hs := fun (s : mu_H) => s) (sts := fun (s : mu_H) => []) (fun h10 => ?_) (fun j9 hj9 => ?_)
    · try dsimp only
      refine ro_iinc (pc := 98) (v := x6 + 1) (lv' := [(3, .int (x6 + 1)), (0, .ref (xa X 22)), (1, .int a1), (2, .int x1)]) 3 dX0_drain_98 rfl rfl (by decide) rfl ?_
      refine ro_goto (tgt := 39) (pc := 101) dX0_drain_101 (by decide) ?_
      refine ro_lv [1, 2, 3, 0] rfl ?_
      exact hrec5 (x6 + 1, h10)
    · skip
      refine ro_icmp_eq (tgt := 98) (pc := 52) dX0_drain_52 (by decide) (fun _ => ?_) (fun _ => ?_)
      · skip
        exact hj9 h7
      · skip
        refine ro_aload_n (pc := 55) 0 dX0_drain_55 rfl rfl ?_
        refine gf_X0_0 (pc := 56) wd_249 dX0_drain_56 ?_
        refine ro_iload_n (pc := 59) 3 dX0_drain_59 rfl rfl ?_
        refine ro_iload_n (pc := 60) 2 dX0_drain_60 rfl rfl ?_
        refine ro_cvP (pc := 61) (kc := 2) (avs := [.int x6, .int x1]) (st := []) ok_Par_touches wd_797 cl_3 cv_3 rfl ⟨by decide, by decide⟩ ⟨Nat.zero_le _, Nat.zero_le _⟩ (c_Par_touches X N h7 3 isP_i3 x6 x1) rfl rfl (Nat.le_of_ble_eq_true rfl) dX0_drain_61 (fun x11 => ?_)
        refine ro_if_eq (tgt := 98) (pc := 64) dX0_drain_64 (by decide) (fun _ => ?_) (fun _ => ?_)
        · skip
          exact hj9 h7
        · skip
          refine ro_aload_n (pc := 67) 0 dX0_drain_67 rfl rfl ?_
          refine gf_X0_1 (pc := 68) wd_250 dX0_drain_68 ?_
          refine ro_iload_n (pc := 71) 3 dX0_drain_71 rfl rfl ?_
          refine ro_cvP (pc := 72) (kc := 1) (avs := [.int x6]) (st := []) ok_Sta_wet wd_705 cl_14 cv_14 rfl ⟨by decide, by decide⟩ ⟨Nat.zero_le _, Nat.zero_le _⟩ (c_Sta_wet X N h7 14 isT_i14 x6) rfl rfl (Nat.le_of_ble_eq_true rfl) dX0_drain_72 (fun x12 => ?_)
          refine ro_bipush (v := 9) (pc := 75) dX0_drain_75 (by decide) ?_
          refine ro_icmp_ge (tgt := 98) (pc := 77) dX0_drain_77 (by decide) (fun _ => ?_) (fun _ => ?_)
          · skip
            exact hj9 h7
          · skip
            refine ro_aload_n (pc := 80) 0 dX0_drain_80 rfl rfl ?_
            refine gf_X0_1 (pc := 81) wd_250 dX0_drain_81 ?_
            refine ro_iload_n (pc := 84) 3 dX0_drain_84 rfl rfl ?_
            refine ro_aload_n (pc := 85) 0 dX0_drain_85 rfl rfl ?_
            refine gf_X0_1 (pc := 86) wd_250 dX0_drain_86 ?_
            refine ro_iload_n (pc := 89) 3 dX0_drain_89 rfl rfl ?_
            refine ro_cvP (pc := 90) (kc := 1) (avs := [.int x6]) (st := [.int x6, .ref (xa X 14)]) ok_Sta_wet wd_705 cl_14 cv_14 rfl ⟨by decide, by decide⟩ ⟨Nat.zero_le _, Nat.zero_le _⟩ (c_Sta_wet X N h7 14 isT_i14 x6) rfl rfl (Nat.le_of_ble_eq_true rfl) dX0_drain_90 (fun x13 => ?_)
            refine ro_iconst (v := 1) (pc := 93) dX0_drain_93 (by decide) ?_
            refine ro_iadd (pc := 94) dX0_drain_94 ?_
            refine ro_cvV (pc := 95) (kc := 1) (avs := [.int x6, .int (x13 + 1)]) (st := []) ok_Sta_setWet wd_792 cl_14 cv_14 rfl ⟨by decide, by decide⟩ ⟨Nat.zero_le _, Nat.zero_le _⟩ (c_Sta_setWet X N h7 14 isT_i14 x6 (x13 + 1)) rfl rfl (Nat.le_of_ble_eq_true rfl) dX0_drain_95 (fun h14 => ?_)
            exact hj9 h14
theorem c_Lab_drain (X : mu_X) (N : Nat) (h : mu_H) (a1 : Int32) : ∀ r, f_Lab_drain N h a1 = some r → mV X m_Lab_drain 3 [.ref (xa X 22), .int a1] h r := fun r hr => mV_of (by decide) rfl (Nat.le_of_ble_eq_true rfl) rfl (cb_Lab_drain X N h a1 r hr)
set_option maxRecDepth 20000 in
theorem cb_Lab_draw (X : mu_X) (N : Nat) (h : mu_H) (a1 : Int32) : aG X m_Lab_draw (rmk 1) (fun _ => ax X) (fun _ _ _ => True) 0 0 (fun r : Int32 × mu_H => qI X r.1 r.2) (f_Lab_draw N h a1) 0 [(0, .ref (xa X 22)), (1, .int a1)] [] h := by
  unfold f_Lab_draw
  refine ro_aload_n (pc := 0) 0 dX0_draw_0 rfl rfl ?_
  refine ro_aload_n (pc := 1) 0 dX0_draw_1 rfl rfl ?_
  refine gf_X0_6 (pc := 2) wd_255 dX0_draw_2 ?_
  refine ro_ldc2 (v := 6364136223846793005) (pc := 5) dX0_draw_5 wd_864 ?_
  refine ro_lmul (pc := 8) dX0_draw_8 ?_
  refine ro_ldc2 (v := 1442695040888963407) (pc := 9) dX0_draw_9 wd_865 ?_
  refine ro_ladd (pc := 12) dX0_draw_12 ?_
  refine pf_X0_6 (pc := 13) wd_255 dX0_draw_13 ?_
  refine ro_bnh (fun h1 => ?_)
  refine ro_iload_n (pc := 16) 1 dX0_draw_16 rfl rfl ?_
  refine ro_iconst (v := 1) (pc := 17) dX0_draw_17 (by decide) ?_
  refine ro_icmp_ge (tgt := 25) (pc := 18) dX0_draw_18 (by decide) (fun _ => ?_) (fun _ => ?_)
  · skip
    refine ro_aload_n (pc := 25) 0 dX0_draw_25 rfl rfl ?_
    refine gf_X0_6 (pc := 26) wd_255 dX0_draw_26 ?_
    refine ro_bipush (v := 33) (pc := 29) dX0_draw_29 (by decide) ?_
    refine ro_lushr (pc := 31) dX0_draw_31 ?_
    refine ro_iload_n (pc := 32) 1 dX0_draw_32 rfl rfl ?_
    refine ro_i2l (pc := 33) dX0_draw_33 ?_
    refine ro_lremg (pc := 34) dX0_draw_34 ?_
    refine ro_l2i (pc := 35) dX0_draw_35 ?_
    exact ro_iret (pc := 36) rfl rfl dX0_draw_36
  · skip
    refine ro_iconst (v := 0) (pc := 21) dX0_draw_21 (by decide) ?_
    refine ro_goto (tgt := 36) (pc := 22) dX0_draw_22 (by decide) ?_
    exact ro_iret (pc := 36) rfl rfl dX0_draw_36
theorem c_Lab_draw (X : mu_X) (N : Nat) (h : mu_H) (a1 : Int32) : ∀ r, f_Lab_draw N h a1 = some r → mI X m_Lab_draw 1 [.ref (xa X 22), .int a1] h r.1 r.2 := fun r hr => mI_of (by decide) rfl (Nat.le_of_ble_eq_true rfl) rfl (cb_Lab_draw X N h a1 r hr)
set_option maxRecDepth 20000 in
theorem cb_Lab_holdTo (X : mu_X) (N : Nat) (h : mu_H) (a1 : Int32) : aG X m_Lab_holdTo (rmk 1) (fun _ => ax X) (fun _ _ _ => True) 0 0 (fun r : Int32 × mu_H => qI X r.1 r.2) (f_Lab_holdTo N h a1) 0 [(0, .ref (xa X 22)), (1, .int a1)] [] h := by
  unfold f_Lab_holdTo
  refine ro_iload_n (pc := 0) 1 dX0_holdTo_0 rfl rfl ?_
  refine ro_iconst (v := (-1)) (pc := 1) dX0_holdTo_1 (by decide) ?_
  refine ro_icmp_lt (tgt := 13) (pc := 2) dX0_holdTo_2 (by decide) (fun _ => ?_) (fun _ => ?_)
  · skip
    refine ro_iconst (v := 0) (pc := 13) dX0_holdTo_13 (by decide) ?_
    exact ro_zret (pc := 14) rfl rfl rfl dX0_holdTo_14
  · skip
    refine ro_iload_n (pc := 5) 1 dX0_holdTo_5 rfl rfl ?_
    refine ro_aload_n (pc := 6) 0 dX0_holdTo_6 rfl rfl ?_
    refine gf_X0_4 (pc := 7) wd_253 dX0_holdTo_7 ?_
    refine ro_icmp_lt (tgt := 15) (pc := 10) dX0_holdTo_10 (by decide) (fun _ => ?_) (fun _ => ?_)
    · skip
      refine ro_aload_n (pc := 15) 0 dX0_holdTo_15 rfl rfl ?_
      refine ro_iload_n (pc := 16) 1 dX0_holdTo_16 rfl rfl ?_
      refine pf_X0_5 (pc := 17) wd_254 dX0_holdTo_17 ?_
      refine ro_bnh (fun h1 => ?_)
      refine ro_iconst (v := 1) (pc := 20) dX0_holdTo_20 (by decide) ?_
      exact ro_zret (pc := 21) rfl rfl rfl dX0_holdTo_21
    · skip
      refine ro_iconst (v := 0) (pc := 13) dX0_holdTo_13 (by decide) ?_
      exact ro_zret (pc := 14) rfl rfl rfl dX0_holdTo_14
theorem c_Lab_holdTo (X : mu_X) (N : Nat) (h : mu_H) (a1 : Int32) : ∀ r, f_Lab_holdTo N h a1 = some r → mI X m_Lab_holdTo 1 [.ref (xa X 22), .int a1] h r.1 r.2 := fun r hr => mI_of (by decide) rfl (Nat.le_of_ble_eq_true rfl) rfl (cb_Lab_holdTo X N h a1 r hr)
set_option maxRecDepth 20000 in
theorem cb_Lab_holding (X : mu_X) (N : Nat) (h : mu_H) : aG X m_Lab_holding (rmk 1) (fun _ => ax X) (fun _ _ _ => True) 0 0 (fun r : Int32 => qI X r h) (f_Lab_holding N h) 0 [(0, .ref (xa X 22))] [] h := by
  unfold f_Lab_holding
  refine ro_aload_n (pc := 0) 0 dX0_holding_0 rfl rfl ?_
  refine gf_X0_5 (pc := 1) wd_254 dX0_holding_1 ?_
  exact ro_iret (pc := 4) rfl rfl dX0_holding_4
theorem c_Lab_holding (X : mu_X) (N : Nat) (h : mu_H) : ∀ r, f_Lab_holding N h = some r → mI X m_Lab_holding 1 [.ref (xa X 22)] h r h := fun r hr => mI_of (by decide) rfl (Nat.le_of_ble_eq_true rfl) rfl (cb_Lab_holding X N h r hr)
set_option maxRecDepth 20000 in
theorem cb_Lab_laws (X : mu_X) (N : Nat) (h : mu_H) : aG X m_Lab_laws (rmk 1) (fun _ => ax X) (fun _ _ _ => True) 0 0 (fun r : Int32 => qI X r h) (f_Lab_laws N h) 0 [(0, .ref (xa X 22))] [] h := by
  unfold f_Lab_laws
  refine ro_aload_n (pc := 0) 0 dX0_laws_0 rfl rfl ?_
  refine gf_X0_4 (pc := 1) wd_253 dX0_laws_1 ?_
  exact ro_iret (pc := 4) rfl rfl dX0_laws_4
theorem c_Lab_laws (X : mu_X) (N : Nat) (h : mu_H) : ∀ r, f_Lab_laws N h = some r → mI X m_Lab_laws 1 [.ref (xa X 22)] h r h := fun r hr => mI_of (by decide) rfl (Nat.le_of_ble_eq_true rfl) rfl (cb_Lab_laws X N h r hr)
set_option maxRecDepth 20000 in
theorem cb_Lab_mostWorth (X : mu_X) (N : Nat) (h : mu_H) (a1 : Int32) : aG X m_Lab_mostWorth (rmk 7) (fun _ => ax X) (fun _ _ _ => True) 0 0 (fun r : Int32 × mu_H => qI X r.1 r.2) (f_Lab_mostWorth N h a1) 0 [(0, .ref (xa X 22)), (1, .int a1)] [] h := by
  unfold f_Lab_mostWorth
  refine ro_iconst (v := (-1)) (pc := 0) dX0_mostWorth_0 (by decide) ?_
  refine ro_istore_n (pc := 1) (lv' := [(2, .int (-1)), (0, .ref (xa X 22)), (1, .int a1)]) dX0_mostWorth_1 rfl (by decide) rfl ?_
  refine ro_iconst (v := (-1)) (pc := 2) dX0_mostWorth_2 (by decide) ?_
  refine ro_istore_n (pc := 3) (lv' := [(3, .int (-1)), (2, .int (-1)), (0, .ref (xa X 22)), (1, .int a1)]) dX0_mostWorth_3 rfl (by decide) rfl ?_
  refine ro_iconst (v := 0) (pc := 4) dX0_mostWorth_4 (by decide) ?_
  refine ro_istore (pc := 5) (lv' := [(4, .int 0), (3, .int (-1)), (2, .int (-1)), (0, .ref (xa X 22)), (1, .int a1)]) dX0_mostWorth_5 (by decide) rfl ?_
  refine ro_lv [3, 4, 2, 1, 0] rfl ?_
  refine ro_lp (pc := 7) (lvs := fun (s : Int32 × Int32 × Int32 × mu_H) => [(0, .ref (xa X 22)), (1, .int a1), (2, .int s.1), (3, .int s.2.1), (4, .int s.2.2.1)]) (hs := fun (s : Int32 × Int32 × Int32 × mu_H) => s.2.2.2) (fun rec1 hrec1 s => ?_) N ((-1), (-1), 0, h)
  obtain ⟨x2, x3, x4, h5⟩ := s; unfold f_Lab_mostWorth_L7; try dsimp only
  refine ro_iload (pc := 7) 4 dX0_mostWorth_7 rfl ?_
  refine ro_aload_n (pc := 9) 0 dX0_mostWorth_9 rfl rfl ?_
  refine gf_X0_0 (pc := 10) wd_249 dX0_mostWorth_10 ?_
  refine ro_cvP (pc := 13) (kc := 1) (avs := []) (st := [.int x4]) ok_Par_stretches wd_796 cl_3 cv_3 rfl ⟨by decide, by decide⟩ ⟨Nat.zero_le _, Nat.zero_le _⟩ (c_Par_stretches X N h5 3 isP_i3) rfl rfl (Nat.le_of_ble_eq_true rfl) dX0_mostWorth_13 (fun x6 => ?_)
  refine ro_icmp_ge (tgt := 59) (pc := 16) dX0_mostWorth_16 (by decide) (fun _ => ?_) (fun _ => ?_)
  · skip
    refine ro_iload_n (pc := 59) 3 dX0_mostWorth_59 rfl rfl ?_
    exact ro_iret (pc := 60) rfl rfl dX0_mostWorth_60
  · skip
    refine ro_aload_n (pc := 19) 0 dX0_mostWorth_19 rfl rfl ?_
    refine ro_iload_n (pc := 20) 1 dX0_mostWorth_20 rfl rfl ?_
    refine ro_iload (pc := 21) 4 dX0_mostWorth_21 rfl ?_
    refine ro_cvP (pc := 23) (kc := 3) (avs := [.int a1, .int x4]) (st := []) ok_Lab_canCome wd_691 cl_22 cv_22 rfl ⟨by decide, by decide⟩ ⟨Nat.zero_le _, Nat.zero_le _⟩ (c_Lab_canCome X N h5 a1 x4) rfl rfl (Nat.le_of_ble_eq_true rfl) dX0_mostWorth_23 (fun x7 => ?_)
    refine ro_jn (pcj := 53) (lvs := fun (s : Int32 × Int32 × mu_H) => [(0, .ref (xa X 22)), (1, .int a1), (2, .int s.1), (3, .int s.2.1), (4, .int x4)]) (hs := fun (s : Int32 × Int32 × mu_H) => s.2.2) (sts := fun (s : Int32 × Int32 × mu_H) => []) (fun s => ?_) (fun j8 hj8 => ?_)
    · obtain ⟨x9, x10, h11⟩ := s; try dsimp only
      refine ro_iinc (pc := 53) (v := x4 + 1) (lv' := [(4, .int (x4 + 1)), (0, .ref (xa X 22)), (1, .int a1), (2, .int x9), (3, .int x10)]) 4 dX0_mostWorth_53 rfl rfl (by decide) rfl ?_
      refine ro_goto (tgt := 7) (pc := 56) dX0_mostWorth_56 (by decide) ?_
      refine ro_lv [1, 2, 3, 4, 0] rfl ?_
      exact hrec1 (x9, x10, x4 + 1, h11)
    · skip
      refine ro_if_eq (tgt := 53) (pc := 26) dX0_mostWorth_26 (by decide) (fun _ => ?_) (fun _ => ?_)
      · skip
        exact hj8 (x2, x3, h5)
      · skip
        refine ro_aload_n (pc := 29) 0 dX0_mostWorth_29 rfl rfl ?_
        refine ro_iload_n (pc := 30) 1 dX0_mostWorth_30 rfl rfl ?_
        refine ro_iload (pc := 31) 4 dX0_mostWorth_31 rfl ?_
        refine ro_iconst (v := 0) (pc := 33) dX0_mostWorth_33 (by decide) ?_
        refine ro_cvI (pc := 34) (kc := 6) (avs := [.int a1, .int x4, .int 0]) (st := []) ok_Lab_effectNow wd_967 cl_22 cv_22 rfl ⟨by decide, by decide⟩ ⟨Nat.zero_le _, Nat.zero_le _⟩ (c_Lab_effectNow X N h5 a1 x4 0) rfl rfl (Nat.le_of_ble_eq_true rfl) dX0_mostWorth_34 (fun x12 h13 => ?_)
        refine ro_iload_n (pc := 37) 2 dX0_mostWorth_37 rfl rfl ?_
        refine ro_icmp_le (tgt := 53) (pc := 38) dX0_mostWorth_38 (by decide) (fun _ => ?_) (fun _ => ?_)
        · skip
          exact hj8 (x2, x3, h13)
        · skip
          refine ro_aload_n (pc := 41) 0 dX0_mostWorth_41 rfl rfl ?_
          refine ro_iload_n (pc := 42) 1 dX0_mostWorth_42 rfl rfl ?_
          refine ro_iload (pc := 43) 4 dX0_mostWorth_43 rfl ?_
          refine ro_iconst (v := 0) (pc := 45) dX0_mostWorth_45 (by decide) ?_
          refine ro_cvI (pc := 46) (kc := 6) (avs := [.int a1, .int x4, .int 0]) (st := []) ok_Lab_effectNow wd_967 cl_22 cv_22 rfl ⟨by decide, by decide⟩ ⟨Nat.zero_le _, Nat.zero_le _⟩ (c_Lab_effectNow X N h13 a1 x4 0) rfl rfl (Nat.le_of_ble_eq_true rfl) dX0_mostWorth_46 (fun x15 h16 => ?_)
          refine ro_istore_n (pc := 49) (lv' := [(2, .int x15), (0, .ref (xa X 22)), (1, .int a1), (3, .int x3), (4, .int x4)]) dX0_mostWorth_49 rfl (by decide) rfl ?_
          refine ro_iload (pc := 50) 4 dX0_mostWorth_50 rfl ?_
          refine ro_istore_n (pc := 52) (lv' := [(3, .int x4), (2, .int x15), (0, .ref (xa X 22)), (1, .int a1), (4, .int x4)]) dX0_mostWorth_52 rfl (by decide) rfl ?_
          refine ro_lv [2, 3, 1, 0, 4] rfl ?_
          exact hj8 (x15, x4, h16)
theorem c_Lab_mostWorth (X : mu_X) (N : Nat) (h : mu_H) (a1 : Int32) : ∀ r, f_Lab_mostWorth N h a1 = some r → mI X m_Lab_mostWorth 7 [.ref (xa X 22), .int a1] h r.1 r.2 := fun r hr => mI_of (by decide) rfl (Nat.le_of_ble_eq_true rfl) rfl (cb_Lab_mostWorth X N h a1 r hr)
set_option maxRecDepth 20000 in
theorem cb_Lab_wornOn (X : mu_X) (N : Nat) (h : mu_H) (a1 : Int32) (a2 : Int32) (a3 : Int32) : aG X m_Lab_wornOn (rmk 2) (fun _ => ax X) (fun _ _ _ => True) 0 0 (fun r : Int32 => qI X r h) (f_Lab_wornOn N h a1 a2 a3) 0 [(0, .ref (xa X 22)), (1, .int a1), (2, .int a2), (3, .int a3)] [] h := by
  unfold f_Lab_wornOn
  refine ro_iload_n (pc := 0) 2 dX0_wornOn_0 rfl rfl ?_
  refine ro_aload_n (pc := 1) 0 dX0_wornOn_1 rfl rfl ?_
  refine gf_X0_0 (pc := 2) wd_249 dX0_wornOn_2 ?_
  refine ro_iload_n (pc := 5) 1 dX0_wornOn_5 rfl rfl ?_
  refine ro_iconst (v := 4) (pc := 6) dX0_wornOn_6 (by decide) ?_
  refine ro_cvP (pc := 7) (kc := 1) (avs := [.int a1, .int 4]) (st := [.int a2]) ok_Par_ofStretch wd_791 cl_3 cv_3 rfl ⟨by decide, by decide⟩ ⟨Nat.zero_le _, Nat.zero_le _⟩ (c_Par_ofStretch X N h 3 isP_i3 a1 4) rfl rfl (Nat.le_of_ble_eq_true rfl) dX0_wornOn_7 (fun x1 => ?_)
  refine ro_iadd (pc := 10) dX0_wornOn_10 ?_
  refine ro_bn (fun x2 => ?_)
  refine ro_istore (pc := 11) (lv' := [(4, .int x2), (0, .ref (xa X 22)), (1, .int a1), (2, .int a2), (3, .int a3)]) dX0_wornOn_11 (by decide) rfl ?_
  refine ro_iload_n (pc := 13) 4 dX0_wornOn_13 rfl rfl ?_
  refine ro_jn (pcj := 39) (lvs := fun (s : Int32) => [(4, .int s)]) (hs := fun (s : Int32) => h) (sts := fun (s : Int32) => []) (fun x4 => ?_) (fun j3 hj3 => ?_)
  · try dsimp only
    refine ro_iload (pc := 39) 0 dX0_wornOn_39 rfl ?_
    refine ro_bipush (v := 99) (pc := 41) dX0_wornOn_41 (by decide) ?_
    refine ro_icmp_le (tgt := 51) (pc := 43) dX0_wornOn_43 (by decide) (fun _ => ?_) (fun _ => ?_)
    · skip
      refine ro_iload (pc := 51) 0 dX0_wornOn_51 rfl ?_
      exact ro_iret (pc := 53) rfl rfl dX0_wornOn_53
    · skip
      refine ro_bipush (v := 99) (pc := 46) dX0_wornOn_46 (by decide) ?_
      refine ro_goto (tgt := 53) (pc := 48) dX0_wornOn_48 (by decide) ?_
      exact ro_iret (pc := 53) rfl rfl dX0_wornOn_53
  · skip
    refine ro_if_eq (tgt := 39) (pc := 14) dX0_wornOn_14 (by decide) (fun _ => ?_) (fun _ => ?_)
    · skip
      refine ro_lv [0] rfl ?_
      exact hj3 x2
    · skip
      refine ro_iload (pc := 17) 0 dX0_wornOn_17 rfl ?_
      refine ro_aload_n (pc := 19) 1 dX0_wornOn_19 rfl rfl ?_
      refine gf_X0_0 (pc := 20) wd_249 dX0_wornOn_20 ?_
      refine ro_iconst (v := 1) (pc := 23) dX0_wornOn_23 (by decide) ?_
      refine ro_cvP (pc := 24) (kc := 1) (avs := [.int 1]) (st := [.int x2]) ok_Par_ofRules wd_768 cl_3 cv_3 rfl ⟨by decide, by decide⟩ ⟨Nat.zero_le _, Nat.zero_le _⟩ (c_Par_ofRules X N h 3 isP_i3 1) rfl rfl (Nat.le_of_ble_eq_true rfl) dX0_wornOn_24 (fun x5 => ?_)
      refine ro_aload_n (pc := 27) 1 dX0_wornOn_27 rfl rfl ?_
      refine gf_X0_1 (pc := 28) wd_250 dX0_wornOn_28 ?_
      refine ro_iload_n (pc := 31) 2 dX0_wornOn_31 rfl rfl ?_
      refine ro_cvP (pc := 32) (kc := 1) (avs := [.int a1]) (st := [.int x5, .int x2]) ok_Sta_wet wd_705 cl_14 cv_14 rfl ⟨by decide, by decide⟩ ⟨Nat.zero_le _, Nat.zero_le _⟩ (c_Sta_wet X N h 14 isT_i14 a1) rfl rfl (Nat.le_of_ble_eq_true rfl) dX0_wornOn_32 (fun x6 => ?_)
      refine ro_iadd (pc := 35) dX0_wornOn_35 ?_
      refine ro_iadd (pc := 36) dX0_wornOn_36 ?_
      refine ro_bn (fun x7 => ?_)
      refine ro_istore (pc := 37) (lv' := [(4, .int x7), (0, .ref (xa X 22)), (1, .int a1), (2, .int a2), (3, .int a3)]) dX0_wornOn_37 (by decide) rfl ?_
      refine ro_lv [0] rfl ?_
      exact hj3 x7
theorem c_Lab_wornOn (X : mu_X) (N : Nat) (h : mu_H) (a1 : Int32) (a2 : Int32) (a3 : Int32) : ∀ r, f_Lab_wornOn N h a1 a2 a3 = some r → mI X m_Lab_wornOn 2 [.ref (xa X 22), .int a1, .int a2, .int a3] h r h := fun r hr => mI_of (by decide) rfl (Nat.le_of_ble_eq_true rfl) rfl (cb_Lab_wornOn X N h a1 a2 a3 r hr)
set_option maxRecDepth 20000 in
theorem cb_Lab_passSeason (X : mu_X) (N : Nat) (h : mu_H) : aG X m_Lab_passSeason (rmk 4) (fun _ => ax X) (fun _ _ _ => True) 0 0 (fun r : mu_H => qV X r) (f_Lab_passSeason N h) 0 [(0, .ref (xa X 22))] [] h := by
  unfold f_Lab_passSeason
  refine ro_aload_n (pc := 0) 0 dX0_passSeason_0 rfl rfl ?_
  refine gf_X0_1 (pc := 1) wd_250 dX0_passSeason_1 ?_
  refine ro_cvP (pc := 4) (kc := 1) (avs := []) (st := []) ok_Sta_isWinter wd_724 cl_14 cv_14 rfl ⟨by decide, by decide⟩ ⟨Nat.zero_le _, Nat.zero_le _⟩ (c_Sta_isWinter X N h 14 isT_i14) rfl rfl (Nat.le_of_ble_eq_true rfl) dX0_passSeason_4 (fun x1 => ?_)
  refine ro_istore_n (pc := 7) (lv' := [(1, .int x1), (0, .ref (xa X 22))]) dX0_passSeason_7 rfl (by decide) rfl ?_
  refine ro_iconst (v := 0) (pc := 8) dX0_passSeason_8 (by decide) ?_
  refine ro_istore_n (pc := 9) (lv' := [(2, .int 0), (1, .int x1), (0, .ref (xa X 22))]) dX0_passSeason_9 rfl (by decide) rfl ?_
  refine ro_jn (pcj := 49) (lvs := fun (s : mu_H) => [(0, .ref (xa X 22))]) (hs := fun (s : mu_H) => s) (sts := fun (s : mu_H) => []) (fun h3 => ?_) (fun k2 hk2 => ?_)
  · try dsimp only
    refine ro_aload_n (pc := 49) 0 dX0_passSeason_49 rfl rfl ?_
    refine gf_X0_1 (pc := 50) wd_250 dX0_passSeason_50 ?_
    refine ro_cvV (pc := 53) (kc := 1) (avs := []) (st := []) ok_Sta_nextSeason wd_814 cl_14 cv_14 rfl ⟨by decide, by decide⟩ ⟨Nat.zero_le _, Nat.zero_le _⟩ (c_Sta_nextSeason X N h3 14 isT_i14) rfl rfl (Nat.le_of_ble_eq_true rfl) dX0_passSeason_53 (fun h4 => ?_)
    refine ro_aload_n (pc := 56) 0 dX0_passSeason_56 rfl rfl ?_
    refine gf_X0_1 (pc := 57) wd_250 dX0_passSeason_57 ?_
    refine ro_cvP (pc := 60) (kc := 1) (avs := []) (st := []) ok_Sta_season wd_706 cl_14 cv_14 rfl ⟨by decide, by decide⟩ ⟨Nat.zero_le _, Nat.zero_le _⟩ (c_Sta_season X N h4 14 isT_i14) rfl rfl (Nat.le_of_ble_eq_true rfl) dX0_passSeason_60 (fun x5 => ?_)
    refine ro_iconst (v := 4) (pc := 63) dX0_passSeason_63 (by decide) ?_
    refine ro_irem (pc := 64) dX0_passSeason_64 (by decide) ?_
    refine ro_jn (pcj := 72) (lvs := fun (s : mu_H) => [(0, .ref (xa X 22))]) (hs := fun (s : mu_H) => s) (sts := fun (s : mu_H) => []) (fun h7 => ?_) (fun j6 hj6 => ?_)
    · try dsimp only
      refine ro_aload_n (pc := 72) 0 dX0_passSeason_72 rfl rfl ?_
      refine gf_X0_1 (pc := 73) wd_250 dX0_passSeason_73 ?_
      refine ro_cvV (pc := 76) (kc := 3) (avs := []) (st := []) ok_Sta_writeLog wd_831 cl_14 cv_14 rfl ⟨by decide, by decide⟩ ⟨Nat.zero_le _, Nat.zero_le _⟩ (c_Sta_writeLog X N h7 14 isT_i14) rfl rfl (Nat.le_of_ble_eq_true rfl) dX0_passSeason_76 (fun h8 => ?_)
      exact ro_vret (pc := 79) rfl rfl dX0_passSeason_79
    · skip
      refine ro_if_ne (tgt := 72) (pc := 65) dX0_passSeason_65 (by decide) (fun _ => ?_) (fun _ => ?_)
      · skip
        exact hj6 h4
      · skip
        refine ro_aload_n (pc := 68) 0 dX0_passSeason_68 rfl rfl ?_
        refine ro_cvV (pc := 69) (kc := 2) (avs := []) (st := []) ok_Lab_beginYear wd_818 cl_22 cv_22 rfl ⟨by decide, by decide⟩ ⟨Nat.zero_le _, Nat.zero_le _⟩ (c_Lab_beginYear X N h4) rfl rfl (Nat.le_of_ble_eq_true rfl) dX0_passSeason_69 (fun h9 => ?_)
        exact hj6 h9
  · skip
    refine ro_lv [2, 1, 0] rfl ?_
    refine ro_lp (pc := 10) (lvs := fun (s : Int32 × mu_H) => [(0, .ref (xa X 22)), (1, .int x1), (2, .int s.1)]) (hs := fun (s : Int32 × mu_H) => s.2) (fun rec10 hrec10 s => ?_) N (0, h)
    obtain ⟨x11, h12⟩ := s; unfold f_Lab_passSeason_L10; try dsimp only
    refine ro_iload_n (pc := 10) 2 dX0_passSeason_10 rfl rfl ?_
    refine ro_aload_n (pc := 11) 0 dX0_passSeason_11 rfl rfl ?_
    refine gf_X0_0 (pc := 12) wd_249 dX0_passSeason_12 ?_
    refine ro_cvP (pc := 15) (kc := 1) (avs := []) (st := [.int x11]) ok_Par_stretches wd_796 cl_3 cv_3 rfl ⟨by decide, by decide⟩ ⟨Nat.zero_le _, Nat.zero_le _⟩ (c_Par_stretches X N h12 3 isP_i3) rfl rfl (Nat.le_of_ble_eq_true rfl) dX0_passSeason_15 (fun x13 => ?_)
    refine ro_icmp_ge (tgt := 49) (pc := 18) dX0_passSeason_18 (by decide) (fun _ => ?_) (fun _ => ?_)
    · skip
      refine ro_lv [0] rfl ?_
      exact hk2 h12
    · skip
      refine ro_aload_n (pc := 21) 0 dX0_passSeason_21 rfl rfl ?_
      refine gf_X0_1 (pc := 22) wd_250 dX0_passSeason_22 ?_
      refine ro_iload_n (pc := 25) 2 dX0_passSeason_25 rfl rfl ?_
      refine ro_aload_n (pc := 26) 0 dX0_passSeason_26 rfl rfl ?_
      refine ro_iload_n (pc := 27) 2 dX0_passSeason_27 rfl rfl ?_
      refine ro_aload_n (pc := 28) 0 dX0_passSeason_28 rfl rfl ?_
      refine gf_X0_1 (pc := 29) wd_250 dX0_passSeason_29 ?_
      refine ro_iload_n (pc := 32) 2 dX0_passSeason_32 rfl rfl ?_
      refine ro_cvP (pc := 33) (kc := 1) (avs := [.int x11]) (st := [.int x11, .ref (xa X 22), .int x11, .ref (xa X 14)]) ok_Sta_wear wd_753 cl_14 cv_14 rfl ⟨by decide, by decide⟩ ⟨Nat.zero_le _, Nat.zero_le _⟩ (c_Sta_wear X N h12 14 isT_i14 x11) rfl rfl (Nat.le_of_ble_eq_true rfl) dX0_passSeason_33 (fun x14 => ?_)
      refine ro_iload_n (pc := 36) 1 dX0_passSeason_36 rfl rfl ?_
      refine ro_cvP (pc := 37) (kc := 2) (avs := [.int x11, .int x14, .int x1]) (st := [.int x11, .ref (xa X 14)]) ok_Lab_wornOn wd_810 cl_22 cv_22 rfl ⟨by decide, by decide⟩ ⟨Nat.zero_le _, Nat.zero_le _⟩ (c_Lab_wornOn X N h12 x11 x14 x1) rfl rfl (Nat.le_of_ble_eq_true rfl) dX0_passSeason_37 (fun x15 => ?_)
      refine ro_cvV (pc := 40) (kc := 1) (avs := [.int x11, .int x15]) (st := []) ok_Sta_setWear wd_755 cl_14 cv_14 rfl ⟨by decide, by decide⟩ ⟨Nat.zero_le _, Nat.zero_le _⟩ (c_Sta_setWear X N h12 14 isT_i14 x11 x15) rfl rfl (Nat.le_of_ble_eq_true rfl) dX0_passSeason_40 (fun h16 => ?_)
      refine ro_iinc (pc := 43) (v := x11 + 1) (lv' := [(2, .int (x11 + 1)), (0, .ref (xa X 22)), (1, .int x1)]) 2 dX0_passSeason_43 rfl rfl (by decide) rfl ?_
      refine ro_goto (tgt := 10) (pc := 46) dX0_passSeason_46 (by decide) ?_
      refine ro_lv [1, 2, 0] rfl ?_
      exact hrec10 (x11 + 1, h16)
theorem c_Lab_passSeason (X : mu_X) (N : Nat) (h : mu_H) : ∀ r, f_Lab_passSeason N h = some r → mV X m_Lab_passSeason 4 [.ref (xa X 22)] h r := fun r hr => mV_of (by decide) rfl (Nat.le_of_ble_eq_true rfl) rfl (cb_Lab_passSeason X N h r hr)
set_option maxRecDepth 20000 in
theorem cb_Lab_sow (X : mu_X) (N : Nat) (h : mu_H) (a1 : Int64) : aG X m_Lab_sow (rmk 1) (fun _ => ax X) (fun _ _ _ => True) 0 0 (fun r : mu_H => qV X r) (f_Lab_sow N h a1) 0 [(0, .ref (xa X 22)), (1, .long a1)] [] h := by
  unfold f_Lab_sow
  refine ro_aload_n (pc := 0) 0 dX0_sow_0 rfl rfl ?_
  refine ro_lload_n (pc := 1) 1 dX0_sow_1 rfl rfl ?_
  refine pf_X0_6 (pc := 2) wd_255 dX0_sow_2 ?_
  refine ro_bnh (fun h1 => ?_)
  exact ro_vret (pc := 5) rfl rfl dX0_sow_5
theorem c_Lab_sow (X : mu_X) (N : Nat) (h : mu_H) (a1 : Int64) : ∀ r, f_Lab_sow N h a1 = some r → mV X m_Lab_sow 1 [.ref (xa X 22), .long a1] h r := fun r hr => mV_of (by decide) rfl (Nat.le_of_ble_eq_true rfl) rfl (cb_Lab_sow X N h a1 r hr)
set_option maxRecDepth 20000 in
theorem cb_Lab_workDay (X : mu_X) (N : Nat) (h : mu_H) (a1 : Int32) (a2 : Int32) (a3 : Int32) : aG X m_Lab_workDay (rmk 6) (fun _ => ax X) (fun _ _ _ => True) 0 0 (fun r : mu_H => qV X r) (f_Lab_workDay N h a1 a2 a3) 0 [(0, .ref (xa X 22)), (1, .int a1), (2, .int a2), (3, .int a3)] [] h := by
  unfold f_Lab_workDay
  refine ro_aload_n (pc := 0) 0 dX0_workDay_0 rfl rfl ?_
  refine gf_X0_1 (pc := 1) wd_250 dX0_workDay_1 ?_
  refine ro_iload_n (pc := 4) 2 dX0_workDay_4 rfl rfl ?_
  refine ro_cvP (pc := 5) (kc := 1) (avs := [.int a2]) (st := []) ok_Sta_wear wd_753 cl_14 cv_14 rfl ⟨by decide, by decide⟩ ⟨Nat.zero_le _, Nat.zero_le _⟩ (c_Sta_wear X N h 14 isT_i14 a2) rfl rfl (Nat.le_of_ble_eq_true rfl) dX0_workDay_5 (fun x1 => ?_)
  refine ro_aload_n (pc := 8) 0 dX0_workDay_8 rfl rfl ?_
  refine ro_iload_n (pc := 9) 1 dX0_workDay_9 rfl rfl ?_
  refine ro_iload_n (pc := 10) 2 dX0_workDay_10 rfl rfl ?_
  refine ro_iload_n (pc := 11) 3 dX0_workDay_11 rfl rfl ?_
  refine ro_aload_n (pc := 12) 0 dX0_workDay_12 rfl rfl ?_
  refine gf_X0_1 (pc := 13) wd_250 dX0_workDay_13 ?_
  refine ro_iload_n (pc := 16) 2 dX0_workDay_16 rfl rfl ?_
  refine ro_cvP (pc := 17) (kc := 1) (avs := [.int a2]) (st := [.int a3, .int a2, .int a1, .ref (xa X 22), .int x1]) ok_Sta_wear wd_753 cl_14 cv_14 rfl ⟨by decide, by decide⟩ ⟨Nat.zero_le _, Nat.zero_le _⟩ (c_Sta_wear X N h 14 isT_i14 a2) rfl rfl (Nat.le_of_ble_eq_true rfl) dX0_workDay_17 (fun x2 => ?_)
  refine ro_cvI (pc := 20) (kc := 5) (avs := [.int a1, .int a2, .int a3, .int x2]) (st := [.int x1]) ok_Lab_effect wd_754 cl_22 cv_22 rfl ⟨by decide, by decide⟩ ⟨Nat.zero_le _, Nat.zero_le _⟩ (c_Lab_effect X N h a1 a2 a3 x2) rfl rfl (Nat.le_of_ble_eq_true rfl) dX0_workDay_20 (fun x3 h4 => ?_)
  refine ro_isub (pc := 23) dX0_workDay_23 ?_
  refine ro_bn (fun x6 => ?_)
  refine ro_istore (pc := 24) (lv' := [(4, .int x6), (0, .ref (xa X 22)), (1, .int a1), (2, .int a2), (3, .int a3)]) dX0_workDay_24 (by decide) rfl ?_
  refine ro_aload_n (pc := 26) 1 dX0_workDay_26 rfl rfl ?_
  refine gf_X0_1 (pc := 27) wd_250 dX0_workDay_27 ?_
  refine ro_iload_n (pc := 30) 3 dX0_workDay_30 rfl rfl ?_
  refine ro_iload (pc := 31) 0 dX0_workDay_31 rfl ?_
  refine ro_jn (pcj := 42) (lvs := fun (s : Int32) => [(0, .ref (xa X 22)), (1, .int a1), (3, .int a3)]) (hs := fun (s : Int32) => h4) (sts := fun (s : Int32) => [.int s, .int a2, .ref (xa X 14)]) (fun x8 => ?_) (fun j7 hj7 => ?_)
  · try dsimp only
    refine ro_cvV (pc := 42) (kc := 1) (avs := [.int a2, .int x8]) (st := []) ok_Sta_setWear wd_755 cl_14 cv_14 rfl ⟨by decide, by decide⟩ ⟨Nat.zero_le _, Nat.zero_le _⟩ (c_Sta_setWear X N h4 14 isT_i14 a2 x8) rfl rfl (Nat.le_of_ble_eq_true rfl) dX0_workDay_42 (fun h9 => ?_)
    refine ro_aload_n (pc := 45) 0 dX0_workDay_45 rfl rfl ?_
    refine gf_X0_1 (pc := 46) wd_250 dX0_workDay_46 ?_
    refine ro_iload_n (pc := 49) 1 dX0_workDay_49 rfl rfl ?_
    refine ro_aload_n (pc := 50) 0 dX0_workDay_50 rfl rfl ?_
    refine gf_X0_1 (pc := 51) wd_250 dX0_workDay_51 ?_
    refine ro_iload_n (pc := 54) 1 dX0_workDay_54 rfl rfl ?_
    refine ro_cvP (pc := 55) (kc := 1) (avs := [.int a1]) (st := [.int a1, .ref (xa X 14)]) ok_Sta_owed wd_759 cl_14 cv_14 rfl ⟨by decide, by decide⟩ ⟨Nat.zero_le _, Nat.zero_le _⟩ (c_Sta_owed X N h9 14 isT_i14 a1) rfl rfl (Nat.le_of_ble_eq_true rfl) dX0_workDay_55 (fun x10 => ?_)
    refine ro_iconst (v := 1) (pc := 58) dX0_workDay_58 (by decide) ?_
    refine ro_isub (pc := 59) dX0_workDay_59 ?_
    refine ro_cvV (pc := 60) (kc := 1) (avs := [.int a1, .int (x10 - 1)]) (st := []) ok_Sta_setOwed wd_760 cl_14 cv_14 rfl ⟨by decide, by decide⟩ ⟨Nat.zero_le _, Nat.zero_le _⟩ (c_Sta_setOwed X N h9 14 isT_i14 a1 (x10 - 1)) rfl rfl (Nat.le_of_ble_eq_true rfl) dX0_workDay_60 (fun h11 => ?_)
    refine ro_aload_n (pc := 63) 0 dX0_workDay_63 rfl rfl ?_
    refine gf_X0_1 (pc := 64) wd_250 dX0_workDay_64 ?_
    refine ro_cvV (pc := 67) (kc := 1) (avs := []) (st := []) ok_Sta_countWork wd_764 cl_14 cv_14 rfl ⟨by decide, by decide⟩ ⟨Nat.zero_le _, Nat.zero_le _⟩ (c_Sta_countWork X N h11 14 isT_i14) rfl rfl (Nat.le_of_ble_eq_true rfl) dX0_workDay_67 (fun h12 => ?_)
    refine ro_iload_n (pc := 70) 2 dX0_workDay_70 rfl rfl ?_
    refine ro_iconst (v := 2) (pc := 71) dX0_workDay_71 (by decide) ?_
    refine ro_icmp_ne (tgt := 90) (pc := 72) dX0_workDay_72 (by decide) (fun _ => ?_) (fun _ => ?_)
    · skip
      exact ro_vret (pc := 90) rfl rfl dX0_workDay_90
    · skip
      refine ro_aload_n (pc := 75) 0 dX0_workDay_75 rfl rfl ?_
      refine gf_X0_1 (pc := 76) wd_250 dX0_workDay_76 ?_
      refine ro_aload_n (pc := 79) 0 dX0_workDay_79 rfl rfl ?_
      refine gf_X0_0 (pc := 80) wd_249 dX0_workDay_80 ?_
      refine ro_iconst (v := 2) (pc := 83) dX0_workDay_83 (by decide) ?_
      refine ro_cvP (pc := 84) (kc := 1) (avs := [.int 2]) (st := [.ref (xa X 14)]) ok_Par_ofRules wd_768 cl_3 cv_3 rfl ⟨by decide, by decide⟩ ⟨Nat.zero_le _, Nat.zero_le _⟩ (c_Par_ofRules X N h12 3 isP_i3 2) rfl rfl (Nat.le_of_ble_eq_true rfl) dX0_workDay_84 (fun x13 => ?_)
      refine ro_cvV (pc := 87) (kc := 1) (avs := [.int x13]) (st := []) ok_Sta_addToBox wd_769 cl_14 cv_14 rfl ⟨by decide, by decide⟩ ⟨Nat.zero_le _, Nat.zero_le _⟩ (c_Sta_addToBox X N h12 14 isT_i14 x13) rfl rfl (Nat.le_of_ble_eq_true rfl) dX0_workDay_87 (fun h14 => ?_)
      exact ro_vret (pc := 90) rfl rfl dX0_workDay_90
  · skip
    refine ro_if_ge (tgt := 40) (pc := 33) dX0_workDay_33 (by decide) (fun _ => ?_) (fun _ => ?_)
    · skip
      refine ro_iload (pc := 40) 0 dX0_workDay_40 rfl ?_
      refine ro_lv [1, 2, 4] rfl ?_
      exact hj7 x6
    · skip
      refine ro_iconst (v := 0) (pc := 36) dX0_workDay_36 (by decide) ?_
      refine ro_goto (tgt := 42) (pc := 37) dX0_workDay_37 (by decide) ?_
      refine ro_lv [1, 2, 4] rfl ?_
      exact hj7 0
theorem c_Lab_workDay (X : mu_X) (N : Nat) (h : mu_H) (a1 : Int32) (a2 : Int32) (a3 : Int32) : ∀ r, f_Lab_workDay N h a1 a2 a3 = some r → mV X m_Lab_workDay 6 [.ref (xa X 22), .int a1, .int a2, .int a3] h r := fun r hr => mV_of (by decide) rfl (Nat.le_of_ble_eq_true rfl) rfl (cb_Lab_workDay X N h a1 a2 a3 r hr)
set_option maxRecDepth 20000 in
theorem cb_Lab_workDrawnDays (X : mu_X) (N : Nat) (h : mu_H) : aG X m_Lab_workDrawnDays (rmk 7) (fun _ => ax X) (fun _ _ _ => True) 0 0 (fun r : mu_H => qV X r) (f_Lab_workDrawnDays N h) 0 [(0, .ref (xa X 22))] [] h := by
  unfold f_Lab_workDrawnDays
  refine ro_iconst (v := 0) (pc := 0) dX0_workDrawnDays_0 (by decide) ?_
  refine ro_istore_n (pc := 1) (lv' := [(1, .int 0), (0, .ref (xa X 22))]) dX0_workDrawnDays_1 rfl (by decide) rfl ?_
  refine ro_lv [1, 0] rfl ?_
  refine ro_lp (pc := 2) (lvs := fun (s : Int32 × mu_H) => [(0, .ref (xa X 22)), (1, .int s.1)]) (hs := fun (s : Int32 × mu_H) => s.2) (fun rec1 hrec1 s => ?_) N (0, h)
  obtain ⟨x2, h3⟩ := s; unfold f_Lab_workDrawnDays_L2; try dsimp only
  refine ro_iload_n (pc := 2) 1 dX0_workDrawnDays_2 rfl rfl ?_
  refine ro_aload_n (pc := 3) 0 dX0_workDrawnDays_3 rfl rfl ?_
  refine gf_X0_0 (pc := 4) wd_249 dX0_workDrawnDays_4 ?_
  refine ro_cvP (pc := 7) (kc := 1) (avs := []) (st := [.int x2]) ok_Par_houses wd_822 cl_3 cv_3 rfl ⟨by decide, by decide⟩ ⟨Nat.zero_le _, Nat.zero_le _⟩ (c_Par_houses X N h3 3 isP_i3) rfl rfl (Nat.le_of_ble_eq_true rfl) dX0_workDrawnDays_7 (fun x4 => ?_)
  refine ro_icmp_ge (tgt := 92) (pc := 10) dX0_workDrawnDays_10 (by decide) (fun _ => ?_) (fun _ => ?_)
  · skip
    exact ro_vret (pc := 92) rfl rfl dX0_workDrawnDays_92
  · skip
    refine ro_aload_n (pc := 13) 0 dX0_workDrawnDays_13 rfl rfl ?_
    refine gf_X0_1 (pc := 14) wd_250 dX0_workDrawnDays_14 ?_
    refine ro_iload_n (pc := 17) 1 dX0_workDrawnDays_17 rfl rfl ?_
    refine ro_cvP (pc := 18) (kc := 1) (avs := [.int x2]) (st := []) ok_Sta_owed wd_759 cl_14 cv_14 rfl ⟨by decide, by decide⟩ ⟨Nat.zero_le _, Nat.zero_le _⟩ (c_Sta_owed X N h3 14 isT_i14 x2) rfl rfl (Nat.le_of_ble_eq_true rfl) dX0_workDrawnDays_18 (fun x5 => ?_)
    refine ro_jn (pcj := 86) (lvs := fun (s : mu_H) => [(0, .ref (xa X 22)), (1, .int x2)]) (hs := fun (s : mu_H) => s) (sts := fun (s : mu_H) => []) (fun h7 => ?_) (fun j6 hj6 => ?_)
    · try dsimp only
      refine ro_iinc (pc := 86) (v := x2 + 1) (lv' := [(1, .int (x2 + 1)), (0, .ref (xa X 22))]) 1 dX0_workDrawnDays_86 rfl rfl (by decide) rfl ?_
      refine ro_goto (tgt := 2) (pc := 89) dX0_workDrawnDays_89 (by decide) ?_
      refine ro_lv [1, 0] rfl ?_
      exact hrec1 (x2 + 1, h7)
    · skip
      refine ro_if_le (tgt := 86) (pc := 21) dX0_workDrawnDays_21 (by decide) (fun _ => ?_) (fun _ => ?_)
      · skip
        exact hj6 h3
      · skip
        refine ro_aload_n (pc := 24) 0 dX0_workDrawnDays_24 rfl rfl ?_
        refine ro_aload_n (pc := 25) 0 dX0_workDrawnDays_25 rfl rfl ?_
        refine gf_X0_0 (pc := 26) wd_249 dX0_workDrawnDays_26 ?_
        refine ro_cvP (pc := 29) (kc := 1) (avs := []) (st := [.ref (xa X 22)]) ok_Par_stretches wd_796 cl_3 cv_3 rfl ⟨by decide, by decide⟩ ⟨Nat.zero_le _, Nat.zero_le _⟩ (c_Par_stretches X N h3 3 isP_i3) rfl rfl (Nat.le_of_ble_eq_true rfl) dX0_workDrawnDays_29 (fun x8 => ?_)
        refine ro_cvI (pc := 32) (kc := 1) (avs := [.int x8]) (st := []) ok_Lab_draw wd_860 cl_22 cv_22 rfl ⟨by decide, by decide⟩ ⟨Nat.zero_le _, Nat.zero_le _⟩ (c_Lab_draw X N h3 x8) rfl rfl (Nat.le_of_ble_eq_true rfl) dX0_workDrawnDays_32 (fun x9 h10 => ?_)
        refine ro_istore_n (pc := 35) (lv' := [(2, .int x9), (0, .ref (xa X 22)), (1, .int x2)]) dX0_workDrawnDays_35 rfl (by decide) rfl ?_
        refine ro_iconst (v := 0) (pc := 36) dX0_workDrawnDays_36 (by decide) ?_
        refine ro_istore_n (pc := 37) (lv' := [(3, .int 0), (2, .int x9), (0, .ref (xa X 22)), (1, .int x2)]) dX0_workDrawnDays_37 rfl (by decide) rfl ?_
        refine ro_aload_n (pc := 38) 2 dX0_workDrawnDays_38 rfl rfl ?_
        refine ro_bipush (v := 10) (pc := 39) dX0_workDrawnDays_39 (by decide) ?_
        refine ro_cvI (pc := 41) (kc := 1) (avs := [.int 10]) (st := []) ok_Lab_draw wd_860 cl_22 cv_22 rfl ⟨by decide, by decide⟩ ⟨Nat.zero_le _, Nat.zero_le _⟩ (c_Lab_draw X N h10 10) rfl rfl (Nat.le_of_ble_eq_true rfl) dX0_workDrawnDays_41 (fun x12 h13 => ?_)
        refine ro_aload_n (pc := 44) 2 dX0_workDrawnDays_44 rfl rfl ?_
        refine gf_X0_0 (pc := 45) wd_249 dX0_workDrawnDays_45 ?_
        refine ro_iload_n (pc := 48) 3 dX0_workDrawnDays_48 rfl rfl ?_
        refine ro_iconst (v := 2) (pc := 49) dX0_workDrawnDays_49 (by decide) ?_
        refine ro_cvP (pc := 50) (kc := 1) (avs := [.int x2, .int 2]) (st := [.int x12]) ok_Par_ofHouse wd_704 cl_3 cv_3 rfl ⟨by decide, by decide⟩ ⟨Nat.zero_le _, Nat.zero_le _⟩ (c_Par_ofHouse X N h13 3 isP_i3 x2 2) rfl rfl (Nat.le_of_ble_eq_true rfl) dX0_workDrawnDays_50 (fun x15 => ?_)
        refine ro_jn (pcj := 70) (lvs := fun (s : Int32 × mu_H) => [(0, .ref (xa X 22)), (1, .int x2), (2, .int x9), (3, .int s.1)]) (hs := fun (s : Int32 × mu_H) => s.2) (sts := fun (s : Int32 × mu_H) => []) (fun s => ?_) (fun j16 hj16 => ?_)
        · obtain ⟨x17, h18⟩ := s; try dsimp only
          refine ro_aload_n (pc := 70) 0 dX0_workDrawnDays_70 rfl rfl ?_
          refine ro_iload_n (pc := 71) 1 dX0_workDrawnDays_71 rfl rfl ?_
          refine ro_iload_n (pc := 72) 2 dX0_workDrawnDays_72 rfl rfl ?_
          refine ro_cvP (pc := 73) (kc := 3) (avs := [.int x2, .int x9]) (st := []) ok_Lab_canCome wd_691 cl_22 cv_22 rfl ⟨by decide, by decide⟩ ⟨Nat.zero_le _, Nat.zero_le _⟩ (c_Lab_canCome X N h18 x2 x9) rfl rfl (Nat.le_of_ble_eq_true rfl) dX0_workDrawnDays_73 (fun x19 => ?_)
          refine ro_if_eq (tgt := 86) (pc := 76) dX0_workDrawnDays_76 (by decide) (fun _ => ?_) (fun _ => ?_)
          · skip
            refine ro_lv [0, 1] rfl ?_
            exact hj6 h18
          · skip
            refine ro_aload_n (pc := 79) 0 dX0_workDrawnDays_79 rfl rfl ?_
            refine ro_iload_n (pc := 80) 1 dX0_workDrawnDays_80 rfl rfl ?_
            refine ro_iload_n (pc := 81) 2 dX0_workDrawnDays_81 rfl rfl ?_
            refine ro_iload_n (pc := 82) 3 dX0_workDrawnDays_82 rfl rfl ?_
            refine ro_cvV (pc := 83) (kc := 6) (avs := [.int x2, .int x9, .int x17]) (st := []) ok_Lab_workDay wd_866 cl_22 cv_22 rfl ⟨by decide, by decide⟩ ⟨Nat.zero_le _, Nat.zero_le _⟩ (c_Lab_workDay X N h18 x2 x9 x17) rfl rfl (Nat.le_of_ble_eq_true rfl) dX0_workDrawnDays_83 (fun h20 => ?_)
            refine ro_lv [0, 1] rfl ?_
            exact hj6 h20
        · skip
          refine ro_icmp_lt (tgt := 70) (pc := 53) dX0_workDrawnDays_53 (by decide) (fun _ => ?_) (fun _ => ?_)
          · skip
            refine ro_lv [2, 3, 1, 0] rfl ?_
            exact hj16 (0, h13)
          · skip
            refine ro_aload_n (pc := 56) 2 dX0_workDrawnDays_56 rfl rfl ?_
            refine ro_iconst (v := 2) (pc := 57) dX0_workDrawnDays_57 (by decide) ?_
            refine ro_cvI (pc := 58) (kc := 1) (avs := [.int 2]) (st := []) ok_Lab_draw wd_860 cl_22 cv_22 rfl ⟨by decide, by decide⟩ ⟨Nat.zero_le _, Nat.zero_le _⟩ (c_Lab_draw X N h13 2) rfl rfl (Nat.le_of_ble_eq_true rfl) dX0_workDrawnDays_58 (fun x21 h22 => ?_)
            refine ro_jn (pcj := 69) (lvs := fun (s : Int32) => [(0, .ref (xa X 22)), (1, .int x2), (2, .int x9)]) (hs := fun (s : Int32) => h22) (sts := fun (s : Int32) => [.int s]) (fun x25 => ?_) (fun j24 hj24 => ?_)
            · try dsimp only
              refine ro_istore_n (pc := 69) (lv' := [(3, .int x25), (0, .ref (xa X 22)), (1, .int x2), (2, .int x9)]) dX0_workDrawnDays_69 rfl (by decide) rfl ?_
              refine ro_lv [1, 2, 3, 0] rfl ?_
              exact hj16 (x25, h22)
            · skip
              refine ro_if_ne (tgt := 68) (pc := 61) dX0_workDrawnDays_61 (by decide) (fun _ => ?_) (fun _ => ?_)
              · skip
                refine ro_iconst (v := 3) (pc := 68) dX0_workDrawnDays_68 (by decide) ?_
                refine ro_lv [2, 3, 1] rfl ?_
                exact hj24 3
              · skip
                refine ro_iconst (v := 1) (pc := 64) dX0_workDrawnDays_64 (by decide) ?_
                refine ro_goto (tgt := 69) (pc := 65) dX0_workDrawnDays_65 (by decide) ?_
                refine ro_lv [2, 3, 1] rfl ?_
                exact hj24 1
theorem c_Lab_workDrawnDays (X : mu_X) (N : Nat) (h : mu_H) : ∀ r, f_Lab_workDrawnDays N h = some r → mV X m_Lab_workDrawnDays 7 [.ref (xa X 22)] h r := fun r hr => mV_of (by decide) rfl (Nat.le_of_ble_eq_true rfl) rfl (cb_Lab_workDrawnDays X N h r hr)
set_option maxRecDepth 20000 in
theorem cb_Out_spreadParts (X : mu_X) (N : Nat) (h : mu_H) (a1 : Int32) (a2 : Int32) : aG X m_Out_spreadParts (rmk 3) (fun _ => ax X) (fun _ _ _ => True) 0 0 (fun r : mu_H => qV X r) (f_Out_spreadParts N h a1 a2) 0 [(0, .ref (xa X 42)), (1, .int a1), (2, .int a2)] [] h := by
  unfold f_Out_spreadParts
  refine ro_bipush (v := 99) (pc := 0) dX3_spreadParts_0 (by decide) ?_
  refine ro_istore_n (pc := 2) (lv' := [(3, .int 99), (0, .ref (xa X 42)), (1, .int a1), (2, .int a2)]) dX3_spreadParts_2 rfl (by decide) rfl ?_
  refine ro_lv [1, 2, 3, 0] rfl ?_
  refine ro_lp (pc := 3) (lvs := fun (s : Int32 × mu_H) => [(0, .ref (xa X 42)), (1, .int a1), (2, .int a2), (3, .int s.1)]) (hs := fun (s : Int32 × mu_H) => s.2) (fun rec1 hrec1 s => ?_) N (99, h)
  obtain ⟨x2, h3⟩ := s; unfold f_Out_spreadParts_L3; try dsimp only
  refine ro_iload_n (pc := 3) 3 dX3_spreadParts_3 rfl rfl ?_
  refine ro_if_lt (tgt := 84) (pc := 4) dX3_spreadParts_4 (by decide) (fun _ => ?_) (fun _ => ?_)
  · skip
    exact ro_vret (pc := 84) rfl rfl dX3_spreadParts_84
  · skip
    refine ro_aload_n (pc := 7) 0 dX3_spreadParts_7 rfl rfl ?_
    refine gf_X3_7 (pc := 8) wd_320 dX3_spreadParts_8 ?_
    refine ro_iload_n (pc := 11) 3 dX3_spreadParts_11 rfl rfl ?_
    refine ro_iald (pc := 12) (n := 100) cl_47 cv_47 dX3_spreadParts_12 ?_
    refine ro_bn (fun x4 => ?_)
    refine ro_istore (pc := 13) (lv' := [(4, .int x4), (0, .ref (xa X 42)), (1, .int a1), (2, .int a2), (3, .int x2)]) dX3_spreadParts_13 (by decide) rfl ?_
    refine ro_iload (pc := 15) 0 dX3_spreadParts_15 rfl ?_
    refine ro_i2l (pc := 17) dX3_spreadParts_17 ?_
    refine ro_iload_n (pc := 18) 3 dX3_spreadParts_18 rfl rfl ?_
    refine ro_i2l (pc := 19) dX3_spreadParts_19 ?_
    refine ro_lmul (pc := 20) dX3_spreadParts_20 ?_
    refine ro_ldc2 (v := 100) (pc := 21) dX3_spreadParts_21 wd_1155 ?_
    refine ro_ldiv (pc := 24) dX3_spreadParts_24 (by decide) ?_
    refine ro_l2i (pc := 25) dX3_spreadParts_25 ?_
    refine ro_bn (fun x5 => ?_)
    refine ro_istore (pc := 26) (lv' := [(5, .int x5), (4, .int x4), (0, .ref (xa X 42)), (1, .int a1), (2, .int a2), (3, .int x2)]) dX3_spreadParts_26 (by decide) rfl ?_
    refine ro_aload_n (pc := 28) 2 dX3_spreadParts_28 rfl rfl ?_
    refine gf_X3_7 (pc := 29) wd_320 dX3_spreadParts_29 ?_
    refine ro_iload_n (pc := 32) 5 dX3_spreadParts_32 rfl rfl ?_
    refine ro_iconst (v := 0) (pc := 33) dX3_spreadParts_33 (by decide) ?_
    refine ro_iast (pc := 34) (n := 100) cl_47 cv_47 dX3_spreadParts_34 ?_
    refine ro_bnh (fun h6 => ?_)
    refine ro_aload_n (pc := 35) 2 dX3_spreadParts_35 rfl rfl ?_
    refine gf_X3_7 (pc := 36) wd_320 dX3_spreadParts_36 ?_
    refine ro_aload_n (pc := 39) 2 dX3_spreadParts_39 rfl rfl ?_
    refine gf_X3_2 (pc := 40) wd_315 dX3_spreadParts_40 ?_
    refine ro_iload_n (pc := 43) 3 dX3_spreadParts_43 rfl rfl ?_
    refine ro_iload_n (pc := 44) 5 dX3_spreadParts_44 rfl rfl ?_
    refine ro_iconst (v := 1) (pc := 45) dX3_spreadParts_45 (by decide) ?_
    refine ro_cvP (pc := 46) (kc := 2) (avs := [.int a1, .int x2, .int 1]) (st := [.ref (xa X 47)]) ok_Lab_wornOn wd_1140 cl_22 cv_22 rfl ⟨by decide, by decide⟩ ⟨Nat.zero_le _, Nat.zero_le _⟩ (c_Lab_wornOn X N h6 a1 x2 1) rfl rfl (Nat.le_of_ble_eq_true rfl) dX3_spreadParts_46 (fun x7 => ?_)
    refine ro_dup2_11 (pc := 49) dX3_spreadParts_49 rfl rfl ?_
    refine ro_iald (pc := 50) (n := 100) cl_47 cv_47 dX3_spreadParts_50 ?_
    refine ro_iload (pc := 51) 0 dX3_spreadParts_51 rfl ?_
    refine ro_iadd (pc := 53) dX3_spreadParts_53 ?_
    refine ro_iast (pc := 54) (n := 100) cl_47 cv_47 dX3_spreadParts_54 ?_
    refine ro_bnh (fun h8 => ?_)
    refine ro_aload_n (pc := 55) 2 dX3_spreadParts_55 rfl rfl ?_
    refine gf_X3_7 (pc := 56) wd_320 dX3_spreadParts_56 ?_
    refine ro_aload_n (pc := 59) 2 dX3_spreadParts_59 rfl rfl ?_
    refine gf_X3_2 (pc := 60) wd_315 dX3_spreadParts_60 ?_
    refine ro_iload_n (pc := 63) 3 dX3_spreadParts_63 rfl rfl ?_
    refine ro_iload_n (pc := 64) 5 dX3_spreadParts_64 rfl rfl ?_
    refine ro_iconst (v := 0) (pc := 65) dX3_spreadParts_65 (by decide) ?_
    refine ro_cvP (pc := 66) (kc := 2) (avs := [.int a1, .int x2, .int 0]) (st := [.ref (xa X 47)]) ok_Lab_wornOn wd_1140 cl_22 cv_22 rfl ⟨by decide, by decide⟩ ⟨Nat.zero_le _, Nat.zero_le _⟩ (c_Lab_wornOn X N h8 a1 x2 0) rfl rfl (Nat.le_of_ble_eq_true rfl) dX3_spreadParts_66 (fun x9 => ?_)
    refine ro_dup2_11 (pc := 69) dX3_spreadParts_69 rfl rfl ?_
    refine ro_iald (pc := 70) (n := 100) cl_47 cv_47 dX3_spreadParts_70 ?_
    refine ro_iload (pc := 71) 1 dX3_spreadParts_71 rfl ?_
    refine ro_iload (pc := 73) 0 dX3_spreadParts_73 rfl ?_
    refine ro_isub (pc := 75) dX3_spreadParts_75 ?_
    refine ro_iadd (pc := 76) dX3_spreadParts_76 ?_
    refine ro_iast (pc := 77) (n := 100) cl_47 cv_47 dX3_spreadParts_77 ?_
    refine ro_bnh (fun h10 => ?_)
    refine ro_iinc (pc := 78) (v := x2 + (-1)) (lv' := [(3, .int (x2 + (-1))), (5, .int x5), (4, .int x4), (0, .ref (xa X 42)), (1, .int a1), (2, .int a2)]) 5 dX3_spreadParts_78 rfl rfl (by decide) rfl ?_
    refine ro_goto (tgt := 3) (pc := 81) dX3_spreadParts_81 (by decide) ?_
    refine ro_lv [3, 4, 5, 0] rfl ?_
    exact hrec1 (x2 + (-1), h10)
theorem c_Out_spreadParts (X : mu_X) (N : Nat) (h : mu_H) (a1 : Int32) (a2 : Int32) : ∀ r, f_Out_spreadParts N h a1 a2 = some r → mV X m_Out_spreadParts 3 [.ref (xa X 42), .int a1, .int a2] h r := fun r hr => mV_of (by decide) rfl (Nat.le_of_ble_eq_true rfl) rfl (cb_Out_spreadParts X N h a1 a2 r hr)
set_option maxRecDepth 20000 in
theorem cb_Out_badParts (X : mu_X) (N : Nat) (h : mu_H) (a1 : Int32) (a2 : Int32) (a3 : Int32) : aG X m_Out_badParts (rmk 4) (fun _ => ax X) (fun _ _ _ => True) 0 0 (fun r : Int32 × mu_H => qI X r.1 r.2) (f_Out_badParts N h a1 a2 a3) 0 [(0, .ref (xa X 42)), (1, .int a1), (2, .int a2), (3, .int a3)] [] h := by
  unfold f_Out_badParts
  refine ro_aload_n (pc := 0) 0 dX3_badParts_0 rfl rfl ?_
  refine gf_X3_7 (pc := 1) wd_320 dX3_badParts_1 ?_
  refine ro_iconst (v := 0) (pc := 4) dX3_badParts_4 (by decide) ?_
  refine ro_csV (pc := 5) (kc := 1) (avs := [.ref (xa X 47), .int 0]) (st := []) ok_Arr_fill wd_915 ⟨by decide, by decide⟩ ⟨Nat.zero_le _, Nat.zero_le _⟩ (c_Arr_fill X N h 47 100 cl_47 cv_47 0) rfl rfl (Nat.le_of_ble_eq_true rfl) dX3_badParts_5 (fun h1 => ?_)
  refine ro_aload_n (pc := 8) 0 dX3_badParts_8 rfl rfl ?_
  refine gf_X3_7 (pc := 9) wd_320 dX3_badParts_9 ?_
  refine ro_aload_n (pc := 12) 0 dX3_badParts_12 rfl rfl ?_
  refine gf_X3_1 (pc := 13) wd_314 dX3_badParts_13 ?_
  refine ro_iload_n (pc := 16) 1 dX3_badParts_16 rfl rfl ?_
  refine ro_cvP (pc := 17) (kc := 1) (avs := [.int a1]) (st := [.ref (xa X 47)]) ok_Sta_wear wd_907 cl_14 cv_14 rfl ⟨by decide, by decide⟩ ⟨Nat.zero_le _, Nat.zero_le _⟩ (c_Sta_wear X N h1 14 isT_i14 a1) rfl rfl (Nat.le_of_ble_eq_true rfl) dX3_badParts_17 (fun x2 => ?_)
  refine ro_ldc (v := 1000000000) (pc := 20) dX3_badParts_20 wd_1150 ?_
  refine ro_iast (pc := 22) (n := 100) cl_47 cv_47 dX3_badParts_22 ?_
  refine ro_bnh (fun h3 => ?_)
  refine ro_iconst (v := 0) (pc := 23) dX3_badParts_23 (by decide) ?_
  refine ro_istore (pc := 24) (lv' := [(4, .int 0), (0, .ref (xa X 42)), (1, .int a1), (2, .int a2), (3, .int a3)]) dX3_badParts_24 (by decide) rfl ?_
  refine ro_jn (pcj := 44) (lvs := fun (s : mu_H) => [(0, .ref (xa X 42))]) (hs := fun (s : mu_H) => s) (sts := fun (s : mu_H) => []) (fun h5 => ?_) (fun k4 hk4 => ?_)
  · try dsimp only
    refine ro_iconst (v := 0) (pc := 44) dX3_badParts_44 (by decide) ?_
    refine ro_istore (pc := 45) (lv' := [(4, .int 0), (0, .ref (xa X 42))]) dX3_badParts_45 (by decide) rfl ?_
    refine ro_bipush (v := 60) (pc := 47) dX3_badParts_47 (by decide) ?_
    refine ro_istore (pc := 49) (lv' := [(5, .int 60), (4, .int 0), (0, .ref (xa X 42))]) dX3_badParts_49 (by decide) rfl ?_
    refine ro_lv [2, 1, 0] rfl ?_
    refine ro_lp (pc := 51) (lvs := fun (s : Int32 × Int32) => [(0, .ref (xa X 42)), (4, .int s.1), (5, .int s.2)]) (hs := fun (s : Int32 × Int32) => h5) (fun rec6 hrec6 s => ?_) N (0, 60)
    obtain ⟨x7, x8⟩ := s; unfold f_Out_badParts_L51; try dsimp only
    refine ro_iload (pc := 51) 2 dX3_badParts_51 rfl ?_
    refine ro_bipush (v := 100) (pc := 53) dX3_badParts_53 (by decide) ?_
    refine ro_icmp_ge (tgt := 76) (pc := 55) dX3_badParts_55 (by decide) (fun _ => ?_) (fun _ => ?_)
    · skip
      refine ro_iload (pc := 76) 1 dX3_badParts_76 rfl ?_
      exact ro_iret (pc := 78) rfl rfl dX3_badParts_78
    · skip
      refine ro_iload (pc := 58) 1 dX3_badParts_58 rfl ?_
      refine ro_aload_n (pc := 60) 0 dX3_badParts_60 rfl rfl ?_
      refine gf_X3_7 (pc := 61) wd_320 dX3_badParts_61 ?_
      refine ro_iload (pc := 64) 2 dX3_badParts_64 rfl ?_
      refine ro_iald (pc := 66) (n := 100) cl_47 cv_47 dX3_badParts_66 ?_
      refine ro_iadd (pc := 67) dX3_badParts_67 ?_
      refine ro_bn (fun x9 => ?_)
      refine ro_istore (pc := 68) (lv' := [(4, .int x9), (0, .ref (xa X 42)), (5, .int x8)]) dX3_badParts_68 (by decide) rfl ?_
      refine ro_iinc (pc := 70) (v := x8 + 1) (lv' := [(5, .int (x8 + 1)), (4, .int x9), (0, .ref (xa X 42))]) 2 dX3_badParts_70 rfl rfl (by decide) rfl ?_
      refine ro_goto (tgt := 51) (pc := 73) dX3_badParts_73 (by decide) ?_
      refine ro_lv [2, 1, 0] rfl ?_
      exact hrec6 (x9, x8 + 1)
  · skip
    refine ro_lv [1, 2, 3, 4, 0] rfl ?_
    refine ro_lp (pc := 26) (lvs := fun (s : Int32 × mu_H) => [(0, .ref (xa X 42)), (1, .int a1), (2, .int a2), (3, .int a3), (4, .int s.1)]) (hs := fun (s : Int32 × mu_H) => s.2) (fun rec10 hrec10 s => ?_) N (0, h3)
    obtain ⟨x11, h12⟩ := s; unfold f_Out_badParts_L26; try dsimp only
    refine ro_iload (pc := 26) 4 dX3_badParts_26 rfl ?_
    refine ro_iload_n (pc := 28) 2 dX3_badParts_28 rfl rfl ?_
    refine ro_icmp_ge (tgt := 44) (pc := 29) dX3_badParts_29 (by decide) (fun _ => ?_) (fun _ => ?_)
    · skip
      refine ro_lv [0] rfl ?_
      exact hk4 h12
    · skip
      refine ro_aload_n (pc := 32) 0 dX3_badParts_32 rfl rfl ?_
      refine ro_iload_n (pc := 33) 1 dX3_badParts_33 rfl rfl ?_
      refine ro_iload_n (pc := 34) 3 dX3_badParts_34 rfl rfl ?_
      refine ro_cvV (pc := 35) (kc := 3) (avs := [.int a1, .int a3]) (st := []) ok_Out_spreadParts wd_1151 cl_42 cv_42 rfl ⟨by decide, by decide⟩ ⟨Nat.zero_le _, Nat.zero_le _⟩ (c_Out_spreadParts X N h12 a1 a3) rfl rfl (Nat.le_of_ble_eq_true rfl) dX3_badParts_35 (fun h13 => ?_)
      refine ro_iinc (pc := 38) (v := x11 + 1) (lv' := [(4, .int (x11 + 1)), (0, .ref (xa X 42)), (1, .int a1), (2, .int a2), (3, .int a3)]) 4 dX3_badParts_38 rfl rfl (by decide) rfl ?_
      refine ro_goto (tgt := 26) (pc := 41) dX3_badParts_41 (by decide) ?_
      refine ro_lv [1, 2, 3, 4, 0] rfl ?_
      exact hrec10 (x11 + 1, h13)
theorem c_Out_badParts (X : mu_X) (N : Nat) (h : mu_H) (a1 : Int32) (a2 : Int32) (a3 : Int32) : ∀ r, f_Out_badParts N h a1 a2 a3 = some r → mI X m_Out_badParts 4 [.ref (xa X 42), .int a1, .int a2, .int a3] h r.1 r.2 := fun r hr => mI_of (by decide) rfl (Nat.le_of_ble_eq_true rfl) rfl (cb_Out_badParts X N h a1 a2 a3 r hr)
set_option maxRecDepth 20000 in
theorem cb_Out_foreseeDays (X : mu_X) (N : Nat) (h : mu_H) (a1 : Int32) (a2 : Int32) : aG X m_Out_foreseeDays (rmk 6) (fun _ => ax X) (fun _ _ _ => True) 0 0 (fun r : mu_H => qV X r) (f_Out_foreseeDays N h a1 a2) 0 [(0, .ref (xa X 42)), (1, .int a1), (2, .int a2)] [] h := by
  unfold f_Out_foreseeDays
  refine ro_aload_n (pc := 0) 0 dX3_foreseeDays_0 rfl rfl ?_
  refine gf_X3_5 (pc := 1) wd_318 dX3_foreseeDays_1 ?_
  refine ro_sipush (v := 1000) (pc := 4) dX3_foreseeDays_4 (by decide) ?_
  refine ro_csV (pc := 7) (kc := 1) (avs := [.ref (xa X 45), .int 1000]) (st := []) ok_Arr_fill wd_915 ⟨by decide, by decide⟩ ⟨Nat.zero_le _, Nat.zero_le _⟩ (c_Arr_fill X N h 45 100 cl_45 cv_45 1000) rfl rfl (Nat.le_of_ble_eq_true rfl) dX3_foreseeDays_7 (fun h1 => ?_)
  refine ro_aload_n (pc := 10) 0 dX3_foreseeDays_10 rfl rfl ?_
  refine gf_X3_5 (pc := 11) wd_318 dX3_foreseeDays_11 ?_
  refine ro_iload_n (pc := 14) 2 dX3_foreseeDays_14 rfl rfl ?_
  refine ro_iconst (v := 0) (pc := 15) dX3_foreseeDays_15 (by decide) ?_
  refine ro_iast (pc := 16) (n := 100) cl_45 cv_45 dX3_foreseeDays_16 ?_
  refine ro_bnh (fun h2 => ?_)
  refine ro_iload_n (pc := 17) 2 dX3_foreseeDays_17 rfl rfl ?_
  refine ro_istore_n (pc := 18) (lv' := [(3, .int a2), (0, .ref (xa X 42)), (1, .int a1), (2, .int a2)]) dX3_foreseeDays_18 rfl (by decide) rfl ?_
  refine ro_lv [1, 2, 0] rfl ?_
  refine ro_lp (pc := 19) (lvs := fun (s : Int32 × mu_H) => [(0, .ref (xa X 42)), (1, .int a1), (3, .int s.1)]) (hs := fun (s : Int32 × mu_H) => s.2) (fun rec3 hrec3 s => ?_) N (a2, h2)
  obtain ⟨x4, h5⟩ := s; unfold f_Out_foreseeDays_L19; try dsimp only
  refine ro_iload_n (pc := 19) 2 dX3_foreseeDays_19 rfl rfl ?_
  refine ro_if_lt (tgt := 130) (pc := 20) dX3_foreseeDays_20 (by decide) (fun _ => ?_) (fun _ => ?_)
  · skip
    exact ro_vret (pc := 130) rfl rfl dX3_foreseeDays_130
  · skip
    refine ro_iconst (v := 0) (pc := 23) dX3_foreseeDays_23 (by decide) ?_
    refine ro_istore (pc := 24) (lv' := [(4, .int 0), (0, .ref (xa X 42)), (1, .int a1), (3, .int x4)]) dX3_foreseeDays_24 (by decide) rfl ?_
    refine ro_jn (pcj := 124) (lvs := fun (s : mu_H) => [(0, .ref (xa X 42)), (1, .int a1), (3, .int x4)]) (hs := fun (s : mu_H) => s) (sts := fun (s : mu_H) => []) (fun h7 => ?_) (fun k6 hk6 => ?_)
    · try dsimp only
      refine ro_iinc (pc := 124) (v := x4 + (-1)) (lv' := [(3, .int (x4 + (-1))), (0, .ref (xa X 42)), (1, .int a1)]) 2 dX3_foreseeDays_124 rfl rfl (by decide) rfl ?_
      refine ro_goto (tgt := 19) (pc := 127) dX3_foreseeDays_127 (by decide) ?_
      refine ro_lv [1, 2, 0] rfl ?_
      exact hrec3 (x4 + (-1), h7)
    · skip
      refine ro_lv [1, 2, 3, 0] rfl ?_
      refine ro_lp (pc := 26) (lvs := fun (s : Int32 × mu_H) => [(0, .ref (xa X 42)), (1, .int a1), (3, .int x4), (4, .int s.1)]) (hs := fun (s : Int32 × mu_H) => s.2) (fun rec8 hrec8 s => ?_) N (0, h5)
      obtain ⟨x9, h10⟩ := s; unfold f_Out_foreseeDays_L26; try dsimp only
      refine ro_iload (pc := 26) 3 dX3_foreseeDays_26 rfl ?_
      refine ro_aload_n (pc := 28) 0 dX3_foreseeDays_28 rfl rfl ?_
      refine gf_X3_0 (pc := 29) wd_313 dX3_foreseeDays_29 ?_
      refine ro_cvP (pc := 32) (kc := 1) (avs := []) (st := [.int x9]) ok_Par_houses wd_908 cl_3 cv_3 rfl ⟨by decide, by decide⟩ ⟨Nat.zero_le _, Nat.zero_le _⟩ (c_Par_houses X N h10 3 isP_i3) rfl rfl (Nat.le_of_ble_eq_true rfl) dX3_foreseeDays_32 (fun x11 => ?_)
      refine ro_icmp_ge (tgt := 124) (pc := 35) dX3_foreseeDays_35 (by decide) (fun _ => ?_) (fun _ => ?_)
      · skip
        refine ro_lv [0, 1, 2] rfl ?_
        exact hk6 h10
      · skip
        refine ro_aload_n (pc := 38) 0 dX3_foreseeDays_38 rfl rfl ?_
        refine gf_X3_5 (pc := 39) wd_318 dX3_foreseeDays_39 ?_
        refine ro_iload_n (pc := 42) 2 dX3_foreseeDays_42 rfl rfl ?_
        refine ro_iald (pc := 43) (n := 100) cl_45 cv_45 dX3_foreseeDays_43 ?_
        refine ro_bipush (v := 6) (pc := 44) dX3_foreseeDays_44 (by decide) ?_
        refine ro_icmp_ge (tgt := 124) (pc := 46) dX3_foreseeDays_46 (by decide) (fun _ => ?_) (fun _ => ?_)
        · skip
          refine ro_lv [0, 1, 2] rfl ?_
          exact hk6 h10
        · skip
          refine ro_aload_n (pc := 49) 0 dX3_foreseeDays_49 rfl rfl ?_
          refine gf_X3_3 (pc := 50) wd_316 dX3_foreseeDays_50 ?_
          refine ro_iload (pc := 53) 3 dX3_foreseeDays_53 rfl ?_
          refine ro_iald (pc := 55) (n := 6) cl_43 cv_43 dX3_foreseeDays_55 ?_
          refine ro_jn (pcj := 118) (lvs := fun (s : mu_H) => [(0, .ref (xa X 42)), (1, .int a1), (3, .int x4), (4, .int x9)]) (hs := fun (s : mu_H) => s) (sts := fun (s : mu_H) => []) (fun h13 => ?_) (fun j12 hj12 => ?_)
          · try dsimp only
            refine ro_iinc (pc := 118) (v := x9 + 1) (lv' := [(4, .int (x9 + 1)), (0, .ref (xa X 42)), (1, .int a1), (3, .int x4)]) 3 dX3_foreseeDays_118 rfl rfl (by decide) rfl ?_
            refine ro_goto (tgt := 26) (pc := 121) dX3_foreseeDays_121 (by decide) ?_
            refine ro_lv [1, 2, 3, 0] rfl ?_
            exact hrec8 (x9 + 1, h13)
          · skip
            refine ro_if_le (tgt := 118) (pc := 56) dX3_foreseeDays_56 (by decide) (fun _ => ?_) (fun _ => ?_)
            · skip
              exact hj12 h10
            · skip
              refine ro_iconst (v := 0) (pc := 59) dX3_foreseeDays_59 (by decide) ?_
              refine ro_iload_n (pc := 60) 2 dX3_foreseeDays_60 rfl rfl ?_
              refine ro_aload_n (pc := 61) 0 dX3_foreseeDays_61 rfl rfl ?_
              refine gf_X3_2 (pc := 62) wd_315 dX3_foreseeDays_62 ?_
              refine ro_iload (pc := 65) 3 dX3_foreseeDays_65 rfl ?_
              refine ro_iload_n (pc := 67) 1 dX3_foreseeDays_67 rfl rfl ?_
              refine ro_iconst (v := 0) (pc := 68) dX3_foreseeDays_68 (by decide) ?_
              refine ro_iload_n (pc := 69) 2 dX3_foreseeDays_69 rfl rfl ?_
              refine ro_cvI (pc := 70) (kc := 5) (avs := [.int x9, .int a1, .int 0, .int x4]) (st := [.int x4, .int 0]) ok_Lab_effect wd_916 cl_22 cv_22 rfl ⟨by decide, by decide⟩ ⟨Nat.zero_le _, Nat.zero_le _⟩ (c_Lab_effect X N h10 x9 a1 0 x4) rfl rfl (Nat.le_of_ble_eq_true rfl) dX3_foreseeDays_70 (fun x14 h15 => ?_)
              refine ro_isub (pc := 73) dX3_foreseeDays_73 ?_
              refine ro_mmax (pc := 74) (st := []) wd_917 (by decide) (Nat.le_of_ble_eq_true rfl) ⟨Nat.zero_le _, Nat.zero_le _⟩ dX3_foreseeDays_74 ?_
              refine ro_bn (fun x17 => ?_)
              refine ro_istore (pc := 77) (lv' := [(5, .int x17), (0, .ref (xa X 42)), (1, .int a1), (3, .int x4), (4, .int x9)]) dX3_foreseeDays_77 (by decide) rfl ?_
              refine ro_aload_n (pc := 79) 1 dX3_foreseeDays_79 rfl rfl ?_
              refine gf_X3_4 (pc := 80) wd_317 dX3_foreseeDays_80 ?_
              refine ro_iload (pc := 83) 4 dX3_foreseeDays_83 rfl ?_
              refine ro_bipush (v := 100) (pc := 85) dX3_foreseeDays_85 (by decide) ?_
              refine ro_imul (pc := 87) dX3_foreseeDays_87 ?_
              refine ro_iload_n (pc := 88) 3 dX3_foreseeDays_88 rfl rfl ?_
              refine ro_iadd (pc := 89) dX3_foreseeDays_89 ?_
              refine ro_iload (pc := 90) 0 dX3_foreseeDays_90 rfl ?_
              refine ro_iast (pc := 92) (n := 600) cl_44 cv_44 dX3_foreseeDays_92 ?_
              refine ro_bnh (fun h18 => ?_)
              refine ro_aload_n (pc := 93) 1 dX3_foreseeDays_93 rfl rfl ?_
              refine gf_X3_5 (pc := 94) wd_318 dX3_foreseeDays_94 ?_
              refine ro_iload (pc := 97) 0 dX3_foreseeDays_97 rfl ?_
              refine ro_aload_n (pc := 99) 1 dX3_foreseeDays_99 rfl rfl ?_
              refine gf_X3_5 (pc := 100) wd_318 dX3_foreseeDays_100 ?_
              refine ro_iload (pc := 103) 0 dX3_foreseeDays_103 rfl ?_
              refine ro_iald (pc := 105) (n := 100) cl_45 cv_45 dX3_foreseeDays_105 ?_
              refine ro_aload_n (pc := 106) 1 dX3_foreseeDays_106 rfl rfl ?_
              refine gf_X3_5 (pc := 107) wd_318 dX3_foreseeDays_107 ?_
              refine ro_iload_n (pc := 110) 3 dX3_foreseeDays_110 rfl rfl ?_
              refine ro_iald (pc := 111) (n := 100) cl_45 cv_45 dX3_foreseeDays_111 ?_
              refine ro_iconst (v := 1) (pc := 112) dX3_foreseeDays_112 (by decide) ?_
              refine ro_iadd (pc := 113) dX3_foreseeDays_113 ?_
              refine ro_mmin (pc := 114) (st := [.int x17, .ref (xa X 45)]) wd_920 (by decide) (Nat.le_of_ble_eq_true rfl) ⟨Nat.zero_le _, Nat.zero_le _⟩ dX3_foreseeDays_114 ?_
              refine ro_iast (pc := 117) (n := 100) cl_45 cv_45 dX3_foreseeDays_117 ?_
              refine ro_bnh (fun h19 => ?_)
              refine ro_lv [1, 2, 3, 4] rfl ?_
              exact hj12 h19
theorem c_Out_foreseeDays (X : mu_X) (N : Nat) (h : mu_H) (a1 : Int32) (a2 : Int32) : ∀ r, f_Out_foreseeDays N h a1 a2 = some r → mV X m_Out_foreseeDays 6 [.ref (xa X 42), .int a1, .int a2] h r := fun r hr => mV_of (by decide) rfl (Nat.le_of_ble_eq_true rfl) rfl (cb_Out_foreseeDays X N h a1 a2 r hr)
set_option maxRecDepth 20000 in
theorem cb_Out_foreseeLowest (X : mu_X) (N : Nat) (h : mu_H) (a1 : Int32) : aG X m_Out_foreseeLowest (rmk 2) (fun _ => ax X) (fun _ _ _ => True) 0 0 (fun r : mu_H => qV X r) (f_Out_foreseeLowest N h a1) 0 [(0, .ref (xa X 42)), (1, .int a1)] [] h := by
  unfold f_Out_foreseeLowest
  refine ro_iconst (v := 0) (pc := 0) dX3_foreseeLowest_0 (by decide) ?_
  refine ro_istore_n (pc := 1) (lv' := [(2, .int 0), (0, .ref (xa X 42)), (1, .int a1)]) dX3_foreseeLowest_1 rfl (by decide) rfl ?_
  refine ro_jn (pcj := 20) (lvs := fun (s : mu_H) => [(0, .ref (xa X 42)), (1, .int a1)]) (hs := fun (s : mu_H) => s) (sts := fun (s : mu_H) => []) (fun h2 => ?_) (fun k1 hk1 => ?_)
  · try dsimp only
    refine ro_iconst (v := 1) (pc := 20) dX3_foreseeLowest_20 (by decide) ?_
    refine ro_istore_n (pc := 21) (lv' := [(2, .int 1), (0, .ref (xa X 42)), (1, .int a1)]) dX3_foreseeLowest_21 rfl (by decide) rfl ?_
    refine ro_lv [1, 2, 0] rfl ?_
    refine ro_lp (pc := 22) (lvs := fun (s : Int32 × mu_H) => [(0, .ref (xa X 42)), (1, .int a1), (2, .int s.1)]) (hs := fun (s : Int32 × mu_H) => s.2) (fun rec3 hrec3 s => ?_) N (1, h2)
    obtain ⟨x4, h5⟩ := s; unfold f_Out_foreseeLowest_L22; try dsimp only
    refine ro_iload_n (pc := 22) 2 dX3_foreseeLowest_22 rfl rfl ?_
    refine ro_bipush (v := 6) (pc := 23) dX3_foreseeLowest_23 (by decide) ?_
    refine ro_icmp_gt (tgt := 138) (pc := 25) dX3_foreseeLowest_25 (by decide) (fun _ => ?_) (fun _ => ?_)
    · skip
      exact ro_vret (pc := 138) rfl rfl dX3_foreseeLowest_138
    · skip
      refine ro_iconst (v := 0) (pc := 28) dX3_foreseeLowest_28 (by decide) ?_
      refine ro_istore_n (pc := 29) (lv' := [(3, .int 0), (0, .ref (xa X 42)), (1, .int a1), (2, .int x4)]) dX3_foreseeLowest_29 rfl (by decide) rfl ?_
      refine ro_jn (pcj := 132) (lvs := fun (s : mu_H) => [(0, .ref (xa X 42)), (1, .int a1), (2, .int x4)]) (hs := fun (s : mu_H) => s) (sts := fun (s : mu_H) => []) (fun h7 => ?_) (fun k6 hk6 => ?_)
      · try dsimp only
        refine ro_iinc (pc := 132) (v := x4 + 1) (lv' := [(2, .int (x4 + 1)), (0, .ref (xa X 42)), (1, .int a1)]) 2 dX3_foreseeLowest_132 rfl rfl (by decide) rfl ?_
        refine ro_goto (tgt := 22) (pc := 135) dX3_foreseeLowest_135 (by decide) ?_
        refine ro_lv [1, 2, 0] rfl ?_
        exact hrec3 (x4 + 1, h7)
      · skip
        refine ro_lv [1, 2, 3, 0] rfl ?_
        refine ro_lp (pc := 30) (lvs := fun (s : Int32 × mu_H) => [(0, .ref (xa X 42)), (1, .int a1), (2, .int x4), (3, .int s.1)]) (hs := fun (s : Int32 × mu_H) => s.2) (fun rec8 hrec8 s => ?_) N (0, h5)
        obtain ⟨x9, h10⟩ := s; unfold f_Out_foreseeLowest_L30; try dsimp only
        refine ro_iload_n (pc := 30) 3 dX3_foreseeLowest_30 rfl rfl ?_
        refine ro_iload_n (pc := 31) 1 dX3_foreseeLowest_31 rfl rfl ?_
        refine ro_icmp_gt (tgt := 132) (pc := 32) dX3_foreseeLowest_32 (by decide) (fun _ => ?_) (fun _ => ?_)
        · skip
          refine ro_lv [0, 1, 2] rfl ?_
          exact hk6 h10
        · skip
          refine ro_iload_n (pc := 35) 3 dX3_foreseeLowest_35 rfl rfl ?_
          refine ro_istore (pc := 36) (lv' := [(4, .int x9), (0, .ref (xa X 42)), (1, .int a1), (2, .int x4), (3, .int x9)]) dX3_foreseeLowest_36 (by decide) rfl ?_
          refine ro_iconst (v := 0) (pc := 38) dX3_foreseeLowest_38 (by decide) ?_
          refine ro_istore (pc := 39) (lv' := [(5, .int 0), (4, .int x9), (0, .ref (xa X 42)), (1, .int a1), (2, .int x4), (3, .int x9)]) dX3_foreseeLowest_39 (by decide) rfl ?_
          refine ro_jn (pcj := 113) (lvs := fun (s : Int32) => [(0, .ref (xa X 42)), (1, .int a1), (2, .int x4), (3, .int x9), (4, .int s)]) (hs := fun (s : Int32) => h10) (sts := fun (s : Int32) => []) (fun x12 => ?_) (fun k11 hk11 => ?_)
          · try dsimp only
            refine ro_aload_n (pc := 113) 0 dX3_foreseeLowest_113 rfl rfl ?_
            refine gf_X3_6 (pc := 114) wd_319 dX3_foreseeLowest_114 ?_
            refine ro_iload_n (pc := 117) 2 dX3_foreseeLowest_117 rfl rfl ?_
            refine ro_bipush (v := 100) (pc := 118) dX3_foreseeLowest_118 (by decide) ?_
            refine ro_imul (pc := 120) dX3_foreseeLowest_120 ?_
            refine ro_iload_n (pc := 121) 3 dX3_foreseeLowest_121 rfl rfl ?_
            refine ro_iadd (pc := 122) dX3_foreseeLowest_122 ?_
            refine ro_iload (pc := 123) 4 dX3_foreseeLowest_123 rfl ?_
            refine ro_iast (pc := 125) (n := 700) cl_46 cv_46 dX3_foreseeLowest_125 ?_
            refine ro_bnh (fun h13 => ?_)
            refine ro_iinc (pc := 126) (v := x9 + 1) (lv' := [(3, .int (x9 + 1)), (0, .ref (xa X 42)), (1, .int a1), (2, .int x4), (4, .int x12)]) 3 dX3_foreseeLowest_126 rfl rfl (by decide) rfl ?_
            refine ro_goto (tgt := 30) (pc := 129) dX3_foreseeLowest_129 (by decide) ?_
            refine ro_lv [1, 2, 3, 0] rfl ?_
            exact hrec8 (x9 + 1, h13)
          · skip
            refine ro_lv [2, 3, 4, 5, 1, 0] rfl ?_
            refine ro_lp (pc := 41) (lvs := fun (s : Int32 × Int32) => [(0, .ref (xa X 42)), (1, .int a1), (2, .int x4), (3, .int x9), (4, .int s.1), (5, .int s.2)]) (hs := fun (s : Int32 × Int32) => h10) (fun rec14 hrec14 s => ?_) N (x9, 0)
            obtain ⟨x15, x16⟩ := s; unfold f_Out_foreseeLowest_L41; try dsimp only
            refine ro_iload (pc := 41) 5 dX3_foreseeLowest_41 rfl ?_
            refine ro_aload_n (pc := 43) 0 dX3_foreseeLowest_43 rfl rfl ?_
            refine gf_X3_0 (pc := 44) wd_313 dX3_foreseeLowest_44 ?_
            refine ro_cvP (pc := 47) (kc := 1) (avs := []) (st := [.int x16]) ok_Par_houses wd_908 cl_3 cv_3 rfl ⟨by decide, by decide⟩ ⟨Nat.zero_le _, Nat.zero_le _⟩ (c_Par_houses X N h10 3 isP_i3) rfl rfl (Nat.le_of_ble_eq_true rfl) dX3_foreseeLowest_47 (fun x17 => ?_)
            refine ro_icmp_ge (tgt := 113) (pc := 50) dX3_foreseeLowest_50 (by decide) (fun _ => ?_) (fun _ => ?_)
            · skip
              refine ro_lv [0, 1, 2, 3, 4] rfl ?_
              exact hk11 x15
            · skip
              refine ro_aload_n (pc := 53) 0 dX3_foreseeLowest_53 rfl rfl ?_
              refine gf_X3_5 (pc := 54) wd_318 dX3_foreseeLowest_54 ?_
              refine ro_iload_n (pc := 57) 3 dX3_foreseeLowest_57 rfl rfl ?_
              refine ro_iald (pc := 58) (n := 100) cl_45 cv_45 dX3_foreseeLowest_58 ?_
              refine ro_iload_n (pc := 59) 2 dX3_foreseeLowest_59 rfl rfl ?_
              refine ro_iadd (pc := 60) dX3_foreseeLowest_60 ?_
              refine ro_bipush (v := 6) (pc := 61) dX3_foreseeLowest_61 (by decide) ?_
              refine ro_icmp_gt (tgt := 113) (pc := 63) dX3_foreseeLowest_63 (by decide) (fun _ => ?_) (fun _ => ?_)
              · skip
                refine ro_lv [0, 1, 2, 3, 4] rfl ?_
                exact hk11 x15
              · skip
                refine ro_aload_n (pc := 66) 0 dX3_foreseeLowest_66 rfl rfl ?_
                refine gf_X3_3 (pc := 67) wd_316 dX3_foreseeLowest_67 ?_
                refine ro_iload (pc := 70) 5 dX3_foreseeLowest_70 rfl ?_
                refine ro_iald (pc := 72) (n := 6) cl_43 cv_43 dX3_foreseeLowest_72 ?_
                refine ro_jn (pcj := 107) (lvs := fun (s : Int32) => [(0, .ref (xa X 42)), (1, .int a1), (2, .int x4), (3, .int x9), (4, .int s), (5, .int x16)]) (hs := fun (s : Int32) => h10) (sts := fun (s : Int32) => []) (fun x19 => ?_) (fun j18 hj18 => ?_)
                · try dsimp only
                  refine ro_iinc (pc := 107) (v := x16 + 1) (lv' := [(5, .int (x16 + 1)), (0, .ref (xa X 42)), (1, .int a1), (2, .int x4), (3, .int x9), (4, .int x19)]) 5 dX3_foreseeLowest_107 rfl rfl (by decide) rfl ?_
                  refine ro_goto (tgt := 41) (pc := 110) dX3_foreseeLowest_110 (by decide) ?_
                  refine ro_lv [1, 2, 3, 4, 5, 0] rfl ?_
                  exact hrec14 (x19, x16 + 1)
                · skip
                  refine ro_if_le (tgt := 107) (pc := 73) dX3_foreseeLowest_73 (by decide) (fun _ => ?_) (fun _ => ?_)
                  · skip
                    exact hj18 x15
                  · skip
                    refine ro_iload (pc := 76) 4 dX3_foreseeLowest_76 rfl ?_
                    refine ro_aload_n (pc := 78) 0 dX3_foreseeLowest_78 rfl rfl ?_
                    refine gf_X3_6 (pc := 79) wd_319 dX3_foreseeLowest_79 ?_
                    refine ro_iload_n (pc := 82) 2 dX3_foreseeLowest_82 rfl rfl ?_
                    refine ro_iconst (v := 1) (pc := 83) dX3_foreseeLowest_83 (by decide) ?_
                    refine ro_isub (pc := 84) dX3_foreseeLowest_84 ?_
                    refine ro_bipush (v := 100) (pc := 85) dX3_foreseeLowest_85 (by decide) ?_
                    refine ro_imul (pc := 87) dX3_foreseeLowest_87 ?_
                    refine ro_aload_n (pc := 88) 0 dX3_foreseeLowest_88 rfl rfl ?_
                    refine gf_X3_4 (pc := 89) wd_317 dX3_foreseeLowest_89 ?_
                    refine ro_iload (pc := 92) 5 dX3_foreseeLowest_92 rfl ?_
                    refine ro_bipush (v := 100) (pc := 94) dX3_foreseeLowest_94 (by decide) ?_
                    refine ro_imul (pc := 96) dX3_foreseeLowest_96 ?_
                    refine ro_iload_n (pc := 97) 3 dX3_foreseeLowest_97 rfl rfl ?_
                    refine ro_iadd (pc := 98) dX3_foreseeLowest_98 ?_
                    refine ro_iald (pc := 99) (n := 600) cl_44 cv_44 dX3_foreseeLowest_99 ?_
                    refine ro_iadd (pc := 100) dX3_foreseeLowest_100 ?_
                    refine ro_iald (pc := 101) (n := 700) cl_46 cv_46 dX3_foreseeLowest_101 ?_
                    refine ro_mmin (pc := 102) (st := []) wd_920 (by decide) (Nat.le_of_ble_eq_true rfl) ⟨Nat.zero_le _, Nat.zero_le _⟩ dX3_foreseeLowest_102 ?_
                    refine ro_bn (fun x20 => ?_)
                    refine ro_istore (pc := 105) (lv' := [(4, .int x20), (0, .ref (xa X 42)), (1, .int a1), (2, .int x4), (3, .int x9), (5, .int x16)]) dX3_foreseeLowest_105 (by decide) rfl ?_
                    refine ro_lv [1, 2, 3, 4, 0, 5] rfl ?_
                    exact hj18 x20
  · skip
    refine ro_lv [1, 2, 0] rfl ?_
    refine ro_lp (pc := 2) (lvs := fun (s : Int32 × mu_H) => [(0, .ref (xa X 42)), (1, .int a1), (2, .int s.1)]) (hs := fun (s : Int32 × mu_H) => s.2) (fun rec21 hrec21 s => ?_) N (0, h)
    obtain ⟨x22, h23⟩ := s; unfold f_Out_foreseeLowest_L2; try dsimp only
    refine ro_iload_n (pc := 2) 2 dX3_foreseeLowest_2 rfl rfl ?_
    refine ro_iload_n (pc := 3) 1 dX3_foreseeLowest_3 rfl rfl ?_
    refine ro_icmp_gt (tgt := 20) (pc := 4) dX3_foreseeLowest_4 (by decide) (fun _ => ?_) (fun _ => ?_)
    · skip
      refine ro_lv [0, 1] rfl ?_
      exact hk1 h23
    · skip
      refine ro_aload_n (pc := 7) 0 dX3_foreseeLowest_7 rfl rfl ?_
      refine gf_X3_6 (pc := 8) wd_319 dX3_foreseeLowest_8 ?_
      refine ro_iload_n (pc := 11) 2 dX3_foreseeLowest_11 rfl rfl ?_
      refine ro_iload_n (pc := 12) 2 dX3_foreseeLowest_12 rfl rfl ?_
      refine ro_iast (pc := 13) (n := 700) cl_46 cv_46 dX3_foreseeLowest_13 ?_
      refine ro_bnh (fun h24 => ?_)
      refine ro_iinc (pc := 14) (v := x22 + 1) (lv' := [(2, .int (x22 + 1)), (0, .ref (xa X 42)), (1, .int a1)]) 2 dX3_foreseeLowest_14 rfl rfl (by decide) rfl ?_
      refine ro_goto (tgt := 2) (pc := 17) dX3_foreseeLowest_17 (by decide) ?_
      refine ro_lv [1, 2, 0] rfl ?_
      exact hrec21 (x22 + 1, h24)
theorem c_Out_foreseeLowest (X : mu_X) (N : Nat) (h : mu_H) (a1 : Int32) : ∀ r, f_Out_foreseeLowest N h a1 = some r → mV X m_Out_foreseeLowest 2 [.ref (xa X 42), .int a1] h r := fun r hr => mV_of (by decide) rfl (Nat.le_of_ble_eq_true rfl) rfl (cb_Out_foreseeLowest X N h a1 r hr)
set_option maxRecDepth 20000 in
theorem cb_Out_leastRow_B (X : mu_X) (N : Nat) (rf : mu_H → Int32 → Int32 → Int32 → Int32 → Option (Int32 × mu_H)) (kc : Nat) (hk : 1 ≤ kc) (hrf : ∀ (h : mu_H) (b0 : Int32) (b1 : Int32) (b2 : Int32) (b3 : Int32), ∀ r, rf h b0 b1 b2 b3 = some r → mI X m_Out_leastRow kc [.ref (xa X 42), .int b0, .int b1, .int b2, .int b3] h r.1 r.2) (h : mu_H) (a1 : Int32) (a2 : Int32) (a3 : Int32) (a4 : Int32) : aG X m_Out_leastRow (rmk (kc + 1)) (fun _ => ax X) (fun _ _ _ => True) 0 0 (fun r : Int32 × mu_H => qI X r.1 r.2) (f_Out_leastRow_B N rf h a1 a2 a3 a4) 0 [(0, .ref (xa X 42)), (1, .int a1), (2, .int a2), (3, .int a3), (4, .int a4)] [] h := by
  unfold f_Out_leastRow_B
  refine ro_aload_n (pc := 0) 0 dX3_leastRow_0 rfl rfl ?_
  refine gf_X3_6 (pc := 1) wd_319 dX3_leastRow_1 ?_
  refine ro_iload_n (pc := 4) 1 dX3_leastRow_4 rfl rfl ?_
  refine ro_bipush (v := 100) (pc := 5) dX3_leastRow_5 (by decide) ?_
  refine ro_imul (pc := 7) dX3_leastRow_7 ?_
  refine ro_iload_n (pc := 8) 2 dX3_leastRow_8 rfl rfl ?_
  refine ro_iadd (pc := 9) dX3_leastRow_9 ?_
  refine ro_iald (pc := 10) (n := 700) cl_46 cv_46 dX3_leastRow_10 ?_
  refine ro_iload_n (pc := 11) 3 dX3_leastRow_11 rfl rfl ?_
  refine ro_icmp_le (tgt := 17) (pc := 12) dX3_leastRow_12 (by decide) (fun _ => ?_) (fun _ => ?_)
  · skip
    refine ro_iload_n (pc := 17) 1 dX3_leastRow_17 rfl rfl ?_
    refine ro_if_ne (tgt := 24) (pc := 18) dX3_leastRow_18 (by decide) (fun _ => ?_) (fun _ => ?_)
    · skip
      refine ro_iconst (v := 0) (pc := 24) dX3_leastRow_24 (by decide) ?_
      refine ro_istore (pc := 25) (lv' := [(5, .int 0), (0, .ref (xa X 42)), (1, .int a1), (2, .int a2), (3, .int a3), (4, .int a4)]) dX3_leastRow_25 (by decide) rfl ?_
      refine ro_lv [1, 2, 3, 4, 5, 0] rfl ?_
      refine ro_lp (pc := 27) (lvs := fun (s : Int32 × mu_H) => [(0, .ref (xa X 42)), (1, .int a1), (2, .int a2), (3, .int a3), (4, .int a4), (5, .int s.1)]) (hs := fun (s : Int32 × mu_H) => s.2) (fun rec1 hrec1 s => ?_) N (0, h)
      obtain ⟨x2, h3⟩ := s; unfold f_Out_leastRow_L27; try dsimp only
      refine ro_iload (pc := 27) 5 dX3_leastRow_27 rfl ?_
      refine ro_aload_n (pc := 29) 0 dX3_leastRow_29 rfl rfl ?_
      refine gf_X3_0 (pc := 30) wd_313 dX3_leastRow_30 ?_
      refine ro_cvP (pc := 33) (kc := 1) (avs := []) (st := [.int x2]) ok_Par_houses wd_908 cl_3 cv_3 rfl ⟨show 1 + 1 ≤ kc + 1 by omega, show 8 + (1 + 11) + 60 * (1) ≤ 60 * (kc + 1) by omega⟩ ⟨Nat.zero_le _, Nat.zero_le _⟩ (c_Par_houses X N h3 3 isP_i3) rfl rfl (Nat.le_of_ble_eq_true rfl) dX3_leastRow_33 (fun x4 => ?_)
      refine ro_icmp_ge (tgt := 116) (pc := 36) dX3_leastRow_36 (by decide) (fun _ => ?_) (fun _ => ?_)
      · skip
        refine ro_iconst (v := (-1)) (pc := 116) dX3_leastRow_116 (by decide) ?_
        exact ro_iret (pc := 117) rfl rfl dX3_leastRow_117
      · skip
        refine ro_aload_n (pc := 39) 0 dX3_leastRow_39 rfl rfl ?_
        refine gf_X3_3 (pc := 40) wd_316 dX3_leastRow_40 ?_
        refine ro_iload (pc := 43) 5 dX3_leastRow_43 rfl ?_
        refine ro_iald (pc := 45) (n := 6) cl_43 cv_43 dX3_leastRow_45 ?_
        refine ro_jn (pcj := 110) (lvs := fun (s : mu_H) => [(0, .ref (xa X 42)), (1, .int a1), (2, .int a2), (3, .int a3), (4, .int a4), (5, .int x2)]) (hs := fun (s : mu_H) => s) (sts := fun (s : mu_H) => []) (fun h6 => ?_) (fun j5 hj5 => ?_)
        · try dsimp only
          refine ro_iinc (pc := 110) (v := x2 + 1) (lv' := [(5, .int (x2 + 1)), (0, .ref (xa X 42)), (1, .int a1), (2, .int a2), (3, .int a3), (4, .int a4)]) 5 dX3_leastRow_110 rfl rfl (by decide) rfl ?_
          refine ro_goto (tgt := 27) (pc := 113) dX3_leastRow_113 (by decide) ?_
          refine ro_lv [1, 2, 3, 4, 5, 0] rfl ?_
          exact hrec1 (x2 + 1, h6)
        · skip
          refine ro_if_le (tgt := 110) (pc := 46) dX3_leastRow_46 (by decide) (fun _ => ?_) (fun _ => ?_)
          · skip
            exact hj5 h3
          · skip
            refine ro_aload_n (pc := 49) 0 dX3_leastRow_49 rfl rfl ?_
            refine gf_X3_3 (pc := 50) wd_316 dX3_leastRow_50 ?_
            refine ro_iload (pc := 53) 5 dX3_leastRow_53 rfl ?_
            refine ro_dup2_11 (pc := 55) dX3_leastRow_55 rfl rfl ?_
            refine ro_iald (pc := 56) (n := 6) cl_43 cv_43 dX3_leastRow_56 ?_
            refine ro_iconst (v := 1) (pc := 57) dX3_leastRow_57 (by decide) ?_
            refine ro_isub (pc := 58) dX3_leastRow_58 ?_
            refine ro_iast (pc := 59) (n := 6) cl_43 cv_43 dX3_leastRow_59 ?_
            refine ro_bnh (fun h7 => ?_)
            refine ro_aload_n (pc := 60) 0 dX3_leastRow_60 rfl rfl ?_
            refine ro_iload_n (pc := 61) 1 dX3_leastRow_61 rfl rfl ?_
            refine ro_iconst (v := 1) (pc := 62) dX3_leastRow_62 (by decide) ?_
            refine ro_isub (pc := 63) dX3_leastRow_63 ?_
            refine ro_aload_n (pc := 64) 0 dX3_leastRow_64 rfl rfl ?_
            refine gf_X3_4 (pc := 65) wd_317 dX3_leastRow_65 ?_
            refine ro_iload (pc := 68) 5 dX3_leastRow_68 rfl ?_
            refine ro_bipush (v := 100) (pc := 70) dX3_leastRow_70 (by decide) ?_
            refine ro_imul (pc := 72) dX3_leastRow_72 ?_
            refine ro_iload_n (pc := 73) 2 dX3_leastRow_73 rfl rfl ?_
            refine ro_iadd (pc := 74) dX3_leastRow_74 ?_
            refine ro_iald (pc := 75) (n := 600) cl_44 cv_44 dX3_leastRow_75 ?_
            refine ro_iload_n (pc := 76) 3 dX3_leastRow_76 rfl rfl ?_
            refine ro_iload (pc := 77) 4 dX3_leastRow_77 rfl ?_
            refine ro_bipush (v := 10) (pc := 79) dX3_leastRow_79 (by decide) ?_
            refine ro_imul (pc := 81) dX3_leastRow_81 ?_
            refine ro_iload (pc := 82) 5 dX3_leastRow_82 rfl ?_
            refine ro_iadd (pc := 84) dX3_leastRow_84 ?_
            refine ro_cvI (pc := 85) (kc := kc) (avs := [.int (a1 - 1), .int (h7.1 44 ((x2 * 100) + a2).toNatClampNeg), .int a3, .int ((a4 * 10) + x2)]) (st := []) ok_Out_leastRow wd_927 cl_42 cv_42 rfl ⟨show kc + 1 ≤ kc + 1 by omega, show 8 + (7 + 11) + 60 * (kc) ≤ 60 * (kc + 1) by omega⟩ ⟨Nat.zero_le _, Nat.zero_le _⟩ (hrf h7 (a1 - 1) (h7.1 44 ((x2 * 100) + a2).toNatClampNeg) a3 ((a4 * 10) + x2)) rfl rfl (Nat.le_of_ble_eq_true rfl) dX3_leastRow_85 (fun x8 h9 => ?_)
            refine ro_istore (pc := 88) (lv' := [(6, .int x8), (0, .ref (xa X 42)), (1, .int a1), (2, .int a2), (3, .int a3), (4, .int a4), (5, .int x2)]) dX3_leastRow_88 (by decide) rfl ?_
            refine ro_aload_n (pc := 90) 1 dX3_leastRow_90 rfl rfl ?_
            refine gf_X3_3 (pc := 91) wd_316 dX3_leastRow_91 ?_
            refine ro_iload (pc := 94) 6 dX3_leastRow_94 rfl ?_
            refine ro_dup2_11 (pc := 96) dX3_leastRow_96 rfl rfl ?_
            refine ro_iald (pc := 97) (n := 6) cl_43 cv_43 dX3_leastRow_97 ?_
            refine ro_iconst (v := 1) (pc := 98) dX3_leastRow_98 (by decide) ?_
            refine ro_iadd (pc := 99) dX3_leastRow_99 ?_
            refine ro_iast (pc := 100) (n := 6) cl_43 cv_43 dX3_leastRow_100 ?_
            refine ro_bnh (fun h11 => ?_)
            refine ro_iload (pc := 101) 0 dX3_leastRow_101 rfl ?_
            refine ro_iconst (v := (-1)) (pc := 103) dX3_leastRow_103 (by decide) ?_
            refine ro_icmp_eq (tgt := 110) (pc := 104) dX3_leastRow_104 (by decide) (fun _ => ?_) (fun _ => ?_)
            · skip
              refine ro_lv [1, 2, 3, 4, 5, 6] rfl ?_
              exact hj5 h11
            · skip
              refine ro_iload (pc := 107) 0 dX3_leastRow_107 rfl ?_
              exact ro_iret (pc := 109) rfl rfl dX3_leastRow_109
    · skip
      refine ro_iload (pc := 21) 4 dX3_leastRow_21 rfl ?_
      exact ro_iret (pc := 23) rfl rfl dX3_leastRow_23
  · skip
    refine ro_iconst (v := (-1)) (pc := 15) dX3_leastRow_15 (by decide) ?_
    exact ro_iret (pc := 16) rfl rfl dX3_leastRow_16
theorem c_Out_leastRow_B (X : mu_X) (N : Nat) (rf : mu_H → Int32 → Int32 → Int32 → Int32 → Option (Int32 × mu_H)) (kc : Nat) (hk : 1 ≤ kc) (hrf : ∀ (h : mu_H) (b0 : Int32) (b1 : Int32) (b2 : Int32) (b3 : Int32), ∀ r, rf h b0 b1 b2 b3 = some r → mI X m_Out_leastRow kc [.ref (xa X 42), .int b0, .int b1, .int b2, .int b3] h r.1 r.2) (h : mu_H) (a1 : Int32) (a2 : Int32) (a3 : Int32) (a4 : Int32) : ∀ r, f_Out_leastRow_B N rf h a1 a2 a3 a4 = some r → mI X m_Out_leastRow (kc + 1) [.ref (xa X 42), .int a1, .int a2, .int a3, .int a4] h r.1 r.2 := fun r hr => mI_of (by decide) rfl (Nat.le_of_ble_eq_true rfl) rfl (cb_Out_leastRow_B X N rf kc hk hrf h a1 a2 a3 a4 r hr)
theorem cd_Out_leastRow (X : mu_X) (N : Nat) : ∀ (D : Nat) (h : mu_H) (a1 : Int32) (a2 : Int32) (a3 : Int32) (a4 : Int32), ∀ r, lp (f_Out_leastRow_R N) D (h, a1, a2, a3, a4) = some r → mI X m_Out_leastRow (1 + 1 * D) [.ref (xa X 42), .int a1, .int a2, .int a3, .int a4] h r.1 r.2 := by
  intro D
  induction D with
  | zero => intro h a1 a2 a3 a4 r hr; cases hr
  | succ D ih => intro h a1 a2 a3 a4 r hr; exact c_Out_leastRow_B X N _ (1 + 1 * D) (by omega) (fun h a1 a2 a3 a4 r hr => ih h a1 a2 a3 a4 r hr) h a1 a2 a3 a4 r hr
theorem c_Out_leastRow (X : mu_X) (N : Nat) (h : mu_H) (a1 : Int32) (a2 : Int32) (a3 : Int32) (a4 : Int32) : ∀ r, f_Out_leastRow N h a1 a2 a3 a4 = some r → mI X m_Out_leastRow 11 [.ref (xa X 42), .int a1, .int a2, .int a3, .int a4] h r.1 r.2 := fun r hr => cd_Out_leastRow X N 10 h a1 a2 a3 a4 r hr
set_option maxRecDepth 20000 in
theorem cb_Out_fewestDays (X : mu_X) (N : Nat) (h : mu_H) (a1 : Int32) (a2 : Int32) : aG X m_Out_fewestDays (rmk 12) (fun _ => ax X) (fun _ _ _ => True) 0 0 (fun r : Int32 × mu_H => qI X r.1 r.2) (f_Out_fewestDays N h a1 a2) 0 [(0, .ref (xa X 42)), (1, .int a1), (2, .int a2)] [] h := by
  unfold f_Out_fewestDays
  refine ro_aload_n (pc := 0) 0 dX3_fewestDays_0 rfl rfl ?_
  refine gf_X3_1 (pc := 1) wd_314 dX3_fewestDays_1 ?_
  refine ro_iload_n (pc := 4) 1 dX3_fewestDays_4 rfl rfl ?_
  refine ro_cvP (pc := 5) (kc := 1) (avs := [.int a1]) (st := []) ok_Sta_wear wd_907 cl_14 cv_14 rfl ⟨by decide, by decide⟩ ⟨Nat.zero_le _, Nat.zero_le _⟩ (c_Sta_wear X N h 14 isT_i14 a1) rfl rfl (Nat.le_of_ble_eq_true rfl) dX3_fewestDays_5 (fun x1 => ?_)
  refine ro_istore_n (pc := 8) (lv' := [(3, .int x1), (0, .ref (xa X 42)), (1, .int a1), (2, .int a2)]) dX3_fewestDays_8 rfl (by decide) rfl ?_
  refine ro_iconst (v := 0) (pc := 9) dX3_fewestDays_9 (by decide) ?_
  refine ro_istore (pc := 10) (lv' := [(4, .int 0), (3, .int x1), (0, .ref (xa X 42)), (1, .int a1), (2, .int a2)]) dX3_fewestDays_10 (by decide) rfl ?_
  refine ro_jn (pcj := 63) (lvs := fun (s : mu_H) => [(0, .ref (xa X 42)), (1, .int a1), (2, .int a2), (3, .int x1)]) (hs := fun (s : mu_H) => s) (sts := fun (s : mu_H) => []) (fun h3 => ?_) (fun k2 hk2 => ?_)
  · try dsimp only
    refine ro_aload_n (pc := 63) 0 dX3_fewestDays_63 rfl rfl ?_
    refine ro_iload_n (pc := 64) 1 dX3_fewestDays_64 rfl rfl ?_
    refine ro_iload_n (pc := 65) 3 dX3_fewestDays_65 rfl rfl ?_
    refine ro_cvV (pc := 66) (kc := 6) (avs := [.int a1, .int x1]) (st := []) ok_Out_foreseeDays wd_911 cl_42 cv_42 rfl ⟨by decide, by decide⟩ ⟨Nat.zero_le _, Nat.zero_le _⟩ (c_Out_foreseeDays X N h3 a1 x1) rfl rfl (Nat.le_of_ble_eq_true rfl) dX3_fewestDays_66 (fun h4 => ?_)
    refine ro_aload_n (pc := 69) 0 dX3_fewestDays_69 rfl rfl ?_
    refine ro_iload_n (pc := 70) 3 dX3_fewestDays_70 rfl rfl ?_
    refine ro_cvV (pc := 71) (kc := 2) (avs := [.int x1]) (st := []) ok_Out_foreseeLowest wd_923 cl_42 cv_42 rfl ⟨by decide, by decide⟩ ⟨Nat.zero_le _, Nat.zero_le _⟩ (c_Out_foreseeLowest X N h4 x1) rfl rfl (Nat.le_of_ble_eq_true rfl) dX3_fewestDays_71 (fun h5 => ?_)
    refine ro_iconst (v := 0) (pc := 74) dX3_fewestDays_74 (by decide) ?_
    refine ro_istore (pc := 75) (lv' := [(4, .int 0), (0, .ref (xa X 42)), (1, .int a1), (2, .int a2), (3, .int x1)]) dX3_fewestDays_75 (by decide) rfl ?_
    refine ro_jn (pcj := 101) (lvs := fun (s : Int32 × Int32 × mu_H) => [(4, .int s.1), (5, .int s.2.1)]) (hs := fun (s : Int32 × Int32 × mu_H) => s.2.2) (sts := fun (s : Int32 × Int32 × mu_H) => []) (fun s => ?_) (fun k6 hk6 => ?_)
    · obtain ⟨x7, x8, h9⟩ := s; try dsimp only
      refine ro_iload (pc := 101) 0 dX3_fewestDays_101 rfl ?_
      refine ro_ldc (v := 1000000) (pc := 103) dX3_fewestDays_103 wd_931 ?_
      refine ro_imul (pc := 105) dX3_fewestDays_105 ?_
      refine ro_iload (pc := 106) 1 dX3_fewestDays_106 rfl ?_
      refine ro_iadd (pc := 108) dX3_fewestDays_108 ?_
      exact ro_iret (pc := 109) rfl rfl dX3_fewestDays_109
    · skip
      refine ro_lv [1, 3, 4, 0] rfl ?_
      refine ro_lp (pc := 77) (lvs := fun (s : Int32 × mu_H) => [(0, .ref (xa X 42)), (2, .int a2), (3, .int x1), (4, .int s.1)]) (hs := fun (s : Int32 × mu_H) => s.2) (fun rec10 hrec10 s => ?_) N (0, h5)
      obtain ⟨x11, h12⟩ := s; unfold f_Out_fewestDays_L77; try dsimp only
      refine ro_iload (pc := 77) 3 dX3_fewestDays_77 rfl ?_
      refine ro_bipush (v := 6) (pc := 79) dX3_fewestDays_79 (by decide) ?_
      refine ro_icmp_gt (tgt := 116) (pc := 81) dX3_fewestDays_81 (by decide) (fun _ => ?_) (fun _ => ?_)
      · skip
        refine ro_iconst (v := (-1)) (pc := 116) dX3_fewestDays_116 (by decide) ?_
        exact ro_iret (pc := 117) rfl rfl dX3_fewestDays_117
      · skip
        refine ro_aload_n (pc := 84) 0 dX3_fewestDays_84 rfl rfl ?_
        refine ro_iload (pc := 85) 3 dX3_fewestDays_85 rfl ?_
        refine ro_iload_n (pc := 87) 2 dX3_fewestDays_87 rfl rfl ?_
        refine ro_iload_n (pc := 88) 1 dX3_fewestDays_88 rfl rfl ?_
        refine ro_iconst (v := 0) (pc := 89) dX3_fewestDays_89 (by decide) ?_
        refine ro_cvI (pc := 90) (kc := 11) (avs := [.int x11, .int x1, .int a2, .int 0]) (st := []) ok_Out_leastRow wd_927 cl_42 cv_42 rfl ⟨by decide, by decide⟩ ⟨Nat.zero_le _, Nat.zero_le _⟩ (c_Out_leastRow X N h12 x11 x1 a2 0) rfl rfl (Nat.le_of_ble_eq_true rfl) dX3_fewestDays_90 (fun x13 h14 => ?_)
        refine ro_istore (pc := 93) (lv' := [(5, .int x13), (0, .ref (xa X 42)), (2, .int a2), (3, .int x1), (4, .int x11)]) dX3_fewestDays_93 (by decide) rfl ?_
        refine ro_iload (pc := 95) 0 dX3_fewestDays_95 rfl ?_
        refine ro_iconst (v := (-1)) (pc := 97) dX3_fewestDays_97 (by decide) ?_
        refine ro_icmp_eq (tgt := 110) (pc := 98) dX3_fewestDays_98 (by decide) (fun _ => ?_) (fun _ => ?_)
        · skip
          refine ro_iinc (pc := 110) (v := x11 + 1) (lv' := [(4, .int (x11 + 1)), (5, .int x13), (0, .ref (xa X 42)), (2, .int a2), (3, .int x1)]) 4 dX3_fewestDays_110 rfl rfl (by decide) rfl ?_
          refine ro_goto (tgt := 77) (pc := 113) dX3_fewestDays_113 (by decide) ?_
          refine ro_lv [2, 3, 4, 0] rfl ?_
          exact hrec10 (x11 + 1, h14)
        · skip
          refine ro_lv [4, 0] rfl ?_
          exact hk6 (x11, x13, h14)
  · skip
    refine ro_lv [2, 3, 4, 1, 0] rfl ?_
    refine ro_lp (pc := 12) (lvs := fun (s : Int32 × mu_H) => [(0, .ref (xa X 42)), (1, .int a1), (2, .int a2), (3, .int x1), (4, .int s.1)]) (hs := fun (s : Int32 × mu_H) => s.2) (fun rec16 hrec16 s => ?_) N (0, h)
    obtain ⟨x17, h18⟩ := s; unfold f_Out_fewestDays_L12; try dsimp only
    refine ro_iload (pc := 12) 4 dX3_fewestDays_12 rfl ?_
    refine ro_aload_n (pc := 14) 0 dX3_fewestDays_14 rfl rfl ?_
    refine gf_X3_0 (pc := 15) wd_313 dX3_fewestDays_15 ?_
    refine ro_cvP (pc := 18) (kc := 1) (avs := []) (st := [.int x17]) ok_Par_houses wd_908 cl_3 cv_3 rfl ⟨by decide, by decide⟩ ⟨Nat.zero_le _, Nat.zero_le _⟩ (c_Par_houses X N h18 3 isP_i3) rfl rfl (Nat.le_of_ble_eq_true rfl) dX3_fewestDays_18 (fun x19 => ?_)
    refine ro_icmp_ge (tgt := 63) (pc := 21) dX3_fewestDays_21 (by decide) (fun _ => ?_) (fun _ => ?_)
    · skip
      refine ro_lv [0, 1, 2, 3] rfl ?_
      exact hk2 h18
    · skip
      refine ro_aload_n (pc := 24) 0 dX3_fewestDays_24 rfl rfl ?_
      refine gf_X3_3 (pc := 25) wd_316 dX3_fewestDays_25 ?_
      refine ro_iload (pc := 28) 4 dX3_fewestDays_28 rfl ?_
      refine ro_aload_n (pc := 30) 0 dX3_fewestDays_30 rfl rfl ?_
      refine gf_X3_2 (pc := 31) wd_315 dX3_fewestDays_31 ?_
      refine ro_iload (pc := 34) 4 dX3_fewestDays_34 rfl ?_
      refine ro_iload_n (pc := 36) 1 dX3_fewestDays_36 rfl rfl ?_
      refine ro_cvP (pc := 37) (kc := 3) (avs := [.int x17, .int a1]) (st := [.int x17, .ref (xa X 43)]) ok_Lab_canCome wd_909 cl_22 cv_22 rfl ⟨by decide, by decide⟩ ⟨Nat.zero_le _, Nat.zero_le _⟩ (c_Lab_canCome X N h18 x17 a1) rfl rfl (Nat.le_of_ble_eq_true rfl) dX3_fewestDays_37 (fun x20 => ?_)
      refine ro_jn (pcj := 56) (lvs := fun (s : Int32) => [(0, .ref (xa X 42)), (1, .int a1), (2, .int a2), (3, .int x1), (4, .int x17)]) (hs := fun (s : Int32) => h18) (sts := fun (s : Int32) => [.int s, .int x17, .ref (xa X 43)]) (fun x22 => ?_) (fun j21 hj21 => ?_)
      · try dsimp only
        refine ro_iast (pc := 56) (n := 6) cl_43 cv_43 dX3_fewestDays_56 ?_
        refine ro_bnh (fun h23 => ?_)
        refine ro_iinc (pc := 57) (v := x17 + 1) (lv' := [(4, .int (x17 + 1)), (0, .ref (xa X 42)), (1, .int a1), (2, .int a2), (3, .int x1)]) 4 dX3_fewestDays_57 rfl rfl (by decide) rfl ?_
        refine ro_goto (tgt := 12) (pc := 60) dX3_fewestDays_60 (by decide) ?_
        refine ro_lv [1, 2, 3, 4, 0] rfl ?_
        exact hrec16 (x17 + 1, h23)
      · skip
        refine ro_if_eq (tgt := 55) (pc := 40) dX3_fewestDays_40 (by decide) (fun _ => ?_) (fun _ => ?_)
        · skip
          refine ro_iconst (v := 0) (pc := 55) dX3_fewestDays_55 (by decide) ?_
          exact hj21 0
        · skip
          refine ro_aload_n (pc := 43) 0 dX3_fewestDays_43 rfl rfl ?_
          refine gf_X3_1 (pc := 44) wd_314 dX3_fewestDays_44 ?_
          refine ro_iload (pc := 47) 4 dX3_fewestDays_47 rfl ?_
          refine ro_cvP (pc := 49) (kc := 1) (avs := [.int x17]) (st := [.int x17, .ref (xa X 43)]) ok_Sta_owed wd_910 cl_14 cv_14 rfl ⟨by decide, by decide⟩ ⟨Nat.zero_le _, Nat.zero_le _⟩ (c_Sta_owed X N h18 14 isT_i14 x17) rfl rfl (Nat.le_of_ble_eq_true rfl) dX3_fewestDays_49 (fun x24 => ?_)
          refine ro_goto (tgt := 56) (pc := 52) dX3_fewestDays_52 (by decide) ?_
          exact hj21 x24
theorem c_Out_fewestDays (X : mu_X) (N : Nat) (h : mu_H) (a1 : Int32) (a2 : Int32) : ∀ r, f_Out_fewestDays N h a1 a2 = some r → mI X m_Out_fewestDays 12 [.ref (xa X 42), .int a1, .int a2] h r.1 r.2 := fun r hr => mI_of (by decide) rfl (Nat.le_of_ble_eq_true rfl) rfl (cb_Out_fewestDays X N h a1 a2 r hr)
set_option maxRecDepth 20000 in
theorem cb_Out_seasonsTillFull (X : mu_X) (N : Nat) (h : mu_H) (a1 : Int32) : aG X m_Out_seasonsTillFull (rmk 3) (fun _ => ax X) (fun _ _ _ => True) 0 0 (fun r : Int32 => qI X r h) (f_Out_seasonsTillFull N h a1) 0 [(0, .ref (xa X 42)), (1, .int a1)] [] h := by
  unfold f_Out_seasonsTillFull
  refine ro_aload_n (pc := 0) 0 dX3_seasonsTillFull_0 rfl rfl ?_
  refine gf_X3_1 (pc := 1) wd_314 dX3_seasonsTillFull_1 ?_
  refine ro_iload_n (pc := 4) 1 dX3_seasonsTillFull_4 rfl rfl ?_
  refine ro_cvP (pc := 5) (kc := 1) (avs := [.int a1]) (st := []) ok_Sta_wear wd_907 cl_14 cv_14 rfl ⟨by decide, by decide⟩ ⟨Nat.zero_le _, Nat.zero_le _⟩ (c_Sta_wear X N h 14 isT_i14 a1) rfl rfl (Nat.le_of_ble_eq_true rfl) dX3_seasonsTillFull_5 (fun x1 => ?_)
  refine ro_istore_n (pc := 8) (lv' := [(2, .int x1), (0, .ref (xa X 42)), (1, .int a1)]) dX3_seasonsTillFull_8 rfl (by decide) rfl ?_
  refine ro_iconst (v := 0) (pc := 9) dX3_seasonsTillFull_9 (by decide) ?_
  refine ro_istore_n (pc := 10) (lv' := [(3, .int 0), (2, .int x1), (0, .ref (xa X 42)), (1, .int a1)]) dX3_seasonsTillFull_10 rfl (by decide) rfl ?_
  refine ro_lv [2, 3, 1, 0] rfl ?_
  refine ro_lp (pc := 11) (lvs := fun (s : Int32 × Int32) => [(0, .ref (xa X 42)), (1, .int a1), (2, .int s.1), (3, .int s.2)]) (hs := fun (s : Int32 × Int32) => h) (fun rec2 hrec2 s => ?_) N (x1, 0)
  obtain ⟨x3, x4⟩ := s; unfold f_Out_seasonsTillFull_L11; try dsimp only
  refine ro_iload_n (pc := 11) 3 dX3_seasonsTillFull_11 rfl rfl ?_
  refine ro_sipush (v := 200) (pc := 12) dX3_seasonsTillFull_12 (by decide) ?_
  refine ro_icmp_gt (tgt := 66) (pc := 15) dX3_seasonsTillFull_15 (by decide) (fun _ => ?_) (fun _ => ?_)
  · skip
    refine ro_iconst (v := (-1)) (pc := 66) dX3_seasonsTillFull_66 (by decide) ?_
    exact ro_iret (pc := 67) rfl rfl dX3_seasonsTillFull_67
  · skip
    refine ro_iload_n (pc := 18) 2 dX3_seasonsTillFull_18 rfl rfl ?_
    refine ro_bipush (v := 99) (pc := 19) dX3_seasonsTillFull_19 (by decide) ?_
    refine ro_icmp_lt (tgt := 26) (pc := 21) dX3_seasonsTillFull_21 (by decide) (fun _ => ?_) (fun _ => ?_)
    · skip
      refine ro_aload_n (pc := 26) 0 dX3_seasonsTillFull_26 rfl rfl ?_
      refine gf_X3_1 (pc := 27) wd_314 dX3_seasonsTillFull_27 ?_
      refine ro_cvP (pc := 30) (kc := 1) (avs := []) (st := []) ok_Sta_season wd_1139 cl_14 cv_14 rfl ⟨by decide, by decide⟩ ⟨Nat.zero_le _, Nat.zero_le _⟩ (c_Sta_season X N h 14 isT_i14) rfl rfl (Nat.le_of_ble_eq_true rfl) dX3_seasonsTillFull_30 (fun x5 => ?_)
      refine ro_iload_n (pc := 33) 3 dX3_seasonsTillFull_33 rfl rfl ?_
      refine ro_iadd (pc := 34) dX3_seasonsTillFull_34 ?_
      refine ro_iconst (v := 4) (pc := 35) dX3_seasonsTillFull_35 (by decide) ?_
      refine ro_irem (pc := 36) dX3_seasonsTillFull_36 (by decide) ?_
      refine ro_iconst (v := 3) (pc := 37) dX3_seasonsTillFull_37 (by decide) ?_
      refine ro_jn (pcj := 46) (lvs := fun (s : Int32) => [(0, .ref (xa X 42)), (1, .int a1), (2, .int x3), (3, .int x4)]) (hs := fun (s : Int32) => h) (sts := fun (s : Int32) => [.int s]) (fun x7 => ?_) (fun j6 hj6 => ?_)
      · try dsimp only
        refine ro_istore (pc := 46) (lv' := [(4, .int x7), (0, .ref (xa X 42)), (1, .int a1), (2, .int x3), (3, .int x4)]) dX3_seasonsTillFull_46 (by decide) rfl ?_
        refine ro_aload_n (pc := 48) 1 dX3_seasonsTillFull_48 rfl rfl ?_
        refine gf_X3_2 (pc := 49) wd_315 dX3_seasonsTillFull_49 ?_
        refine ro_iload_n (pc := 52) 2 dX3_seasonsTillFull_52 rfl rfl ?_
        refine ro_iload_n (pc := 53) 3 dX3_seasonsTillFull_53 rfl rfl ?_
        refine ro_iload (pc := 54) 0 dX3_seasonsTillFull_54 rfl ?_
        refine ro_cvP (pc := 56) (kc := 2) (avs := [.int a1, .int x3, .int x7]) (st := []) ok_Lab_wornOn wd_1140 cl_22 cv_22 rfl ⟨by decide, by decide⟩ ⟨Nat.zero_le _, Nat.zero_le _⟩ (c_Lab_wornOn X N h a1 x3 x7) rfl rfl (Nat.le_of_ble_eq_true rfl) dX3_seasonsTillFull_56 (fun x8 => ?_)
        refine ro_istore_n (pc := 59) (lv' := [(2, .int x8), (4, .int x7), (0, .ref (xa X 42)), (1, .int a1), (3, .int x4)]) dX3_seasonsTillFull_59 rfl (by decide) rfl ?_
        refine ro_iinc (pc := 60) (v := x4 + 1) (lv' := [(3, .int (x4 + 1)), (2, .int x8), (4, .int x7), (0, .ref (xa X 42)), (1, .int a1)]) 4 dX3_seasonsTillFull_60 rfl rfl (by decide) rfl ?_
        refine ro_goto (tgt := 11) (pc := 63) dX3_seasonsTillFull_63 (by decide) ?_
        refine ro_lv [3, 4, 1, 0] rfl ?_
        exact hrec2 (x8, x4 + 1)
      · skip
        refine ro_icmp_ne (tgt := 45) (pc := 38) dX3_seasonsTillFull_38 (by decide) (fun _ => ?_) (fun _ => ?_)
        · skip
          refine ro_iconst (v := 0) (pc := 45) dX3_seasonsTillFull_45 (by decide) ?_
          exact hj6 0
        · skip
          refine ro_iconst (v := 1) (pc := 41) dX3_seasonsTillFull_41 (by decide) ?_
          refine ro_goto (tgt := 46) (pc := 42) dX3_seasonsTillFull_42 (by decide) ?_
          exact hj6 1
    · skip
      refine ro_iload_n (pc := 24) 3 dX3_seasonsTillFull_24 rfl rfl ?_
      exact ro_iret (pc := 25) rfl rfl dX3_seasonsTillFull_25
theorem c_Out_seasonsTillFull (X : mu_X) (N : Nat) (h : mu_H) (a1 : Int32) : ∀ r, f_Out_seasonsTillFull N h a1 = some r → mI X m_Out_seasonsTillFull 3 [.ref (xa X 42), .int a1] h r h := fun r hr => mI_of (by decide) rfl (Nat.le_of_ble_eq_true rfl) rfl (cb_Out_seasonsTillFull X N h a1 r hr)
set_option maxRecDepth 20000 in
theorem cb_Out_firstToFail (X : mu_X) (N : Nat) (h : mu_H) : aG X m_Out_firstToFail (rmk 4) (fun _ => ax X) (fun _ _ _ => True) 0 0 (fun r : Int32 => qI X r h) (f_Out_firstToFail N h) 0 [(0, .ref (xa X 42))] [] h := by
  unfold f_Out_firstToFail
  refine ro_iconst (v := (-1)) (pc := 0) dX3_firstToFail_0 (by decide) ?_
  refine ro_istore_n (pc := 1) (lv' := [(1, .int (-1)), (0, .ref (xa X 42))]) dX3_firstToFail_1 rfl (by decide) rfl ?_
  refine ro_sipush (v := 201) (pc := 2) dX3_firstToFail_2 (by decide) ?_
  refine ro_istore_n (pc := 5) (lv' := [(2, .int 201), (1, .int (-1)), (0, .ref (xa X 42))]) dX3_firstToFail_5 rfl (by decide) rfl ?_
  refine ro_iconst (v := 0) (pc := 6) dX3_firstToFail_6 (by decide) ?_
  refine ro_istore_n (pc := 7) (lv' := [(3, .int 0), (2, .int 201), (1, .int (-1)), (0, .ref (xa X 42))]) dX3_firstToFail_7 rfl (by decide) rfl ?_
  refine ro_lv [3, 2, 1, 0] rfl ?_
  refine ro_lp (pc := 8) (lvs := fun (s : Int32 × Int32 × Int32) => [(0, .ref (xa X 42)), (1, .int s.1), (2, .int s.2.1), (3, .int s.2.2)]) (hs := fun (s : Int32 × Int32 × Int32) => h) (fun rec1 hrec1 s => ?_) N ((-1), 201, 0)
  obtain ⟨x2, x3, x4⟩ := s; unfold f_Out_firstToFail_L8; try dsimp only
  refine ro_iload_n (pc := 8) 3 dX3_firstToFail_8 rfl rfl ?_
  refine ro_aload_n (pc := 9) 0 dX3_firstToFail_9 rfl rfl ?_
  refine gf_X3_0 (pc := 10) wd_313 dX3_firstToFail_10 ?_
  refine ro_cvP (pc := 13) (kc := 1) (avs := []) (st := [.int x4]) ok_Par_stretches wd_1134 cl_3 cv_3 rfl ⟨by decide, by decide⟩ ⟨Nat.zero_le _, Nat.zero_le _⟩ (c_Par_stretches X N h 3 isP_i3) rfl rfl (Nat.le_of_ble_eq_true rfl) dX3_firstToFail_13 (fun x5 => ?_)
  refine ro_icmp_ge (tgt := 49) (pc := 16) dX3_firstToFail_16 (by decide) (fun _ => ?_) (fun _ => ?_)
  · skip
    refine ro_iload_n (pc := 49) 1 dX3_firstToFail_49 rfl rfl ?_
    exact ro_iret (pc := 50) rfl rfl dX3_firstToFail_50
  · skip
    refine ro_aload_n (pc := 19) 0 dX3_firstToFail_19 rfl rfl ?_
    refine ro_iload_n (pc := 20) 3 dX3_firstToFail_20 rfl rfl ?_
    refine ro_cvP (pc := 21) (kc := 3) (avs := [.int x4]) (st := []) ok_Out_seasonsTillFull wd_1135 cl_42 cv_42 rfl ⟨by decide, by decide⟩ ⟨Nat.zero_le _, Nat.zero_le _⟩ (c_Out_seasonsTillFull X N h x4) rfl rfl (Nat.le_of_ble_eq_true rfl) dX3_firstToFail_21 (fun x6 => ?_)
    refine ro_istore (pc := 24) (lv' := [(4, .int x6), (0, .ref (xa X 42)), (1, .int x2), (2, .int x3), (3, .int x4)]) dX3_firstToFail_24 (by decide) rfl ?_
    refine ro_iload (pc := 26) 0 dX3_firstToFail_26 rfl ?_
    refine ro_iconst (v := (-1)) (pc := 28) dX3_firstToFail_28 (by decide) ?_
    refine ro_jn (pcj := 43) (lvs := fun (s : Int32 × Int32) => [(0, .ref (xa X 42)), (1, .int s.1), (2, .int s.2), (3, .int x4)]) (hs := fun (s : Int32 × Int32) => h) (sts := fun (s : Int32 × Int32) => []) (fun s => ?_) (fun j7 hj7 => ?_)
    · obtain ⟨x8, x9⟩ := s; try dsimp only
      refine ro_iinc (pc := 43) (v := x4 + 1) (lv' := [(3, .int (x4 + 1)), (0, .ref (xa X 42)), (1, .int x8), (2, .int x9)]) 3 dX3_firstToFail_43 rfl rfl (by decide) rfl ?_
      refine ro_goto (tgt := 8) (pc := 46) dX3_firstToFail_46 (by decide) ?_
      refine ro_lv [1, 2, 3, 0] rfl ?_
      exact hrec1 (x8, x9, x4 + 1)
    · skip
      refine ro_icmp_eq (tgt := 43) (pc := 29) dX3_firstToFail_29 (by decide) (fun _ => ?_) (fun _ => ?_)
      · skip
        refine ro_lv [1, 2, 3, 4] rfl ?_
        exact hj7 (x2, x3)
      · skip
        refine ro_iload (pc := 32) 0 dX3_firstToFail_32 rfl ?_
        refine ro_iload_n (pc := 34) 3 dX3_firstToFail_34 rfl rfl ?_
        refine ro_icmp_ge (tgt := 43) (pc := 35) dX3_firstToFail_35 (by decide) (fun _ => ?_) (fun _ => ?_)
        · skip
          refine ro_lv [1, 2, 3, 4] rfl ?_
          exact hj7 (x2, x3)
        · skip
          refine ro_iload (pc := 38) 0 dX3_firstToFail_38 rfl ?_
          refine ro_istore_n (pc := 40) (lv' := [(2, .int x6), (4, .int x6), (0, .ref (xa X 42)), (1, .int x2), (3, .int x4)]) dX3_firstToFail_40 rfl (by decide) rfl ?_
          refine ro_iload_n (pc := 41) 4 dX3_firstToFail_41 rfl rfl ?_
          refine ro_istore_n (pc := 42) (lv' := [(1, .int x4), (2, .int x6), (4, .int x6), (0, .ref (xa X 42)), (3, .int x4)]) dX3_firstToFail_42 rfl (by decide) rfl ?_
          refine ro_lv [3, 0, 1, 4] rfl ?_
          exact hj7 (x4, x6)
theorem c_Out_firstToFail (X : mu_X) (N : Nat) (h : mu_H) : ∀ r, f_Out_firstToFail N h = some r → mI X m_Out_firstToFail 4 [.ref (xa X 42)] h r h := fun r hr => mI_of (by decide) rfl (Nat.le_of_ble_eq_true rfl) rfl (cb_Out_firstToFail X N h r hr)
set_option maxRecDepth 20000 in
theorem cb_Out_ones (X : mu_X) (N : Nat) (h : mu_H) (a1 : Int32) (a2 : Int32) : aG X m_Out_ones (rmk 1) (fun _ => ax X) (fun _ _ _ => True) 0 0 (fun r : Int32 => qI X r h) (f_Out_ones N h a1 a2) 0 [(0, .ref (xa X 42)), (1, .int a1), (2, .int a2)] [] h := by
  unfold f_Out_ones
  refine ro_aload_n (pc := 0) 0 dX3_ones_0 rfl rfl ?_
  refine gf_X3_8 (pc := 1) wd_321 dX3_ones_1 ?_
  refine ro_iload_n (pc := 4) 1 dX3_ones_4 rfl rfl ?_
  refine ro_iald (pc := 5) (n := 4) cl_48 cv_48 dX3_ones_5 ?_
  refine ro_aload_n (pc := 6) 0 dX3_ones_6 rfl rfl ?_
  refine gf_X3_9 (pc := 7) wd_322 dX3_ones_7 ?_
  refine ro_iload_n (pc := 10) 2 dX3_ones_10 rfl rfl ?_
  refine ro_iald (pc := 11) (n := 4) cl_49 cv_49 dX3_ones_11 ?_
  refine ro_iadd (pc := 12) dX3_ones_12 ?_
  refine ro_iconst (v := 2) (pc := 13) dX3_ones_13 (by decide) ?_
  refine ro_idiv (pc := 14) dX3_ones_14 (by decide) ?_
  refine ro_gets (kk := 6) (pc := 15) rfl wd_1006 dX3_ones_15 ?_
  refine ro_iload_n (pc := 18) 1 dX3_ones_18 rfl rfl ?_
  refine ti_6 (pc := 19) dX3_ones_19 ?_
  refine ro_isub (pc := 20) dX3_ones_20 ?_
  exact ro_iret (pc := 21) rfl rfl dX3_ones_21
theorem c_Out_ones (X : mu_X) (N : Nat) (h : mu_H) (a1 : Int32) (a2 : Int32) : ∀ r, f_Out_ones N h a1 a2 = some r → mI X m_Out_ones 1 [.ref (xa X 42), .int a1, .int a2] h r h := fun r hr => mI_of (by decide) rfl (Nat.le_of_ble_eq_true rfl) rfl (cb_Out_ones X N h a1 a2 r hr)
set_option maxRecDepth 20000 in
theorem cb_Out_others (X : mu_X) (N : Nat) (h : mu_H) (a1 : Int32) (a2 : Int32) : aG X m_Out_others (rmk 1) (fun _ => ax X) (fun _ _ _ => True) 0 0 (fun r : Int32 => qI X r h) (f_Out_others N h a1 a2) 0 [(0, .ref (xa X 42)), (1, .int a1), (2, .int a2)] [] h := by
  unfold f_Out_others
  refine ro_aload_n (pc := 0) 0 dX3_others_0 rfl rfl ?_
  refine gf_X3_8 (pc := 1) wd_321 dX3_others_1 ?_
  refine ro_iload_n (pc := 4) 1 dX3_others_4 rfl rfl ?_
  refine ro_iald (pc := 5) (n := 4) cl_48 cv_48 dX3_others_5 ?_
  refine ro_aload_n (pc := 6) 0 dX3_others_6 rfl rfl ?_
  refine gf_X3_9 (pc := 7) wd_322 dX3_others_7 ?_
  refine ro_iload_n (pc := 10) 2 dX3_others_10 rfl rfl ?_
  refine ro_iald (pc := 11) (n := 4) cl_49 cv_49 dX3_others_11 ?_
  refine ro_iadd (pc := 12) dX3_others_12 ?_
  refine ro_iconst (v := 2) (pc := 13) dX3_others_13 (by decide) ?_
  refine ro_idiv (pc := 14) dX3_others_14 (by decide) ?_
  refine ro_gets (kk := 6) (pc := 15) rfl wd_1006 dX3_others_15 ?_
  refine ro_iload_n (pc := 18) 2 dX3_others_18 rfl rfl ?_
  refine ti_6 (pc := 19) dX3_others_19 ?_
  refine ro_isub (pc := 20) dX3_others_20 ?_
  exact ro_iret (pc := 21) rfl rfl dX3_others_21
theorem c_Out_others (X : mu_X) (N : Nat) (h : mu_H) (a1 : Int32) (a2 : Int32) : ∀ r, f_Out_others N h a1 a2 = some r → mI X m_Out_others 1 [.ref (xa X 42), .int a1, .int a2] h r h := fun r hr => mI_of (by decide) rfl (Nat.le_of_ble_eq_true rfl) rfl (cb_Out_others X N h a1 a2 r hr)
set_option maxRecDepth 20000 in
theorem cb_Out_isRest (X : mu_X) (N : Nat) (h : mu_H) (a1 : Int32) (a2 : Int32) : aG X m_Out_isRest (rmk 2) (fun _ => ax X) (fun _ _ _ => True) 0 0 (fun r : Int32 => qI X r h) (f_Out_isRest N h a1 a2) 0 [(0, .ref (xa X 42)), (1, .int a1), (2, .int a2)] [] h := by
  unfold f_Out_isRest
  refine ro_gets (kk := 7) (pc := 0) rfl wd_1020 dX3_isRest_0 ?_
  refine ro_astore_n (pc := 3) (lv' := [(3, .ref (xs X 7)), (0, .ref (xa X 42)), (1, .int a1), (2, .int a2)]) dX3_isRest_3 rfl (by decide) rfl ?_
  refine ro_aload_n (pc := 4) 0 dX3_isRest_4 rfl rfl ?_
  refine ro_tlen (kk := 7) (v := 3) (pc := 5) rfl rfl dX3_isRest_5 ?_
  refine ro_istore (pc := 6) (lv' := [(4, .int 3), (3, .ref (xs X 7)), (0, .ref (xa X 42)), (1, .int a1), (2, .int a2)]) dX3_isRest_6 (by decide) rfl ?_
  refine ro_iconst (v := 0) (pc := 8) dX3_isRest_8 (by decide) ?_
  refine ro_istore (pc := 9) (lv' := [(5, .int 0), (4, .int 3), (3, .ref (xs X 7)), (0, .ref (xa X 42)), (1, .int a1), (2, .int a2)]) dX3_isRest_9 (by decide) rfl ?_
  refine ro_lv [3, 4, 5, 2, 1, 0] rfl ?_
  refine ro_lp (pc := 11) (lvs := fun (s : Int32) => [(0, .ref (xa X 42)), (1, .int a1), (2, .int a2), (3, .ref (xs X 7)), (4, .int 3), (5, .int s)]) (hs := fun (s : Int32) => h) (fun rec1 hrec1 x2 => ?_) N 0
  unfold f_Out_isRest_L11; try dsimp only
  refine ro_iload (pc := 11) 5 dX3_isRest_11 rfl ?_
  refine ro_iload (pc := 13) 4 dX3_isRest_13 rfl ?_
  refine ro_icmp_ge (tgt := 64) (pc := 15) dX3_isRest_15 (by decide) (fun _ => ?_) (fun _ => ?_)
  · skip
    refine ro_iconst (v := 1) (pc := 64) dX3_isRest_64 (by decide) ?_
    exact ro_zret (pc := 65) rfl rfl rfl dX3_isRest_65
  · skip
    refine ro_aload_n (pc := 18) 3 dX3_isRest_18 rfl rfl ?_
    refine ro_iload (pc := 19) 5 dX3_isRest_19 rfl ?_
    refine ti_7 (pc := 21) dX3_isRest_21 ?_
    refine ro_bn (fun x3 => ?_)
    refine ro_istore (pc := 22) (lv' := [(6, .int x3), (0, .ref (xa X 42)), (1, .int a1), (2, .int a2), (3, .ref (xs X 7)), (4, .int 3), (5, .int x2)]) dX3_isRest_22 (by decide) rfl ?_
    refine ro_aload_n (pc := 24) 1 dX3_isRest_24 rfl rfl ?_
    refine ro_iload (pc := 25) 0 dX3_isRest_25 rfl ?_
    refine ro_iload_n (pc := 27) 3 dX3_isRest_27 rfl rfl ?_
    refine ro_cvP (pc := 28) (kc := 1) (avs := [.int x3, .int a2]) (st := []) ok_Out_ones wd_1026 cl_42 cv_42 rfl ⟨by decide, by decide⟩ ⟨Nat.zero_le _, Nat.zero_le _⟩ (c_Out_ones X N h x3 a2) rfl rfl (Nat.le_of_ble_eq_true rfl) dX3_isRest_28 (fun x4 => ?_)
    refine ro_aload_n (pc := 31) 1 dX3_isRest_31 rfl rfl ?_
    refine ro_iload_n (pc := 32) 2 dX3_isRest_32 rfl rfl ?_
    refine ro_iload_n (pc := 33) 3 dX3_isRest_33 rfl rfl ?_
    refine ro_cvP (pc := 34) (kc := 1) (avs := [.int a1, .int a2]) (st := [.int x4]) ok_Out_ones wd_1026 cl_42 cv_42 rfl ⟨by decide, by decide⟩ ⟨Nat.zero_le _, Nat.zero_le _⟩ (c_Out_ones X N h a1 a2) rfl rfl (Nat.le_of_ble_eq_true rfl) dX3_isRest_34 (fun x5 => ?_)
    refine ro_icmp_gt (tgt := 56) (pc := 37) dX3_isRest_37 (by decide) (fun _ => ?_) (fun _ => ?_)
    · skip
      refine ro_iconst (v := 0) (pc := 56) dX3_isRest_56 (by decide) ?_
      exact ro_zret (pc := 57) rfl rfl rfl dX3_isRest_57
    · skip
      refine ro_aload_n (pc := 40) 1 dX3_isRest_40 rfl rfl ?_
      refine ro_iload_n (pc := 41) 2 dX3_isRest_41 rfl rfl ?_
      refine ro_iload (pc := 42) 0 dX3_isRest_42 rfl ?_
      refine ro_cvP (pc := 44) (kc := 1) (avs := [.int a1, .int x3]) (st := []) ok_Out_others wd_1027 cl_42 cv_42 rfl ⟨by decide, by decide⟩ ⟨Nat.zero_le _, Nat.zero_le _⟩ (c_Out_others X N h a1 x3) rfl rfl (Nat.le_of_ble_eq_true rfl) dX3_isRest_44 (fun x6 => ?_)
      refine ro_aload_n (pc := 47) 1 dX3_isRest_47 rfl rfl ?_
      refine ro_iload_n (pc := 48) 2 dX3_isRest_48 rfl rfl ?_
      refine ro_iload_n (pc := 49) 3 dX3_isRest_49 rfl rfl ?_
      refine ro_cvP (pc := 50) (kc := 1) (avs := [.int a1, .int a2]) (st := [.int x6]) ok_Out_others wd_1027 cl_42 cv_42 rfl ⟨by decide, by decide⟩ ⟨Nat.zero_le _, Nat.zero_le _⟩ (c_Out_others X N h a1 a2) rfl rfl (Nat.le_of_ble_eq_true rfl) dX3_isRest_50 (fun x7 => ?_)
      refine ro_icmp_le (tgt := 58) (pc := 53) dX3_isRest_53 (by decide) (fun _ => ?_) (fun _ => ?_)
      · skip
        refine ro_iinc (pc := 58) (v := x2 + 1) (lv' := [(5, .int (x2 + 1)), (6, .int x3), (0, .ref (xa X 42)), (1, .int a1), (2, .int a2), (3, .ref (xs X 7)), (4, .int 3)]) 6 dX3_isRest_58 rfl rfl (by decide) rfl ?_
        refine ro_goto (tgt := 11) (pc := 61) dX3_isRest_61 (by decide) ?_
        refine ro_lv [2, 3, 4, 5, 6, 0] rfl ?_
        exact hrec1 (x2 + 1)
      · skip
        refine ro_iconst (v := 0) (pc := 56) dX3_isRest_56 (by decide) ?_
        exact ro_zret (pc := 57) rfl rfl rfl dX3_isRest_57
theorem c_Out_isRest (X : mu_X) (N : Nat) (h : mu_H) (a1 : Int32) (a2 : Int32) : ∀ r, f_Out_isRest N h a1 a2 = some r → mI X m_Out_isRest 2 [.ref (xa X 42), .int a1, .int a2] h r h := fun r hr => mI_of (by decide) rfl (Nat.le_of_ble_eq_true rfl) rfl (cb_Out_isRest X N h a1 a2 r hr)
set_option maxRecDepth 20000 in
theorem cb_Out_restAt (X : mu_X) (N : Nat) (h : mu_H) (a1 : Int32) : aG X m_Out_restAt (rmk 3) (fun _ => ax X) (fun _ _ _ => True) 0 0 (fun r : Int32 => qI X r h) (f_Out_restAt N h a1) 0 [(0, .ref (xa X 42)), (1, .int a1)] [] h := by
  unfold f_Out_restAt
  refine ro_iconst (v := 0) (pc := 0) dX3_restAt_0 (by decide) ?_
  refine ro_istore_n (pc := 1) (lv' := [(2, .int 0), (0, .ref (xa X 42)), (1, .int a1)]) dX3_restAt_1 rfl (by decide) rfl ?_
  refine ro_gets (kk := 7) (pc := 2) rfl wd_1020 dX3_restAt_2 ?_
  refine ro_astore_n (pc := 5) (lv' := [(3, .ref (xs X 7)), (2, .int 0), (0, .ref (xa X 42)), (1, .int a1)]) dX3_restAt_5 rfl (by decide) rfl ?_
  refine ro_aload_n (pc := 6) 0 dX3_restAt_6 rfl rfl ?_
  refine ro_tlen (kk := 7) (v := 3) (pc := 7) rfl rfl dX3_restAt_7 ?_
  refine ro_istore (pc := 8) (lv' := [(4, .int 3), (3, .ref (xs X 7)), (2, .int 0), (0, .ref (xa X 42)), (1, .int a1)]) dX3_restAt_8 (by decide) rfl ?_
  refine ro_iconst (v := 0) (pc := 10) dX3_restAt_10 (by decide) ?_
  refine ro_istore (pc := 11) (lv' := [(5, .int 0), (4, .int 3), (3, .ref (xs X 7)), (2, .int 0), (0, .ref (xa X 42)), (1, .int a1)]) dX3_restAt_11 (by decide) rfl ?_
  refine ro_jn (pcj := 69) (lvs := fun (s : Int32 × Int32) => [(6, .int s.1), (10, .int s.2)]) (hs := fun (s : Int32 × Int32) => h) (sts := fun (s : Int32 × Int32) => []) (fun s => ?_) (fun k1 hk1 => ?_)
  · obtain ⟨x2, x3⟩ := s; try dsimp only
    refine ro_bipush (v := 10) (pc := 69) dX3_restAt_69 (by decide) ?_
    refine ro_iload (pc := 71) 0 dX3_restAt_71 rfl ?_
    refine ro_imul (pc := 73) dX3_restAt_73 ?_
    refine ro_iload (pc := 74) 1 dX3_restAt_74 rfl ?_
    refine ro_iadd (pc := 76) dX3_restAt_76 ?_
    exact ro_iret (pc := 77) rfl rfl dX3_restAt_77
  · skip
    refine ro_jn (pcj := 93) (lvs := fun (s : Int32) => [(1, .int a1), (2, .int s)]) (hs := fun (s : Int32) => h) (sts := fun (s : Int32) => []) (fun x5 => ?_) (fun k4 hk4 => ?_)
    · try dsimp only
      refine ro_iload_n (pc := 93) 0 dX3_restAt_93 rfl rfl ?_
      refine ro_iconst (v := (-1)) (pc := 94) dX3_restAt_94 (by decide) ?_
      refine ro_icmp_ne (tgt := 102) (pc := 95) dX3_restAt_95 (by decide) (fun _ => ?_) (fun _ => ?_)
      · skip
        refine ro_iconst (v := (-1)) (pc := 102) dX3_restAt_102 (by decide) ?_
        exact ro_iret (pc := 103) rfl rfl dX3_restAt_103
      · skip
        refine ro_iload_n (pc := 98) 1 dX3_restAt_98 rfl rfl ?_
        refine ro_goto (tgt := 103) (pc := 99) dX3_restAt_99 (by decide) ?_
        exact ro_iret (pc := 103) rfl rfl dX3_restAt_103
    · skip
      refine ro_lv [4, 5, 3, 2, 1, 0] rfl ?_
      refine ro_lp (pc := 13) (lvs := fun (s : Int32 × Int32) => [(0, .ref (xa X 42)), (1, .int a1), (2, .int s.1), (3, .ref (xs X 7)), (4, .int 3), (5, .int s.2)]) (hs := fun (s : Int32 × Int32) => h) (fun rec6 hrec6 s => ?_) N (0, 0)
      obtain ⟨x7, x8⟩ := s; unfold f_Out_restAt_L13; try dsimp only
      refine ro_iload (pc := 13) 5 dX3_restAt_13 rfl ?_
      refine ro_iload (pc := 15) 4 dX3_restAt_15 rfl ?_
      refine ro_icmp_ge (tgt := 93) (pc := 17) dX3_restAt_17 (by decide) (fun _ => ?_) (fun _ => ?_)
      · skip
        refine ro_lv [1, 2] rfl ?_
        exact hk4 x7
      · skip
        refine ro_aload_n (pc := 20) 3 dX3_restAt_20 rfl rfl ?_
        refine ro_iload (pc := 21) 5 dX3_restAt_21 rfl ?_
        refine ti_7 (pc := 23) dX3_restAt_23 ?_
        refine ro_bn (fun x9 => ?_)
        refine ro_istore (pc := 24) (lv' := [(6, .int x9), (0, .ref (xa X 42)), (1, .int a1), (2, .int x7), (3, .ref (xs X 7)), (4, .int 3), (5, .int x8)]) dX3_restAt_24 (by decide) rfl ?_
        refine ro_gets (kk := 7) (pc := 26) rfl wd_1020 dX3_restAt_26 ?_
        refine ro_astore (pc := 29) (lv' := [(7, .ref (xs X 7)), (6, .int x9), (0, .ref (xa X 42)), (1, .int a1), (2, .int x7), (3, .ref (xs X 7)), (4, .int 3), (5, .int x8)]) dX3_restAt_29 (by decide) rfl ?_
        refine ro_aload (pc := 31) 0 dX3_restAt_31 rfl ?_
        refine ro_tlen (kk := 7) (v := 3) (pc := 33) rfl rfl dX3_restAt_33 ?_
        refine ro_istore (pc := 34) (lv' := [(8, .int 3), (7, .ref (xs X 7)), (6, .int x9), (0, .ref (xa X 42)), (1, .int a1), (2, .int x7), (3, .ref (xs X 7)), (4, .int 3), (5, .int x8)]) dX3_restAt_34 (by decide) rfl ?_
        refine ro_iconst (v := 0) (pc := 36) dX3_restAt_36 (by decide) ?_
        refine ro_istore (pc := 37) (lv' := [(9, .int 0), (8, .int 3), (7, .ref (xs X 7)), (6, .int x9), (0, .ref (xa X 42)), (1, .int a1), (2, .int x7), (3, .ref (xs X 7)), (4, .int 3), (5, .int x8)]) dX3_restAt_37 (by decide) rfl ?_
        refine ro_jn (pcj := 87) (lvs := fun (s : Int32) => [(0, .ref (xa X 42)), (1, .int a1), (2, .int s), (3, .ref (xs X 7)), (4, .int 3), (5, .int x8)]) (hs := fun (s : Int32) => h) (sts := fun (s : Int32) => []) (fun x11 => ?_) (fun k10 hk10 => ?_)
        · try dsimp only
          refine ro_iinc (pc := 87) (v := x8 + 1) (lv' := [(5, .int (x8 + 1)), (0, .ref (xa X 42)), (1, .int a1), (2, .int x11), (3, .ref (xs X 7)), (4, .int 3)]) 5 dX3_restAt_87 rfl rfl (by decide) rfl ?_
          refine ro_goto (tgt := 13) (pc := 90) dX3_restAt_90 (by decide) ?_
          refine ro_lv [1, 2, 3, 4, 5, 0] rfl ?_
          exact hrec6 (x11, x8 + 1)
        · skip
          refine ro_lv [4, 5, 6, 7, 8, 9, 3, 2, 1, 0] rfl ?_
          refine ro_lp (pc := 39) (lvs := fun (s : Int32 × Int32) => [(0, .ref (xa X 42)), (1, .int a1), (2, .int s.1), (3, .ref (xs X 7)), (4, .int 3), (5, .int x8), (6, .int x9), (7, .ref (xs X 7)), (8, .int 3), (9, .int s.2)]) (hs := fun (s : Int32 × Int32) => h) (fun rec12 hrec12 s => ?_) N (x7, 0)
          obtain ⟨x13, x14⟩ := s; unfold f_Out_restAt_L39; try dsimp only
          refine ro_iload (pc := 39) 9 dX3_restAt_39 rfl ?_
          refine ro_iload (pc := 41) 8 dX3_restAt_41 rfl ?_
          refine ro_icmp_ge (tgt := 87) (pc := 43) dX3_restAt_43 (by decide) (fun _ => ?_) (fun _ => ?_)
          · skip
            refine ro_lv [0, 1, 2, 3, 4, 5] rfl ?_
            exact hk10 x13
          · skip
            refine ro_aload (pc := 46) 7 dX3_restAt_46 rfl ?_
            refine ro_iload (pc := 48) 9 dX3_restAt_48 rfl ?_
            refine ti_7 (pc := 50) dX3_restAt_50 ?_
            refine ro_bn (fun x15 => ?_)
            refine ro_istore (pc := 51) (lv' := [(10, .int x15), (0, .ref (xa X 42)), (1, .int a1), (2, .int x13), (3, .ref (xs X 7)), (4, .int 3), (5, .int x8), (6, .int x9), (7, .ref (xs X 7)), (8, .int 3), (9, .int x14)]) dX3_restAt_51 (by decide) rfl ?_
            refine ro_aload_n (pc := 53) 1 dX3_restAt_53 rfl rfl ?_
            refine ro_iload (pc := 54) 7 dX3_restAt_54 rfl ?_
            refine ro_iload (pc := 56) 0 dX3_restAt_56 rfl ?_
            refine ro_cvP (pc := 58) (kc := 2) (avs := [.int x9, .int x15]) (st := []) ok_Out_isRest wd_1022 cl_42 cv_42 rfl ⟨by decide, by decide⟩ ⟨Nat.zero_le _, Nat.zero_le _⟩ (c_Out_isRest X N h x9 x15) rfl rfl (Nat.le_of_ble_eq_true rfl) dX3_restAt_58 (fun x16 => ?_)
            refine ro_jn (pcj := 81) (lvs := fun (s : Int32) => [(0, .ref (xa X 42)), (1, .int a1), (2, .int s), (3, .ref (xs X 7)), (4, .int 3), (5, .int x8), (6, .int x9), (7, .ref (xs X 7)), (8, .int 3), (9, .int x14)]) (hs := fun (s : Int32) => h) (sts := fun (s : Int32) => []) (fun x18 => ?_) (fun j17 hj17 => ?_)
            · try dsimp only
              refine ro_iinc (pc := 81) (v := x14 + 1) (lv' := [(9, .int (x14 + 1)), (0, .ref (xa X 42)), (1, .int a1), (2, .int x18), (3, .ref (xs X 7)), (4, .int 3), (5, .int x8), (6, .int x9), (7, .ref (xs X 7)), (8, .int 3)]) 9 dX3_restAt_81 rfl rfl (by decide) rfl ?_
              refine ro_goto (tgt := 39) (pc := 84) dX3_restAt_84 (by decide) ?_
              refine ro_lv [1, 2, 3, 4, 5, 6, 7, 8, 9, 0] rfl ?_
              exact hrec12 (x18, x14 + 1)
            · skip
              refine ro_if_eq (tgt := 81) (pc := 61) dX3_restAt_61 (by decide) (fun _ => ?_) (fun _ => ?_)
              · skip
                refine ro_lv [1, 2, 3, 4, 5, 6, 7, 8, 9, 10] rfl ?_
                exact hj17 x13
              · skip
                refine ro_iload_n (pc := 64) 3 dX3_restAt_64 rfl rfl ?_
                refine ro_iload_n (pc := 65) 2 dX3_restAt_65 rfl rfl ?_
                refine ro_icmp_ne (tgt := 78) (pc := 66) dX3_restAt_66 (by decide) (fun _ => ?_) (fun _ => ?_)
                · skip
                  refine ro_iinc (pc := 78) (v := x13 + 1) (lv' := [(2, .int (x13 + 1)), (10, .int x15), (0, .ref (xa X 42)), (1, .int a1), (3, .ref (xs X 7)), (4, .int 3), (5, .int x8), (6, .int x9), (7, .ref (xs X 7)), (8, .int 3), (9, .int x14)]) 3 dX3_restAt_78 rfl rfl (by decide) rfl ?_
                  refine ro_lv [2, 3, 0, 4, 5, 6, 7, 8, 9, 10] rfl ?_
                  exact hj17 (x13 + 1)
                · skip
                  refine ro_lv [7, 0] rfl ?_
                  exact hk1 (x9, x15)
theorem c_Out_restAt (X : mu_X) (N : Nat) (h : mu_H) (a1 : Int32) : ∀ r, f_Out_restAt N h a1 = some r → mI X m_Out_restAt 3 [.ref (xa X 42), .int a1] h r h := fun r hr => mI_of (by decide) rfl (Nat.le_of_ble_eq_true rfl) rfl (cb_Out_restAt X N h a1 r hr)
set_option maxRecDepth 20000 in
theorem cb_Out_setUpGame (X : mu_X) (N : Nat) (h : mu_H) (a1 : Int32) (a2 : Int32) (a3 : Int32) : aG X m_Out_setUpGame (rmk 7) (fun _ => ax X) (fun _ _ _ => True) 0 0 (fun r : mu_H => qV X r) (f_Out_setUpGame N h a1 a2 a3) 0 [(0, .ref (xa X 42)), (1, .int a1), (2, .int a2), (3, .int a3)] [] h := by
  unfold f_Out_setUpGame
  refine ro_iconst (v := 0) (pc := 0) dX3_setUpGame_0 (by decide) ?_
  refine ro_istore (pc := 1) (lv' := [(4, .int 0), (0, .ref (xa X 42)), (1, .int a1), (2, .int a2), (3, .int a3)]) dX3_setUpGame_1 (by decide) rfl ?_
  refine ro_lv [1, 2, 3, 4, 0] rfl ?_
  refine ro_lp (pc := 3) (lvs := fun (s : Int32 × mu_H) => [(0, .ref (xa X 42)), (1, .int a1), (2, .int a2), (3, .int a3), (4, .int s.1)]) (hs := fun (s : Int32 × mu_H) => s.2) (fun rec1 hrec1 s => ?_) N (0, h)
  obtain ⟨x2, h3⟩ := s; unfold f_Out_setUpGame_L3; try dsimp only
  refine ro_iload (pc := 3) 4 dX3_setUpGame_3 rfl ?_
  refine ro_iconst (v := 4) (pc := 5) dX3_setUpGame_5 (by decide) ?_
  refine ro_icmp_ge (tgt := 51) (pc := 6) dX3_setUpGame_6 (by decide) (fun _ => ?_) (fun _ => ?_)
  · skip
    exact ro_vret (pc := 51) rfl rfl dX3_setUpGame_51
  · skip
    refine ro_aload_n (pc := 9) 0 dX3_setUpGame_9 rfl rfl ?_
    refine gf_X3_8 (pc := 10) wd_321 dX3_setUpGame_10 ?_
    refine ro_iload (pc := 13) 4 dX3_setUpGame_13 rfl ?_
    refine ro_aload_n (pc := 15) 0 dX3_setUpGame_15 rfl rfl ?_
    refine gf_X3_2 (pc := 16) wd_315 dX3_setUpGame_16 ?_
    refine ro_iload_n (pc := 19) 1 dX3_setUpGame_19 rfl rfl ?_
    refine ro_iload_n (pc := 20) 3 dX3_setUpGame_20 rfl rfl ?_
    refine ro_iload (pc := 21) 4 dX3_setUpGame_21 rfl ?_
    refine ro_cvI (pc := 23) (kc := 6) (avs := [.int a1, .int a3, .int x2]) (st := [.int x2, .ref (xa X 48)]) ok_Lab_effectNow wd_1001 cl_22 cv_22 rfl ⟨by decide, by decide⟩ ⟨Nat.zero_le _, Nat.zero_le _⟩ (c_Lab_effectNow X N h3 a1 a3 x2) rfl rfl (Nat.le_of_ble_eq_true rfl) dX3_setUpGame_23 (fun x4 h5 => ?_)
    refine ro_iast (pc := 26) (n := 4) cl_48 cv_48 dX3_setUpGame_26 ?_
    refine ro_bnh (fun h7 => ?_)
    refine ro_aload_n (pc := 27) 0 dX3_setUpGame_27 rfl rfl ?_
    refine gf_X3_9 (pc := 28) wd_322 dX3_setUpGame_28 ?_
    refine ro_iload (pc := 31) 4 dX3_setUpGame_31 rfl ?_
    refine ro_aload_n (pc := 33) 0 dX3_setUpGame_33 rfl rfl ?_
    refine gf_X3_2 (pc := 34) wd_315 dX3_setUpGame_34 ?_
    refine ro_iload_n (pc := 37) 2 dX3_setUpGame_37 rfl rfl ?_
    refine ro_iload_n (pc := 38) 3 dX3_setUpGame_38 rfl rfl ?_
    refine ro_iload (pc := 39) 4 dX3_setUpGame_39 rfl ?_
    refine ro_cvI (pc := 41) (kc := 6) (avs := [.int a2, .int a3, .int x2]) (st := [.int x2, .ref (xa X 49)]) ok_Lab_effectNow wd_1001 cl_22 cv_22 rfl ⟨by decide, by decide⟩ ⟨Nat.zero_le _, Nat.zero_le _⟩ (c_Lab_effectNow X N h7 a2 a3 x2) rfl rfl (Nat.le_of_ble_eq_true rfl) dX3_setUpGame_41 (fun x8 h9 => ?_)
    refine ro_iast (pc := 44) (n := 4) cl_49 cv_49 dX3_setUpGame_44 ?_
    refine ro_bnh (fun h11 => ?_)
    refine ro_iinc (pc := 45) (v := x2 + 1) (lv' := [(4, .int (x2 + 1)), (0, .ref (xa X 42)), (1, .int a1), (2, .int a2), (3, .int a3)]) 4 dX3_setUpGame_45 rfl rfl (by decide) rfl ?_
    refine ro_goto (tgt := 3) (pc := 48) dX3_setUpGame_48 (by decide) ?_
    refine ro_lv [1, 2, 3, 4, 0] rfl ?_
    exact hrec1 (x2 + 1, h11)
theorem c_Out_setUpGame (X : mu_X) (N : Nat) (h : mu_H) (a1 : Int32) (a2 : Int32) (a3 : Int32) : ∀ r, f_Out_setUpGame N h a1 a2 a3 = some r → mV X m_Out_setUpGame 7 [.ref (xa X 42), .int a1, .int a2, .int a3] h r := fun r hr => mV_of (by decide) rfl (Nat.le_of_ble_eq_true rfl) rfl (cb_Out_setUpGame X N h a1 a2 a3 r hr)
set_option maxRecDepth 20000 in
theorem cb_Roa_reachedWithout (X : mu_X) (N : Nat) (h : mu_H) (a1 : Int32) : aG X m_Roa_reachedWithout (rmk 2) (fun _ => ax X) (fun _ _ _ => True) 0 0 (fun r : Int32 => qI X r h) (f_Roa_reachedWithout N h a1) 0 [(0, .ref (xa X 37)), (1, .int a1)] [] h := by
  unfold f_Roa_reachedWithout
  refine ro_iconst (v := 1) (pc := 0) dX7_reachedWithout_0 (by decide) ?_
  refine ro_istore_n (pc := 1) (lv' := [(2, .int 1), (0, .ref (xa X 37)), (1, .int a1)]) dX7_reachedWithout_1 rfl (by decide) rfl ?_
  refine ro_iconst (v := 1) (pc := 2) dX7_reachedWithout_2 (by decide) ?_
  refine ro_istore_n (pc := 3) (lv' := [(3, .int 1), (2, .int 1), (0, .ref (xa X 37)), (1, .int a1)]) dX7_reachedWithout_3 rfl (by decide) rfl ?_
  refine ro_lv [2, 3, 1, 0] rfl ?_
  refine ro_lp (pc := 4) (lvs := fun (s : Int32 × Int32) => [(0, .ref (xa X 37)), (1, .int a1), (2, .int s.1), (3, .int s.2)]) (hs := fun (s : Int32 × Int32) => h) (fun rec1 hrec1 s => ?_) N (1, 1)
  obtain ⟨x2, x3⟩ := s; unfold f_Roa_reachedWithout_L4; try dsimp only
  refine ro_iload_n (pc := 4) 3 dX7_reachedWithout_4 rfl rfl ?_
  refine ro_bipush (v := 8) (pc := 5) dX7_reachedWithout_5 (by decide) ?_
  refine ro_icmp_ge (tgt := 82) (pc := 7) dX7_reachedWithout_7 (by decide) (fun _ => ?_) (fun _ => ?_)
  · skip
    refine ro_iload_n (pc := 82) 2 dX7_reachedWithout_82 rfl rfl ?_
    exact ro_iret (pc := 83) rfl rfl dX7_reachedWithout_83
  · skip
    refine ro_iconst (v := 0) (pc := 10) dX7_reachedWithout_10 (by decide) ?_
    refine ro_istore (pc := 11) (lv' := [(4, .int 0), (0, .ref (xa X 37)), (1, .int a1), (2, .int x2), (3, .int x3)]) dX7_reachedWithout_11 (by decide) rfl ?_
    refine ro_jn (pcj := 76) (lvs := fun (s : Int32) => [(0, .ref (xa X 37)), (1, .int a1), (2, .int s), (3, .int x3)]) (hs := fun (s : Int32) => h) (sts := fun (s : Int32) => []) (fun x5 => ?_) (fun k4 hk4 => ?_)
    · try dsimp only
      refine ro_iinc (pc := 76) (v := x3 + 1) (lv' := [(3, .int (x3 + 1)), (0, .ref (xa X 37)), (1, .int a1), (2, .int x5)]) 3 dX7_reachedWithout_76 rfl rfl (by decide) rfl ?_
      refine ro_goto (tgt := 4) (pc := 79) dX7_reachedWithout_79 (by decide) ?_
      refine ro_lv [1, 2, 3, 0] rfl ?_
      exact hrec1 (x5, x3 + 1)
    · skip
      refine ro_lv [1, 2, 3, 4, 0] rfl ?_
      refine ro_lp (pc := 13) (lvs := fun (s : Int32 × Int32) => [(0, .ref (xa X 37)), (1, .int a1), (2, .int s.1), (3, .int x3), (4, .int s.2)]) (hs := fun (s : Int32 × Int32) => h) (fun rec6 hrec6 s => ?_) N (x2, 0)
      obtain ⟨x7, x8⟩ := s; unfold f_Roa_reachedWithout_L13; try dsimp only
      refine ro_iload (pc := 13) 4 dX7_reachedWithout_13 rfl ?_
      refine ro_aload_n (pc := 15) 0 dX7_reachedWithout_15 rfl rfl ?_
      refine gf_X7_0 (pc := 16) wd_277 dX7_reachedWithout_16 ?_
      refine ro_cvP (pc := 19) (kc := 1) (avs := []) (st := [.int x8]) ok_Par_stretches wd_943 cl_3 cv_3 rfl ⟨by decide, by decide⟩ ⟨Nat.zero_le _, Nat.zero_le _⟩ (c_Par_stretches X N h 3 isP_i3) rfl rfl (Nat.le_of_ble_eq_true rfl) dX7_reachedWithout_19 (fun x9 => ?_)
      refine ro_icmp_ge (tgt := 76) (pc := 22) dX7_reachedWithout_22 (by decide) (fun _ => ?_) (fun _ => ?_)
      · skip
        refine ro_lv [0, 1, 2, 3] rfl ?_
        exact hk4 x7
      · skip
        refine ro_iconst (v := 1) (pc := 25) dX7_reachedWithout_25 (by decide) ?_
        refine ro_aload_n (pc := 26) 0 dX7_reachedWithout_26 rfl rfl ?_
        refine gf_X7_0 (pc := 27) wd_277 dX7_reachedWithout_27 ?_
        refine ro_iload (pc := 30) 4 dX7_reachedWithout_30 rfl ?_
        refine ro_iconst (v := 0) (pc := 32) dX7_reachedWithout_32 (by decide) ?_
        refine ro_cvP (pc := 33) (kc := 1) (avs := [.int x8, .int 0]) (st := [.int 1]) ok_Par_ofStretch wd_945 cl_3 cv_3 rfl ⟨by decide, by decide⟩ ⟨Nat.zero_le _, Nat.zero_le _⟩ (c_Par_ofStretch X N h 3 isP_i3 x8 0) rfl rfl (Nat.le_of_ble_eq_true rfl) dX7_reachedWithout_33 (fun x10 => ?_)
        refine ro_ishl (pc := 36) dX7_reachedWithout_36 ?_
        refine ro_iconst (v := 1) (pc := 37) dX7_reachedWithout_37 (by decide) ?_
        refine ro_aload_n (pc := 38) 0 dX7_reachedWithout_38 rfl rfl ?_
        refine gf_X7_0 (pc := 39) wd_277 dX7_reachedWithout_39 ?_
        refine ro_iload (pc := 42) 4 dX7_reachedWithout_42 rfl ?_
        refine ro_iconst (v := 1) (pc := 44) dX7_reachedWithout_44 (by decide) ?_
        refine ro_cvP (pc := 45) (kc := 1) (avs := [.int x8, .int 1]) (st := [.int 1, .int ((1 : Int32) <<< (x10 &&& 31))]) ok_Par_ofStretch wd_945 cl_3 cv_3 rfl ⟨by decide, by decide⟩ ⟨Nat.zero_le _, Nat.zero_le _⟩ (c_Par_ofStretch X N h 3 isP_i3 x8 1) rfl rfl (Nat.le_of_ble_eq_true rfl) dX7_reachedWithout_45 (fun x11 => ?_)
        refine ro_ishl (pc := 48) dX7_reachedWithout_48 ?_
        refine ro_ior (pc := 49) dX7_reachedWithout_49 ?_
        refine ro_bn (fun x12 => ?_)
        refine ro_istore (pc := 50) (lv' := [(5, .int x12), (0, .ref (xa X 37)), (1, .int a1), (2, .int x7), (3, .int x3), (4, .int x8)]) dX7_reachedWithout_50 (by decide) rfl ?_
        refine ro_iload (pc := 52) 5 dX7_reachedWithout_52 rfl ?_
        refine ro_iload_n (pc := 54) 2 dX7_reachedWithout_54 rfl rfl ?_
        refine ro_jn (pcj := 70) (lvs := fun (s : Int32) => [(0, .ref (xa X 37)), (1, .int a1), (2, .int s), (3, .int x3), (4, .int x8)]) (hs := fun (s : Int32) => h) (sts := fun (s : Int32) => []) (fun x14 => ?_) (fun j13 hj13 => ?_)
        · try dsimp only
          refine ro_iinc (pc := 70) (v := x8 + 1) (lv' := [(4, .int (x8 + 1)), (0, .ref (xa X 37)), (1, .int a1), (2, .int x14), (3, .int x3)]) 4 dX7_reachedWithout_70 rfl rfl (by decide) rfl ?_
          refine ro_goto (tgt := 13) (pc := 73) dX7_reachedWithout_73 (by decide) ?_
          refine ro_lv [1, 2, 3, 4, 0] rfl ?_
          exact hrec6 (x14, x8 + 1)
        · skip
          refine ro_icmp_eq (tgt := 70) (pc := 55) dX7_reachedWithout_55 (by decide) (fun _ => ?_) (fun _ => ?_)
          · skip
            refine ro_lv [1, 2, 3, 4, 5] rfl ?_
            exact hj13 x7
          · skip
            refine ro_iload_n (pc := 58) 3 dX7_reachedWithout_58 rfl rfl ?_
            refine ro_iload (pc := 59) 0 dX7_reachedWithout_59 rfl ?_
            refine ro_iand (pc := 61) dX7_reachedWithout_61 ?_
            refine ro_if_eq (tgt := 70) (pc := 62) dX7_reachedWithout_62 (by decide) (fun _ => ?_) (fun _ => ?_)
            · skip
              refine ro_lv [1, 2, 3, 4, 5] rfl ?_
              exact hj13 x7
            · skip
              refine ro_iload_n (pc := 65) 3 dX7_reachedWithout_65 rfl rfl ?_
              refine ro_iload (pc := 66) 0 dX7_reachedWithout_66 rfl ?_
              refine ro_ior (pc := 68) dX7_reachedWithout_68 ?_
              refine ro_bn (fun x15 => ?_)
              refine ro_istore_n (pc := 69) (lv' := [(2, .int x15), (5, .int x12), (0, .ref (xa X 37)), (1, .int a1), (3, .int x3), (4, .int x8)]) dX7_reachedWithout_69 rfl (by decide) rfl ?_
              refine ro_lv [2, 3, 0, 4, 5] rfl ?_
              exact hj13 x15
theorem c_Roa_reachedWithout (X : mu_X) (N : Nat) (h : mu_H) (a1 : Int32) : ∀ r, f_Roa_reachedWithout N h a1 = some r → mI X m_Roa_reachedWithout 2 [.ref (xa X 37), .int a1] h r h := fun r hr => mI_of (by decide) rfl (Nat.le_of_ble_eq_true rfl) rfl (cb_Roa_reachedWithout X N h a1 r hr)
set_option maxRecDepth 20000 in
theorem cb_Roa_bridges (X : mu_X) (N : Nat) (h : mu_H) : aG X m_Roa_bridges (rmk 3) (fun _ => ax X) (fun _ _ _ => True) 0 0 (fun r : Int32 => qI X r h) (f_Roa_bridges N h) 0 [(0, .ref (xa X 37))] [] h := by
  unfold f_Roa_bridges
  refine ro_aload_n (pc := 0) 0 dX7_bridges_0 rfl rfl ?_
  refine ro_iconst (v := (-1)) (pc := 1) dX7_bridges_1 (by decide) ?_
  refine ro_cvP (pc := 2) (kc := 2) (avs := [.int (-1)]) (st := []) ok_Roa_reachedWithout wd_1189 cl_37 cv_37 rfl ⟨by decide, by decide⟩ ⟨Nat.zero_le _, Nat.zero_le _⟩ (c_Roa_reachedWithout X N h (-1)) rfl rfl (Nat.le_of_ble_eq_true rfl) dX7_bridges_2 (fun x1 => ?_)
  refine ro_istore_n (pc := 5) (lv' := [(1, .int x1), (0, .ref (xa X 37))]) dX7_bridges_5 rfl (by decide) rfl ?_
  refine ro_iconst (v := 0) (pc := 6) dX7_bridges_6 (by decide) ?_
  refine ro_istore_n (pc := 7) (lv' := [(2, .int 0), (1, .int x1), (0, .ref (xa X 37))]) dX7_bridges_7 rfl (by decide) rfl ?_
  refine ro_iconst (v := 0) (pc := 8) dX7_bridges_8 (by decide) ?_
  refine ro_istore_n (pc := 9) (lv' := [(3, .int 0), (2, .int 0), (1, .int x1), (0, .ref (xa X 37))]) dX7_bridges_9 rfl (by decide) rfl ?_
  refine ro_lv [3, 2, 1, 0] rfl ?_
  refine ro_lp (pc := 10) (lvs := fun (s : Int32 × Int32) => [(0, .ref (xa X 37)), (1, .int x1), (2, .int s.1), (3, .int s.2)]) (hs := fun (s : Int32 × Int32) => h) (fun rec2 hrec2 s => ?_) N (0, 0)
  obtain ⟨x3, x4⟩ := s; unfold f_Roa_bridges_L10; try dsimp only
  refine ro_iload_n (pc := 10) 3 dX7_bridges_10 rfl rfl ?_
  refine ro_aload_n (pc := 11) 0 dX7_bridges_11 rfl rfl ?_
  refine gf_X7_0 (pc := 12) wd_277 dX7_bridges_12 ?_
  refine ro_cvP (pc := 15) (kc := 1) (avs := []) (st := [.int x4]) ok_Par_stretches wd_943 cl_3 cv_3 rfl ⟨by decide, by decide⟩ ⟨Nat.zero_le _, Nat.zero_le _⟩ (c_Par_stretches X N h 3 isP_i3) rfl rfl (Nat.le_of_ble_eq_true rfl) dX7_bridges_15 (fun x5 => ?_)
  refine ro_icmp_ge (tgt := 42) (pc := 18) dX7_bridges_18 (by decide) (fun _ => ?_) (fun _ => ?_)
  · skip
    refine ro_iload_n (pc := 42) 2 dX7_bridges_42 rfl rfl ?_
    exact ro_iret (pc := 43) rfl rfl dX7_bridges_43
  · skip
    refine ro_aload_n (pc := 21) 0 dX7_bridges_21 rfl rfl ?_
    refine ro_iload_n (pc := 22) 3 dX7_bridges_22 rfl rfl ?_
    refine ro_cvP (pc := 23) (kc := 2) (avs := [.int x4]) (st := []) ok_Roa_reachedWithout wd_1189 cl_37 cv_37 rfl ⟨by decide, by decide⟩ ⟨Nat.zero_le _, Nat.zero_le _⟩ (c_Roa_reachedWithout X N h x4) rfl rfl (Nat.le_of_ble_eq_true rfl) dX7_bridges_23 (fun x6 => ?_)
    refine ro_iload_n (pc := 26) 1 dX7_bridges_26 rfl rfl ?_
    refine ro_jn (pcj := 36) (lvs := fun (s : Int32) => [(0, .ref (xa X 37)), (1, .int x1), (2, .int s), (3, .int x4)]) (hs := fun (s : Int32) => h) (sts := fun (s : Int32) => []) (fun x8 => ?_) (fun j7 hj7 => ?_)
    · try dsimp only
      refine ro_iinc (pc := 36) (v := x4 + 1) (lv' := [(3, .int (x4 + 1)), (0, .ref (xa X 37)), (1, .int x1), (2, .int x8)]) 3 dX7_bridges_36 rfl rfl (by decide) rfl ?_
      refine ro_goto (tgt := 10) (pc := 39) dX7_bridges_39 (by decide) ?_
      refine ro_lv [1, 2, 3, 0] rfl ?_
      exact hrec2 (x8, x4 + 1)
    · skip
      refine ro_icmp_eq (tgt := 36) (pc := 27) dX7_bridges_27 (by decide) (fun _ => ?_) (fun _ => ?_)
      · skip
        exact hj7 x3
      · skip
        refine ro_iload_n (pc := 30) 2 dX7_bridges_30 rfl rfl ?_
        refine ro_iconst (v := 1) (pc := 31) dX7_bridges_31 (by decide) ?_
        refine ro_iload_n (pc := 32) 3 dX7_bridges_32 rfl rfl ?_
        refine ro_ishl (pc := 33) dX7_bridges_33 ?_
        refine ro_ior (pc := 34) dX7_bridges_34 ?_
        refine ro_bn (fun x9 => ?_)
        refine ro_istore_n (pc := 35) (lv' := [(2, .int x9), (0, .ref (xa X 37)), (1, .int x1), (3, .int x4)]) dX7_bridges_35 rfl (by decide) rfl ?_
        refine ro_lv [1, 2, 0, 3] rfl ?_
        exact hj7 x9
theorem c_Roa_bridges (X : mu_X) (N : Nat) (h : mu_H) : ∀ r, f_Roa_bridges N h = some r → mI X m_Roa_bridges 3 [.ref (xa X 37)] h r h := fun r hr => mI_of (by decide) rfl (Nat.le_of_ble_eq_true rfl) rfl (cb_Roa_bridges X N h r hr)
set_option maxRecDepth 20000 in
theorem cb_Roa_deadEnds (X : mu_X) (N : Nat) (h : mu_H) : aG X m_Roa_deadEnds (rmk 3) (fun _ => ax X) (fun _ _ _ => True) 0 0 (fun r : Int32 => qI X r h) (f_Roa_deadEnds N h) 0 [(0, .ref (xa X 37))] [] h := by
  unfold f_Roa_deadEnds
  refine ro_iconst (v := 0) (pc := 0) dX7_deadEnds_0 (by decide) ?_
  refine ro_istore_n (pc := 1) (lv' := [(1, .int 0), (0, .ref (xa X 37))]) dX7_deadEnds_1 rfl (by decide) rfl ?_
  refine ro_iconst (v := 0) (pc := 2) dX7_deadEnds_2 (by decide) ?_
  refine ro_istore_n (pc := 3) (lv' := [(2, .int 0), (1, .int 0), (0, .ref (xa X 37))]) dX7_deadEnds_3 rfl (by decide) rfl ?_
  refine ro_lv [2, 1, 0] rfl ?_
  refine ro_lp (pc := 4) (lvs := fun (s : Int32 × Int32) => [(0, .ref (xa X 37)), (1, .int s.1), (2, .int s.2)]) (hs := fun (s : Int32 × Int32) => h) (fun rec1 hrec1 s => ?_) N (0, 0)
  obtain ⟨x2, x3⟩ := s; unfold f_Roa_deadEnds_L4; try dsimp only
  refine ro_iload_n (pc := 4) 2 dX7_deadEnds_4 rfl rfl ?_
  refine ro_bipush (v := 8) (pc := 5) dX7_deadEnds_5 (by decide) ?_
  refine ro_icmp_ge (tgt := 66) (pc := 7) dX7_deadEnds_7 (by decide) (fun _ => ?_) (fun _ => ?_)
  · skip
    refine ro_iload_n (pc := 66) 1 dX7_deadEnds_66 rfl rfl ?_
    exact ro_iret (pc := 67) rfl rfl dX7_deadEnds_67
  · skip
    refine ro_iconst (v := 0) (pc := 10) dX7_deadEnds_10 (by decide) ?_
    refine ro_istore_n (pc := 11) (lv' := [(3, .int 0), (0, .ref (xa X 37)), (1, .int x2), (2, .int x3)]) dX7_deadEnds_11 rfl (by decide) rfl ?_
    refine ro_iconst (v := 0) (pc := 12) dX7_deadEnds_12 (by decide) ?_
    refine ro_istore (pc := 13) (lv' := [(4, .int 0), (3, .int 0), (0, .ref (xa X 37)), (1, .int x2), (2, .int x3)]) dX7_deadEnds_13 (by decide) rfl ?_
    refine ro_jn (pcj := 49) (lvs := fun (s : Int32) => [(0, .ref (xa X 37)), (1, .int x2), (2, .int x3), (3, .int s)]) (hs := fun (s : Int32) => h) (sts := fun (s : Int32) => []) (fun x5 => ?_) (fun k4 hk4 => ?_)
    · try dsimp only
      refine ro_iload_n (pc := 49) 3 dX7_deadEnds_49 rfl rfl ?_
      refine ro_iconst (v := 1) (pc := 50) dX7_deadEnds_50 (by decide) ?_
      refine ro_jn (pcj := 60) (lvs := fun (s : Int32) => [(0, .ref (xa X 37)), (1, .int s), (2, .int x3)]) (hs := fun (s : Int32) => h) (sts := fun (s : Int32) => []) (fun x7 => ?_) (fun j6 hj6 => ?_)
      · try dsimp only
        refine ro_iinc (pc := 60) (v := x3 + 1) (lv' := [(2, .int (x3 + 1)), (0, .ref (xa X 37)), (1, .int x7)]) 2 dX7_deadEnds_60 rfl rfl (by decide) rfl ?_
        refine ro_goto (tgt := 4) (pc := 63) dX7_deadEnds_63 (by decide) ?_
        refine ro_lv [1, 2, 0] rfl ?_
        exact hrec1 (x7, x3 + 1)
      · skip
        refine ro_icmp_ne (tgt := 60) (pc := 51) dX7_deadEnds_51 (by decide) (fun _ => ?_) (fun _ => ?_)
        · skip
          refine ro_lv [0, 1, 2] rfl ?_
          exact hj6 x2
        · skip
          refine ro_iload_n (pc := 54) 1 dX7_deadEnds_54 rfl rfl ?_
          refine ro_iconst (v := 1) (pc := 55) dX7_deadEnds_55 (by decide) ?_
          refine ro_iload_n (pc := 56) 2 dX7_deadEnds_56 rfl rfl ?_
          refine ro_ishl (pc := 57) dX7_deadEnds_57 ?_
          refine ro_ior (pc := 58) dX7_deadEnds_58 ?_
          refine ro_bn (fun x8 => ?_)
          refine ro_istore_n (pc := 59) (lv' := [(1, .int x8), (0, .ref (xa X 37)), (2, .int x3), (3, .int x5)]) dX7_deadEnds_59 rfl (by decide) rfl ?_
          refine ro_lv [1, 0, 2] rfl ?_
          exact hj6 x8
    · skip
      refine ro_lv [2, 3, 4, 1, 0] rfl ?_
      refine ro_lp (pc := 15) (lvs := fun (s : Int32 × Int32) => [(0, .ref (xa X 37)), (1, .int x2), (2, .int x3), (3, .int s.1), (4, .int s.2)]) (hs := fun (s : Int32 × Int32) => h) (fun rec9 hrec9 s => ?_) N (0, 0)
      obtain ⟨x10, x11⟩ := s; unfold f_Roa_deadEnds_L15; try dsimp only
      refine ro_iload (pc := 15) 4 dX7_deadEnds_15 rfl ?_
      refine ro_aload_n (pc := 17) 0 dX7_deadEnds_17 rfl rfl ?_
      refine gf_X7_0 (pc := 18) wd_277 dX7_deadEnds_18 ?_
      refine ro_cvP (pc := 21) (kc := 1) (avs := []) (st := [.int x11]) ok_Par_stretches wd_943 cl_3 cv_3 rfl ⟨by decide, by decide⟩ ⟨Nat.zero_le _, Nat.zero_le _⟩ (c_Par_stretches X N h 3 isP_i3) rfl rfl (Nat.le_of_ble_eq_true rfl) dX7_deadEnds_21 (fun x12 => ?_)
      refine ro_icmp_ge (tgt := 49) (pc := 24) dX7_deadEnds_24 (by decide) (fun _ => ?_) (fun _ => ?_)
      · skip
        refine ro_lv [0, 1, 2, 3] rfl ?_
        exact hk4 x10
      · skip
        refine ro_aload_n (pc := 27) 0 dX7_deadEnds_27 rfl rfl ?_
        refine gf_X7_0 (pc := 28) wd_277 dX7_deadEnds_28 ?_
        refine ro_iload (pc := 31) 4 dX7_deadEnds_31 rfl ?_
        refine ro_iload_n (pc := 33) 2 dX7_deadEnds_33 rfl rfl ?_
        refine ro_cvP (pc := 34) (kc := 2) (avs := [.int x11, .int x3]) (st := []) ok_Par_touches wd_1180 cl_3 cv_3 rfl ⟨by decide, by decide⟩ ⟨Nat.zero_le _, Nat.zero_le _⟩ (c_Par_touches X N h 3 isP_i3 x11 x3) rfl rfl (Nat.le_of_ble_eq_true rfl) dX7_deadEnds_34 (fun x13 => ?_)
        refine ro_jn (pcj := 43) (lvs := fun (s : Int32) => [(0, .ref (xa X 37)), (1, .int x2), (2, .int x3), (3, .int s), (4, .int x11)]) (hs := fun (s : Int32) => h) (sts := fun (s : Int32) => []) (fun x15 => ?_) (fun j14 hj14 => ?_)
        · try dsimp only
          refine ro_iinc (pc := 43) (v := x11 + 1) (lv' := [(4, .int (x11 + 1)), (0, .ref (xa X 37)), (1, .int x2), (2, .int x3), (3, .int x15)]) 4 dX7_deadEnds_43 rfl rfl (by decide) rfl ?_
          refine ro_goto (tgt := 15) (pc := 46) dX7_deadEnds_46 (by decide) ?_
          refine ro_lv [1, 2, 3, 4, 0] rfl ?_
          exact hrec9 (x15, x11 + 1)
        · skip
          refine ro_if_eq (tgt := 43) (pc := 37) dX7_deadEnds_37 (by decide) (fun _ => ?_) (fun _ => ?_)
          · skip
            exact hj14 x10
          · skip
            refine ro_iinc (pc := 40) (v := x10 + 1) (lv' := [(3, .int (x10 + 1)), (0, .ref (xa X 37)), (1, .int x2), (2, .int x3), (4, .int x11)]) 3 dX7_deadEnds_40 rfl rfl (by decide) rfl ?_
            refine ro_lv [1, 2, 3, 0, 4] rfl ?_
            exact hj14 (x10 + 1)
theorem c_Roa_deadEnds (X : mu_X) (N : Nat) (h : mu_H) : ∀ r, f_Roa_deadEnds N h = some r → mI X m_Roa_deadEnds 3 [.ref (xa X 37)] h r h := fun r hr => mI_of (by decide) rfl (Nat.le_of_ble_eq_true rfl) rfl (cb_Roa_deadEnds X N h r hr)
set_option maxRecDepth 20000 in
theorem cb_Roa_reaches (X : mu_X) (N : Nat) (h : mu_H) (a1 : Int32) : aG X m_Roa_reaches (rmk 1) (fun _ => ax X) (fun _ _ _ => True) 0 0 (fun r : Int32 => qI X r h) (f_Roa_reaches N h a1) 0 [(0, .ref (xa X 37)), (1, .int a1)] [] h := by
  unfold f_Roa_reaches
  refine ro_aload_n (pc := 0) 0 dX7_reaches_0 rfl rfl ?_
  refine gf_X7_2 (pc := 1) wd_279 dX7_reaches_1 ?_
  refine ro_iload_n (pc := 4) 1 dX7_reaches_4 rfl rfl ?_
  refine ro_iald (pc := 5) (n := 8) cl_38 cv_38 dX7_reaches_5 ?_
  refine ro_ldc (v := 1000000000) (pc := 6) dX7_reaches_6 wd_941 ?_
  refine ro_icmp_ge (tgt := 15) (pc := 8) dX7_reaches_8 (by decide) (fun _ => ?_) (fun _ => ?_)
  · skip
    refine ro_iconst (v := 0) (pc := 15) dX7_reaches_15 (by decide) ?_
    exact ro_zret (pc := 16) rfl rfl rfl dX7_reaches_16
  · skip
    refine ro_iconst (v := 1) (pc := 11) dX7_reaches_11 (by decide) ?_
    refine ro_goto (tgt := 16) (pc := 12) dX7_reaches_12 (by decide) ?_
    exact ro_zret (pc := 16) rfl rfl rfl dX7_reaches_16
theorem c_Roa_reaches (X : mu_X) (N : Nat) (h : mu_H) (a1 : Int32) : ∀ r, f_Roa_reaches N h a1 = some r → mI X m_Roa_reaches 1 [.ref (xa X 37), .int a1] h r h := fun r hr => mI_of (by decide) rfl (Nat.le_of_ble_eq_true rfl) rfl (cb_Roa_reaches X N h a1 r hr)
set_option maxRecDepth 20000 in
theorem cb_Roa_stretchesTo (X : mu_X) (N : Nat) (h : mu_H) (a1 : Int32) : aG X m_Roa_stretchesTo (rmk 1) (fun _ => ax X) (fun _ _ _ => True) 0 0 (fun r : Int32 => qI X r h) (f_Roa_stretchesTo N h a1) 0 [(0, .ref (xa X 37)), (1, .int a1)] [] h := by
  unfold f_Roa_stretchesTo
  refine ro_aload_n (pc := 0) 0 dX7_stretchesTo_0 rfl rfl ?_
  refine gf_X7_2 (pc := 1) wd_279 dX7_stretchesTo_1 ?_
  refine ro_iload_n (pc := 4) 1 dX7_stretchesTo_4 rfl rfl ?_
  refine ro_iald (pc := 5) (n := 8) cl_38 cv_38 dX7_stretchesTo_5 ?_
  refine ro_sipush (v := 512) (pc := 6) dX7_stretchesTo_6 (by decide) ?_
  refine ro_irem (pc := 9) dX7_stretchesTo_9 (by decide) ?_
  exact ro_iret (pc := 10) rfl rfl dX7_stretchesTo_10
theorem c_Roa_stretchesTo (X : mu_X) (N : Nat) (h : mu_H) (a1 : Int32) : ∀ r, f_Roa_stretchesTo N h a1 = some r → mI X m_Roa_stretchesTo 1 [.ref (xa X 37), .int a1] h r h := fun r hr => mI_of (by decide) rfl (Nat.le_of_ble_eq_true rfl) rfl (cb_Roa_stretchesTo X N h a1 r hr)
set_option maxRecDepth 20000 in
theorem cb_Roa_roadOf (X : mu_X) (N : Nat) (h : mu_H) (a1 : Int32) : aG X m_Roa_roadOf (rmk 2) (fun _ => ax X) (fun _ _ _ => True) 0 0 (fun r : Int32 => qI X r h) (f_Roa_roadOf N h a1) 0 [(0, .ref (xa X 37)), (1, .int a1)] [] h := by
  unfold f_Roa_roadOf
  refine ro_aload_n (pc := 0) 0 dX7_roadOf_0 rfl rfl ?_
  refine gf_X7_0 (pc := 1) wd_277 dX7_roadOf_1 ?_
  refine ro_iload_n (pc := 4) 1 dX7_roadOf_4 rfl rfl ?_
  refine ro_iconst (v := 0) (pc := 5) dX7_roadOf_5 (by decide) ?_
  refine ro_cvP (pc := 6) (kc := 1) (avs := [.int a1, .int 0]) (st := []) ok_Par_ofHouse wd_1036 cl_3 cv_3 rfl ⟨by decide, by decide⟩ ⟨Nat.zero_le _, Nat.zero_le _⟩ (c_Par_ofHouse X N h 3 isP_i3 a1 0) rfl rfl (Nat.le_of_ble_eq_true rfl) dX7_roadOf_6 (fun x1 => ?_)
  refine ro_istore_n (pc := 9) (lv' := [(2, .int x1), (0, .ref (xa X 37)), (1, .int a1)]) dX7_roadOf_9 rfl (by decide) rfl ?_
  refine ro_aload_n (pc := 10) 1 dX7_roadOf_10 rfl rfl ?_
  refine ro_iload_n (pc := 11) 0 dX7_roadOf_11 rfl rfl ?_
  refine ro_cvP (pc := 12) (kc := 1) (avs := [.int x1]) (st := []) ok_Roa_reaches wd_1037 cl_37 cv_37 rfl ⟨by decide, by decide⟩ ⟨Nat.zero_le _, Nat.zero_le _⟩ (c_Roa_reaches X N h x1) rfl rfl (Nat.le_of_ble_eq_true rfl) dX7_roadOf_12 (fun x2 => ?_)
  refine ro_if_eq (tgt := 26) (pc := 15) dX7_roadOf_15 (by decide) (fun _ => ?_) (fun _ => ?_)
  · skip
    refine ro_iconst (v := 0) (pc := 26) dX7_roadOf_26 (by decide) ?_
    exact ro_iret (pc := 27) rfl rfl dX7_roadOf_27
  · skip
    refine ro_aload_n (pc := 18) 1 dX7_roadOf_18 rfl rfl ?_
    refine ro_iload_n (pc := 19) 0 dX7_roadOf_19 rfl rfl ?_
    refine ro_cvP (pc := 20) (kc := 1) (avs := [.int x1]) (st := []) ok_Roa_stretchesTo wd_1038 cl_37 cv_37 rfl ⟨by decide, by decide⟩ ⟨Nat.zero_le _, Nat.zero_le _⟩ (c_Roa_stretchesTo X N h x1) rfl rfl (Nat.le_of_ble_eq_true rfl) dX7_roadOf_20 (fun x3 => ?_)
    refine ro_goto (tgt := 27) (pc := 23) dX7_roadOf_23 (by decide) ?_
    exact ro_iret (pc := 27) rfl rfl dX7_roadOf_27
theorem c_Roa_roadOf (X : mu_X) (N : Nat) (h : mu_H) (a1 : Int32) : ∀ r, f_Roa_roadOf N h a1 = some r → mI X m_Roa_roadOf 2 [.ref (xa X 37), .int a1] h r h := fun r hr => mI_of (by decide) rfl (Nat.le_of_ble_eq_true rfl) rfl (cb_Roa_roadOf X N h a1 r hr)
set_option maxRecDepth 20000 in
theorem cb_Roa_useOf (X : mu_X) (N : Nat) (h : mu_H) (a1 : Int32) : aG X m_Roa_useOf (rmk 3) (fun _ => ax X) (fun _ _ _ => True) 0 0 (fun r : Int32 => qI X r h) (f_Roa_useOf N h a1) 0 [(0, .ref (xa X 37)), (1, .int a1)] [] h := by
  unfold f_Roa_useOf
  refine ro_aload_n (pc := 0) 0 dX7_useOf_0 rfl rfl ?_
  refine ro_iload_n (pc := 1) 1 dX7_useOf_1 rfl rfl ?_
  refine ro_cvP (pc := 2) (kc := 2) (avs := [.int a1]) (st := []) ok_Roa_roadOf wd_1052 cl_37 cv_37 rfl ⟨by decide, by decide⟩ ⟨Nat.zero_le _, Nat.zero_le _⟩ (c_Roa_roadOf X N h a1) rfl rfl (Nat.le_of_ble_eq_true rfl) dX7_useOf_2 (fun x1 => ?_)
  refine ro_istore_n (pc := 5) (lv' := [(2, .int x1), (0, .ref (xa X 37)), (1, .int a1)]) dX7_useOf_5 rfl (by decide) rfl ?_
  refine ro_iconst (v := 0) (pc := 6) dX7_useOf_6 (by decide) ?_
  refine ro_istore_n (pc := 7) (lv' := [(3, .int 0), (2, .int x1), (0, .ref (xa X 37)), (1, .int a1)]) dX7_useOf_7 rfl (by decide) rfl ?_
  refine ro_iconst (v := 0) (pc := 8) dX7_useOf_8 (by decide) ?_
  refine ro_istore (pc := 9) (lv' := [(4, .int 0), (3, .int 0), (2, .int x1), (0, .ref (xa X 37)), (1, .int a1)]) dX7_useOf_9 (by decide) rfl ?_
  refine ro_lv [3, 2, 1, 0] rfl ?_
  refine ro_lp (pc := 11) (lvs := fun (s : Int32 × Int32) => [(0, .ref (xa X 37)), (2, .int x1), (3, .int s.1), (4, .int s.2)]) (hs := fun (s : Int32 × Int32) => h) (fun rec2 hrec2 s => ?_) N (0, 0)
  obtain ⟨x3, x4⟩ := s; unfold f_Roa_useOf_L11; try dsimp only
  refine ro_iload (pc := 11) 3 dX7_useOf_11 rfl ?_
  refine ro_aload_n (pc := 13) 0 dX7_useOf_13 rfl rfl ?_
  refine gf_X7_0 (pc := 14) wd_277 dX7_useOf_14 ?_
  refine ro_cvP (pc := 17) (kc := 1) (avs := []) (st := [.int x4]) ok_Par_stretches wd_943 cl_3 cv_3 rfl ⟨by decide, by decide⟩ ⟨Nat.zero_le _, Nat.zero_le _⟩ (c_Par_stretches X N h 3 isP_i3) rfl rfl (Nat.le_of_ble_eq_true rfl) dX7_useOf_17 (fun x5 => ?_)
  refine ro_icmp_ge (tgt := 51) (pc := 20) dX7_useOf_20 (by decide) (fun _ => ?_) (fun _ => ?_)
  · skip
    refine ro_iload_n (pc := 51) 2 dX7_useOf_51 rfl rfl ?_
    exact ro_iret (pc := 52) rfl rfl dX7_useOf_52
  · skip
    refine ro_iload_n (pc := 23) 1 dX7_useOf_23 rfl rfl ?_
    refine ro_iload (pc := 24) 3 dX7_useOf_24 rfl ?_
    refine ro_ishr (pc := 26) dX7_useOf_26 ?_
    refine ro_iconst (v := 1) (pc := 27) dX7_useOf_27 (by decide) ?_
    refine ro_iand (pc := 28) dX7_useOf_28 ?_
    refine ro_jn (pcj := 45) (lvs := fun (s : Int32) => [(0, .ref (xa X 37)), (2, .int x1), (3, .int s), (4, .int x4)]) (hs := fun (s : Int32) => h) (sts := fun (s : Int32) => []) (fun x7 => ?_) (fun j6 hj6 => ?_)
    · try dsimp only
      refine ro_iinc (pc := 45) (v := x4 + 1) (lv' := [(4, .int (x4 + 1)), (0, .ref (xa X 37)), (2, .int x1), (3, .int x7)]) 3 dX7_useOf_45 rfl rfl (by decide) rfl ?_
      refine ro_goto (tgt := 11) (pc := 48) dX7_useOf_48 (by decide) ?_
      refine ro_lv [1, 2, 3, 0] rfl ?_
      exact hrec2 (x7, x4 + 1)
    · skip
      refine ro_if_eq (tgt := 45) (pc := 29) dX7_useOf_29 (by decide) (fun _ => ?_) (fun _ => ?_)
      · skip
        exact hj6 x3
      · skip
        refine ro_iload_n (pc := 32) 2 dX7_useOf_32 rfl rfl ?_
        refine ro_aload_n (pc := 33) 0 dX7_useOf_33 rfl rfl ?_
        refine gf_X7_0 (pc := 34) wd_277 dX7_useOf_34 ?_
        refine ro_iload (pc := 37) 3 dX7_useOf_37 rfl ?_
        refine ro_iconst (v := 4) (pc := 39) dX7_useOf_39 (by decide) ?_
        refine ro_cvP (pc := 40) (kc := 1) (avs := [.int x4, .int 4]) (st := [.int x3]) ok_Par_ofStretch wd_945 cl_3 cv_3 rfl ⟨by decide, by decide⟩ ⟨Nat.zero_le _, Nat.zero_le _⟩ (c_Par_ofStretch X N h 3 isP_i3 x4 4) rfl rfl (Nat.le_of_ble_eq_true rfl) dX7_useOf_40 (fun x8 => ?_)
        refine ro_iadd (pc := 43) dX7_useOf_43 ?_
        refine ro_bn (fun x9 => ?_)
        refine ro_istore_n (pc := 44) (lv' := [(3, .int x9), (0, .ref (xa X 37)), (2, .int x1), (4, .int x4)]) dX7_useOf_44 rfl (by decide) rfl ?_
        refine ro_lv [1, 2, 0, 3] rfl ?_
        exact hj6 x9
theorem c_Roa_useOf (X : mu_X) (N : Nat) (h : mu_H) (a1 : Int32) : ∀ r, f_Roa_useOf N h a1 = some r → mI X m_Roa_useOf 3 [.ref (xa X 37), .int a1] h r h := fun r hr => mI_of (by decide) rfl (Nat.le_of_ble_eq_true rfl) rfl (cb_Roa_useOf X N h a1 r hr)
set_option maxRecDepth 20000 in
theorem cb_Roa_mostUsing (X : mu_X) (N : Nat) (h : mu_H) : aG X m_Roa_mostUsing (rmk 4) (fun _ => ax X) (fun _ _ _ => True) 0 0 (fun r : Int32 => qI X r h) (f_Roa_mostUsing N h) 0 [(0, .ref (xa X 37))] [] h := by
  unfold f_Roa_mostUsing
  refine ro_iconst (v := 0) (pc := 0) dX7_mostUsing_0 (by decide) ?_
  refine ro_istore_n (pc := 1) (lv' := [(1, .int 0), (0, .ref (xa X 37))]) dX7_mostUsing_1 rfl (by decide) rfl ?_
  refine ro_iconst (v := 1) (pc := 2) dX7_mostUsing_2 (by decide) ?_
  refine ro_istore_n (pc := 3) (lv' := [(2, .int 1), (1, .int 0), (0, .ref (xa X 37))]) dX7_mostUsing_3 rfl (by decide) rfl ?_
  refine ro_lv [2, 1, 0] rfl ?_
  refine ro_lp (pc := 4) (lvs := fun (s : Int32 × Int32) => [(0, .ref (xa X 37)), (1, .int s.1), (2, .int s.2)]) (hs := fun (s : Int32 × Int32) => h) (fun rec1 hrec1 s => ?_) N (0, 1)
  obtain ⟨x2, x3⟩ := s; unfold f_Roa_mostUsing_L4; try dsimp only
  refine ro_iload_n (pc := 4) 2 dX7_mostUsing_4 rfl rfl ?_
  refine ro_aload_n (pc := 5) 0 dX7_mostUsing_5 rfl rfl ?_
  refine gf_X7_0 (pc := 6) wd_277 dX7_mostUsing_6 ?_
  refine ro_cvP (pc := 9) (kc := 1) (avs := []) (st := [.int x3]) ok_Par_houses wd_1047 cl_3 cv_3 rfl ⟨by decide, by decide⟩ ⟨Nat.zero_le _, Nat.zero_le _⟩ (c_Par_houses X N h 3 isP_i3) rfl rfl (Nat.le_of_ble_eq_true rfl) dX7_mostUsing_9 (fun x4 => ?_)
  refine ro_icmp_ge (tgt := 36) (pc := 12) dX7_mostUsing_12 (by decide) (fun _ => ?_) (fun _ => ?_)
  · skip
    refine ro_iload_n (pc := 36) 1 dX7_mostUsing_36 rfl rfl ?_
    exact ro_iret (pc := 37) rfl rfl dX7_mostUsing_37
  · skip
    refine ro_aload_n (pc := 15) 0 dX7_mostUsing_15 rfl rfl ?_
    refine ro_iload_n (pc := 16) 2 dX7_mostUsing_16 rfl rfl ?_
    refine ro_cvP (pc := 17) (kc := 3) (avs := [.int x3]) (st := []) ok_Roa_useOf wd_1048 cl_37 cv_37 rfl ⟨by decide, by decide⟩ ⟨Nat.zero_le _, Nat.zero_le _⟩ (c_Roa_useOf X N h x3) rfl rfl (Nat.le_of_ble_eq_true rfl) dX7_mostUsing_17 (fun x5 => ?_)
    refine ro_aload_n (pc := 20) 0 dX7_mostUsing_20 rfl rfl ?_
    refine ro_iload_n (pc := 21) 1 dX7_mostUsing_21 rfl rfl ?_
    refine ro_cvP (pc := 22) (kc := 3) (avs := [.int x2]) (st := [.int x5]) ok_Roa_useOf wd_1048 cl_37 cv_37 rfl ⟨by decide, by decide⟩ ⟨Nat.zero_le _, Nat.zero_le _⟩ (c_Roa_useOf X N h x2) rfl rfl (Nat.le_of_ble_eq_true rfl) dX7_mostUsing_22 (fun x6 => ?_)
    refine ro_jn (pcj := 30) (lvs := fun (s : Int32) => [(0, .ref (xa X 37)), (1, .int s), (2, .int x3)]) (hs := fun (s : Int32) => h) (sts := fun (s : Int32) => []) (fun x8 => ?_) (fun j7 hj7 => ?_)
    · try dsimp only
      refine ro_iinc (pc := 30) (v := x3 + 1) (lv' := [(2, .int (x3 + 1)), (0, .ref (xa X 37)), (1, .int x8)]) 2 dX7_mostUsing_30 rfl rfl (by decide) rfl ?_
      refine ro_goto (tgt := 4) (pc := 33) dX7_mostUsing_33 (by decide) ?_
      refine ro_lv [1, 2, 0] rfl ?_
      exact hrec1 (x8, x3 + 1)
    · skip
      refine ro_icmp_le (tgt := 30) (pc := 25) dX7_mostUsing_25 (by decide) (fun _ => ?_) (fun _ => ?_)
      · skip
        exact hj7 x2
      · skip
        refine ro_iload_n (pc := 28) 2 dX7_mostUsing_28 rfl rfl ?_
        refine ro_istore_n (pc := 29) (lv' := [(1, .int x3), (0, .ref (xa X 37)), (2, .int x3)]) dX7_mostUsing_29 rfl (by decide) rfl ?_
        refine ro_lv [1, 0, 2] rfl ?_
        exact hj7 x3
theorem c_Roa_mostUsing (X : mu_X) (N : Nat) (h : mu_H) : ∀ r, f_Roa_mostUsing N h = some r → mI X m_Roa_mostUsing 4 [.ref (xa X 37)] h r h := fun r hr => mI_of (by decide) rfl (Nat.le_of_ble_eq_true rfl) rfl (cb_Roa_mostUsing X N h r hr)
set_option maxRecDepth 20000 in
theorem cb_Roa_mostWorn (X : mu_X) (N : Nat) (h : mu_H) : aG X m_Roa_mostWorn (rmk 2) (fun _ => ax X) (fun _ _ _ => True) 0 0 (fun r : Int32 => qI X r h) (f_Roa_mostWorn N h) 0 [(0, .ref (xa X 37))] [] h := by
  unfold f_Roa_mostWorn
  refine ro_iconst (v := 0) (pc := 0) dX7_mostWorn_0 (by decide) ?_
  refine ro_istore_n (pc := 1) (lv' := [(1, .int 0), (0, .ref (xa X 37))]) dX7_mostWorn_1 rfl (by decide) rfl ?_
  refine ro_iconst (v := 1) (pc := 2) dX7_mostWorn_2 (by decide) ?_
  refine ro_istore_n (pc := 3) (lv' := [(2, .int 1), (1, .int 0), (0, .ref (xa X 37))]) dX7_mostWorn_3 rfl (by decide) rfl ?_
  refine ro_lv [2, 1, 0] rfl ?_
  refine ro_lp (pc := 4) (lvs := fun (s : Int32 × Int32) => [(0, .ref (xa X 37)), (1, .int s.1), (2, .int s.2)]) (hs := fun (s : Int32 × Int32) => h) (fun rec1 hrec1 s => ?_) N (0, 1)
  obtain ⟨x2, x3⟩ := s; unfold f_Roa_mostWorn_L4; try dsimp only
  refine ro_iload_n (pc := 4) 2 dX7_mostWorn_4 rfl rfl ?_
  refine ro_aload_n (pc := 5) 0 dX7_mostWorn_5 rfl rfl ?_
  refine gf_X7_0 (pc := 6) wd_277 dX7_mostWorn_6 ?_
  refine ro_cvP (pc := 9) (kc := 1) (avs := []) (st := [.int x3]) ok_Par_stretches wd_943 cl_3 cv_3 rfl ⟨by decide, by decide⟩ ⟨Nat.zero_le _, Nat.zero_le _⟩ (c_Par_stretches X N h 3 isP_i3) rfl rfl (Nat.le_of_ble_eq_true rfl) dX7_mostWorn_9 (fun x4 => ?_)
  refine ro_icmp_ge (tgt := 42) (pc := 12) dX7_mostWorn_12 (by decide) (fun _ => ?_) (fun _ => ?_)
  · skip
    refine ro_iload_n (pc := 42) 1 dX7_mostWorn_42 rfl rfl ?_
    exact ro_iret (pc := 43) rfl rfl dX7_mostWorn_43
  · skip
    refine ro_aload_n (pc := 15) 0 dX7_mostWorn_15 rfl rfl ?_
    refine gf_X7_1 (pc := 16) wd_278 dX7_mostWorn_16 ?_
    refine ro_iload_n (pc := 19) 2 dX7_mostWorn_19 rfl rfl ?_
    refine ro_cvP (pc := 20) (kc := 1) (avs := [.int x3]) (st := []) ok_Sta_wear wd_944 cl_14 cv_14 rfl ⟨by decide, by decide⟩ ⟨Nat.zero_le _, Nat.zero_le _⟩ (c_Sta_wear X N h 14 isT_i14 x3) rfl rfl (Nat.le_of_ble_eq_true rfl) dX7_mostWorn_20 (fun x5 => ?_)
    refine ro_aload_n (pc := 23) 0 dX7_mostWorn_23 rfl rfl ?_
    refine gf_X7_1 (pc := 24) wd_278 dX7_mostWorn_24 ?_
    refine ro_iload_n (pc := 27) 1 dX7_mostWorn_27 rfl rfl ?_
    refine ro_cvP (pc := 28) (kc := 1) (avs := [.int x2]) (st := [.int x5]) ok_Sta_wear wd_944 cl_14 cv_14 rfl ⟨by decide, by decide⟩ ⟨Nat.zero_le _, Nat.zero_le _⟩ (c_Sta_wear X N h 14 isT_i14 x2) rfl rfl (Nat.le_of_ble_eq_true rfl) dX7_mostWorn_28 (fun x6 => ?_)
    refine ro_jn (pcj := 36) (lvs := fun (s : Int32) => [(0, .ref (xa X 37)), (1, .int s), (2, .int x3)]) (hs := fun (s : Int32) => h) (sts := fun (s : Int32) => []) (fun x8 => ?_) (fun j7 hj7 => ?_)
    · try dsimp only
      refine ro_iinc (pc := 36) (v := x3 + 1) (lv' := [(2, .int (x3 + 1)), (0, .ref (xa X 37)), (1, .int x8)]) 2 dX7_mostWorn_36 rfl rfl (by decide) rfl ?_
      refine ro_goto (tgt := 4) (pc := 39) dX7_mostWorn_39 (by decide) ?_
      refine ro_lv [1, 2, 0] rfl ?_
      exact hrec1 (x8, x3 + 1)
    · skip
      refine ro_icmp_le (tgt := 36) (pc := 31) dX7_mostWorn_31 (by decide) (fun _ => ?_) (fun _ => ?_)
      · skip
        exact hj7 x2
      · skip
        refine ro_iload_n (pc := 34) 2 dX7_mostWorn_34 rfl rfl ?_
        refine ro_istore_n (pc := 35) (lv' := [(1, .int x3), (0, .ref (xa X 37)), (2, .int x3)]) dX7_mostWorn_35 rfl (by decide) rfl ?_
        refine ro_lv [1, 0, 2] rfl ?_
        exact hj7 x3
theorem c_Roa_mostWorn (X : mu_X) (N : Nat) (h : mu_H) : ∀ r, f_Roa_mostWorn N h = some r → mI X m_Roa_mostWorn 2 [.ref (xa X 37)] h r h := fun r hr => mI_of (by decide) rfl (Nat.le_of_ble_eq_true rfl) rfl (cb_Roa_mostWorn X N h r hr)
set_option maxRecDepth 20000 in
theorem cb_Roa_spreadFrom (X : mu_X) (N : Nat) (h : mu_H) (a1 : Int32) : aG X m_Roa_spreadFrom (rmk 2) (fun _ => ax X) (fun _ _ _ => True) 0 0 (fun r : mu_H => qV X r) (f_Roa_spreadFrom N h a1) 0 [(0, .ref (xa X 37)), (1, .int a1)] [] h := by
  unfold f_Roa_spreadFrom
  refine ro_aload_n (pc := 0) 0 dX7_spreadFrom_0 rfl rfl ?_
  refine gf_X7_2 (pc := 1) wd_279 dX7_spreadFrom_1 ?_
  refine ro_ldc (v := 1000000000) (pc := 4) dX7_spreadFrom_4 wd_941 ?_
  refine ro_csV (pc := 6) (kc := 1) (avs := [.ref (xa X 38), .int 1000000000]) (st := []) ok_Arr_fill wd_942 ⟨by decide, by decide⟩ ⟨Nat.zero_le _, Nat.zero_le _⟩ (c_Arr_fill X N h 38 8 cl_38 cv_38 1000000000) rfl rfl (Nat.le_of_ble_eq_true rfl) dX7_spreadFrom_6 (fun h1 => ?_)
  refine ro_iload_n (pc := 9) 1 dX7_spreadFrom_9 rfl rfl ?_
  refine ro_jn (pcj := 26) (lvs := fun (s : mu_H) => [(0, .ref (xa X 37))]) (hs := fun (s : mu_H) => s) (sts := fun (s : mu_H) => []) (fun h3 => ?_) (fun j2 hj2 => ?_)
  · try dsimp only
    refine ro_iconst (v := 1) (pc := 26) dX7_spreadFrom_26 (by decide) ?_
    refine ro_istore_n (pc := 27) (lv' := [(2, .int 1), (0, .ref (xa X 37))]) dX7_spreadFrom_27 rfl (by decide) rfl ?_
    refine ro_lv [1, 0] rfl ?_
    refine ro_lp (pc := 28) (lvs := fun (s : Int32 × mu_H) => [(0, .ref (xa X 37)), (2, .int s.1)]) (hs := fun (s : Int32 × mu_H) => s.2) (fun rec4 hrec4 s => ?_) N (1, h3)
    obtain ⟨x5, h6⟩ := s; unfold f_Roa_spreadFrom_L28; try dsimp only
    refine ro_iload_n (pc := 28) 1 dX7_spreadFrom_28 rfl rfl ?_
    refine ro_bipush (v := 8) (pc := 29) dX7_spreadFrom_29 (by decide) ?_
    refine ro_icmp_ge (tgt := 153) (pc := 31) dX7_spreadFrom_31 (by decide) (fun _ => ?_) (fun _ => ?_)
    · skip
      exact ro_vret (pc := 153) rfl rfl dX7_spreadFrom_153
    · skip
      refine ro_iconst (v := 0) (pc := 34) dX7_spreadFrom_34 (by decide) ?_
      refine ro_istore_n (pc := 35) (lv' := [(3, .int 0), (0, .ref (xa X 37)), (2, .int x5)]) dX7_spreadFrom_35 rfl (by decide) rfl ?_
      refine ro_jn (pcj := 147) (lvs := fun (s : mu_H) => [(0, .ref (xa X 37)), (2, .int x5)]) (hs := fun (s : mu_H) => s) (sts := fun (s : mu_H) => []) (fun h8 => ?_) (fun k7 hk7 => ?_)
      · try dsimp only
        refine ro_iinc (pc := 147) (v := x5 + 1) (lv' := [(2, .int (x5 + 1)), (0, .ref (xa X 37))]) 1 dX7_spreadFrom_147 rfl rfl (by decide) rfl ?_
        refine ro_goto (tgt := 28) (pc := 150) dX7_spreadFrom_150 (by decide) ?_
        refine ro_lv [1, 0] rfl ?_
        exact hrec4 (x5 + 1, h8)
      · skip
        refine ro_lv [1, 2, 0] rfl ?_
        refine ro_lp (pc := 36) (lvs := fun (s : Int32 × mu_H) => [(0, .ref (xa X 37)), (2, .int x5), (3, .int s.1)]) (hs := fun (s : Int32 × mu_H) => s.2) (fun rec9 hrec9 s => ?_) N (0, h6)
        obtain ⟨x10, h11⟩ := s; unfold f_Roa_spreadFrom_L36; try dsimp only
        refine ro_iload_n (pc := 36) 2 dX7_spreadFrom_36 rfl rfl ?_
        refine ro_aload_n (pc := 37) 0 dX7_spreadFrom_37 rfl rfl ?_
        refine gf_X7_0 (pc := 38) wd_277 dX7_spreadFrom_38 ?_
        refine ro_cvP (pc := 41) (kc := 1) (avs := []) (st := [.int x10]) ok_Par_stretches wd_943 cl_3 cv_3 rfl ⟨by decide, by decide⟩ ⟨Nat.zero_le _, Nat.zero_le _⟩ (c_Par_stretches X N h11 3 isP_i3) rfl rfl (Nat.le_of_ble_eq_true rfl) dX7_spreadFrom_41 (fun x12 => ?_)
        refine ro_icmp_ge (tgt := 147) (pc := 44) dX7_spreadFrom_44 (by decide) (fun _ => ?_) (fun _ => ?_)
        · skip
          refine ro_lv [0, 1] rfl ?_
          exact hk7 h11
        · skip
          refine ro_aload_n (pc := 47) 0 dX7_spreadFrom_47 rfl rfl ?_
          refine gf_X7_1 (pc := 48) wd_278 dX7_spreadFrom_48 ?_
          refine ro_iload_n (pc := 51) 2 dX7_spreadFrom_51 rfl rfl ?_
          refine ro_cvP (pc := 52) (kc := 1) (avs := [.int x10]) (st := []) ok_Sta_wear wd_944 cl_14 cv_14 rfl ⟨by decide, by decide⟩ ⟨Nat.zero_le _, Nat.zero_le _⟩ (c_Sta_wear X N h11 14 isT_i14 x10) rfl rfl (Nat.le_of_ble_eq_true rfl) dX7_spreadFrom_52 (fun x13 => ?_)
          refine ro_sipush (v := 512) (pc := 55) dX7_spreadFrom_55 (by decide) ?_
          refine ro_imul (pc := 58) dX7_spreadFrom_58 ?_
          refine ro_iconst (v := 1) (pc := 59) dX7_spreadFrom_59 (by decide) ?_
          refine ro_iload_n (pc := 60) 2 dX7_spreadFrom_60 rfl rfl ?_
          refine ro_ishl (pc := 61) dX7_spreadFrom_61 ?_
          refine ro_iadd (pc := 62) dX7_spreadFrom_62 ?_
          refine ro_bn (fun x14 => ?_)
          refine ro_istore (pc := 63) (lv' := [(4, .int x14), (0, .ref (xa X 37)), (2, .int x5), (3, .int x10)]) dX7_spreadFrom_63 (by decide) rfl ?_
          refine ro_aload_n (pc := 65) 1 dX7_spreadFrom_65 rfl rfl ?_
          refine gf_X7_0 (pc := 66) wd_277 dX7_spreadFrom_66 ?_
          refine ro_iload_n (pc := 69) 3 dX7_spreadFrom_69 rfl rfl ?_
          refine ro_iconst (v := 0) (pc := 70) dX7_spreadFrom_70 (by decide) ?_
          refine ro_cvP (pc := 71) (kc := 1) (avs := [.int x10, .int 0]) (st := []) ok_Par_ofStretch wd_945 cl_3 cv_3 rfl ⟨by decide, by decide⟩ ⟨Nat.zero_le _, Nat.zero_le _⟩ (c_Par_ofStretch X N h11 3 isP_i3 x10 0) rfl rfl (Nat.le_of_ble_eq_true rfl) dX7_spreadFrom_71 (fun x15 => ?_)
          refine ro_istore (pc := 74) (lv' := [(5, .int x15), (4, .int x14), (0, .ref (xa X 37)), (2, .int x5), (3, .int x10)]) dX7_spreadFrom_74 (by decide) rfl ?_
          refine ro_aload_n (pc := 76) 2 dX7_spreadFrom_76 rfl rfl ?_
          refine gf_X7_0 (pc := 77) wd_277 dX7_spreadFrom_77 ?_
          refine ro_iload_n (pc := 80) 4 dX7_spreadFrom_80 rfl rfl ?_
          refine ro_iconst (v := 1) (pc := 81) dX7_spreadFrom_81 (by decide) ?_
          refine ro_cvP (pc := 82) (kc := 1) (avs := [.int x10, .int 1]) (st := []) ok_Par_ofStretch wd_945 cl_3 cv_3 rfl ⟨by decide, by decide⟩ ⟨Nat.zero_le _, Nat.zero_le _⟩ (c_Par_ofStretch X N h11 3 isP_i3 x10 1) rfl rfl (Nat.le_of_ble_eq_true rfl) dX7_spreadFrom_82 (fun x16 => ?_)
          refine ro_istore (pc := 85) (lv' := [(6, .int x16), (5, .int x15), (4, .int x14), (0, .ref (xa X 37)), (2, .int x5), (3, .int x10)]) dX7_spreadFrom_85 (by decide) rfl ?_
          refine ro_aload_n (pc := 87) 3 dX7_spreadFrom_87 rfl rfl ?_
          refine gf_X7_2 (pc := 88) wd_279 dX7_spreadFrom_88 ?_
          refine ro_iload (pc := 91) 1 dX7_spreadFrom_91 rfl ?_
          refine ro_aload_n (pc := 93) 3 dX7_spreadFrom_93 rfl rfl ?_
          refine gf_X7_2 (pc := 94) wd_279 dX7_spreadFrom_94 ?_
          refine ro_iload (pc := 97) 1 dX7_spreadFrom_97 rfl ?_
          refine ro_iald (pc := 99) (n := 8) cl_38 cv_38 dX7_spreadFrom_99 ?_
          refine ro_aload_n (pc := 100) 3 dX7_spreadFrom_100 rfl rfl ?_
          refine gf_X7_2 (pc := 101) wd_279 dX7_spreadFrom_101 ?_
          refine ro_iload (pc := 104) 0 dX7_spreadFrom_104 rfl ?_
          refine ro_iald (pc := 106) (n := 8) cl_38 cv_38 dX7_spreadFrom_106 ?_
          refine ro_iload (pc := 107) 2 dX7_spreadFrom_107 rfl ?_
          refine ro_iadd (pc := 109) dX7_spreadFrom_109 ?_
          refine ro_mmin (pc := 110) (st := [.int x15, .ref (xa X 38)]) wd_946 (by decide) (Nat.le_of_ble_eq_true rfl) ⟨Nat.zero_le _, Nat.zero_le _⟩ dX7_spreadFrom_110 ?_
          refine ro_iast (pc := 113) (n := 8) cl_38 cv_38 dX7_spreadFrom_113 ?_
          refine ro_bnh (fun h17 => ?_)
          refine ro_aload_n (pc := 114) 3 dX7_spreadFrom_114 rfl rfl ?_
          refine gf_X7_2 (pc := 115) wd_279 dX7_spreadFrom_115 ?_
          refine ro_iload (pc := 118) 0 dX7_spreadFrom_118 rfl ?_
          refine ro_aload_n (pc := 120) 3 dX7_spreadFrom_120 rfl rfl ?_
          refine gf_X7_2 (pc := 121) wd_279 dX7_spreadFrom_121 ?_
          refine ro_iload (pc := 124) 0 dX7_spreadFrom_124 rfl ?_
          refine ro_iald (pc := 126) (n := 8) cl_38 cv_38 dX7_spreadFrom_126 ?_
          refine ro_aload_n (pc := 127) 3 dX7_spreadFrom_127 rfl rfl ?_
          refine gf_X7_2 (pc := 128) wd_279 dX7_spreadFrom_128 ?_
          refine ro_iload (pc := 131) 1 dX7_spreadFrom_131 rfl ?_
          refine ro_iald (pc := 133) (n := 8) cl_38 cv_38 dX7_spreadFrom_133 ?_
          refine ro_iload (pc := 134) 2 dX7_spreadFrom_134 rfl ?_
          refine ro_iadd (pc := 136) dX7_spreadFrom_136 ?_
          refine ro_mmin (pc := 137) (st := [.int x16, .ref (xa X 38)]) wd_946 (by decide) (Nat.le_of_ble_eq_true rfl) ⟨Nat.zero_le _, Nat.zero_le _⟩ dX7_spreadFrom_137 ?_
          refine ro_iast (pc := 140) (n := 8) cl_38 cv_38 dX7_spreadFrom_140 ?_
          refine ro_bnh (fun h18 => ?_)
          refine ro_iinc (pc := 141) (v := x10 + 1) (lv' := [(3, .int (x10 + 1)), (6, .int x16), (5, .int x15), (4, .int x14), (0, .ref (xa X 37)), (2, .int x5)]) 5 dX7_spreadFrom_141 rfl rfl (by decide) rfl ?_
          refine ro_goto (tgt := 36) (pc := 144) dX7_spreadFrom_144 (by decide) ?_
          refine ro_lv [4, 5, 0] rfl ?_
          exact hrec9 (x10 + 1, h18)
  · skip
    refine ro_if_lt (tgt := 26) (pc := 10) dX7_spreadFrom_10 (by decide) (fun _ => ?_) (fun _ => ?_)
    · skip
      refine ro_lv [0] rfl ?_
      exact hj2 h1
    · skip
      refine ro_iload_n (pc := 13) 1 dX7_spreadFrom_13 rfl rfl ?_
      refine ro_bipush (v := 8) (pc := 14) dX7_spreadFrom_14 (by decide) ?_
      refine ro_icmp_ge (tgt := 26) (pc := 16) dX7_spreadFrom_16 (by decide) (fun _ => ?_) (fun _ => ?_)
      · skip
        refine ro_lv [0] rfl ?_
        exact hj2 h1
      · skip
        refine ro_aload_n (pc := 19) 0 dX7_spreadFrom_19 rfl rfl ?_
        refine gf_X7_2 (pc := 20) wd_279 dX7_spreadFrom_20 ?_
        refine ro_iload_n (pc := 23) 1 dX7_spreadFrom_23 rfl rfl ?_
        refine ro_iconst (v := 0) (pc := 24) dX7_spreadFrom_24 (by decide) ?_
        refine ro_iast (pc := 25) (n := 8) cl_38 cv_38 dX7_spreadFrom_25 ?_
        refine ro_bnh (fun h19 => ?_)
        refine ro_lv [0] rfl ?_
        exact hj2 h19
theorem c_Roa_spreadFrom (X : mu_X) (N : Nat) (h : mu_H) (a1 : Int32) : ∀ r, f_Roa_spreadFrom N h a1 = some r → mV X m_Roa_spreadFrom 2 [.ref (xa X 37), .int a1] h r := fun r hr => mV_of (by decide) rfl (Nat.le_of_ble_eq_true rfl) rfl (cb_Roa_spreadFrom X N h a1 r hr)
set_option maxRecDepth 20000 in
theorem cb_Roa_touching (X : mu_X) (N : Nat) (h : mu_H) (a1 : Int32) : aG X m_Roa_touching (rmk 3) (fun _ => ax X) (fun _ _ _ => True) 0 0 (fun r : Int32 => qI X r h) (f_Roa_touching N h a1) 0 [(0, .ref (xa X 37)), (1, .int a1)] [] h := by
  unfold f_Roa_touching
  refine ro_aload_n (pc := 0) 0 dX7_touching_0 rfl rfl ?_
  refine gf_X7_0 (pc := 1) wd_277 dX7_touching_1 ?_
  refine ro_iload_n (pc := 4) 1 dX7_touching_4 rfl rfl ?_
  refine ro_iconst (v := 0) (pc := 5) dX7_touching_5 (by decide) ?_
  refine ro_cvP (pc := 6) (kc := 1) (avs := [.int a1, .int 0]) (st := []) ok_Par_ofStretch wd_945 cl_3 cv_3 rfl ⟨by decide, by decide⟩ ⟨Nat.zero_le _, Nat.zero_le _⟩ (c_Par_ofStretch X N h 3 isP_i3 a1 0) rfl rfl (Nat.le_of_ble_eq_true rfl) dX7_touching_6 (fun x1 => ?_)
  refine ro_istore_n (pc := 9) (lv' := [(2, .int x1), (0, .ref (xa X 37)), (1, .int a1)]) dX7_touching_9 rfl (by decide) rfl ?_
  refine ro_aload_n (pc := 10) 1 dX7_touching_10 rfl rfl ?_
  refine gf_X7_0 (pc := 11) wd_277 dX7_touching_11 ?_
  refine ro_iload_n (pc := 14) 2 dX7_touching_14 rfl rfl ?_
  refine ro_iconst (v := 1) (pc := 15) dX7_touching_15 (by decide) ?_
  refine ro_cvP (pc := 16) (kc := 1) (avs := [.int a1, .int 1]) (st := []) ok_Par_ofStretch wd_945 cl_3 cv_3 rfl ⟨by decide, by decide⟩ ⟨Nat.zero_le _, Nat.zero_le _⟩ (c_Par_ofStretch X N h 3 isP_i3 a1 1) rfl rfl (Nat.le_of_ble_eq_true rfl) dX7_touching_16 (fun x2 => ?_)
  refine ro_istore_n (pc := 19) (lv' := [(3, .int x2), (2, .int x1), (0, .ref (xa X 37)), (1, .int a1)]) dX7_touching_19 rfl (by decide) rfl ?_
  refine ro_iconst (v := 0) (pc := 20) dX7_touching_20 (by decide) ?_
  refine ro_istore (pc := 21) (lv' := [(4, .int 0), (3, .int x2), (2, .int x1), (0, .ref (xa X 37)), (1, .int a1)]) dX7_touching_21 (by decide) rfl ?_
  refine ro_iconst (v := 0) (pc := 23) dX7_touching_23 (by decide) ?_
  refine ro_istore (pc := 24) (lv' := [(5, .int 0), (4, .int 0), (3, .int x2), (2, .int x1), (0, .ref (xa X 37)), (1, .int a1)]) dX7_touching_24 (by decide) rfl ?_
  refine ro_lv [4, 5, 3, 2, 1, 0] rfl ?_
  refine ro_lp (pc := 26) (lvs := fun (s : Int32 × Int32) => [(0, .ref (xa X 37)), (1, .int a1), (2, .int x1), (3, .int x2), (4, .int s.1), (5, .int s.2)]) (hs := fun (s : Int32 × Int32) => h) (fun rec3 hrec3 s => ?_) N (0, 0)
  obtain ⟨x4, x5⟩ := s; unfold f_Roa_touching_L26; try dsimp only
  refine ro_iload (pc := 26) 5 dX7_touching_26 rfl ?_
  refine ro_aload_n (pc := 28) 0 dX7_touching_28 rfl rfl ?_
  refine gf_X7_0 (pc := 29) wd_277 dX7_touching_29 ?_
  refine ro_cvP (pc := 32) (kc := 1) (avs := []) (st := [.int x5]) ok_Par_stretches wd_943 cl_3 cv_3 rfl ⟨by decide, by decide⟩ ⟨Nat.zero_le _, Nat.zero_le _⟩ (c_Par_stretches X N h 3 isP_i3) rfl rfl (Nat.le_of_ble_eq_true rfl) dX7_touching_32 (fun x6 => ?_)
  refine ro_icmp_ge (tgt := 85) (pc := 35) dX7_touching_35 (by decide) (fun _ => ?_) (fun _ => ?_)
  · skip
    refine ro_iload (pc := 85) 4 dX7_touching_85 rfl ?_
    exact ro_iret (pc := 87) rfl rfl dX7_touching_87
  · skip
    refine ro_iload (pc := 38) 5 dX7_touching_38 rfl ?_
    refine ro_iload_n (pc := 40) 1 dX7_touching_40 rfl rfl ?_
    refine ro_jn (pcj := 79) (lvs := fun (s : Int32) => [(0, .ref (xa X 37)), (1, .int a1), (2, .int x1), (3, .int x2), (4, .int s), (5, .int x5)]) (hs := fun (s : Int32) => h) (sts := fun (s : Int32) => []) (fun x8 => ?_) (fun j7 hj7 => ?_)
    · try dsimp only
      refine ro_iinc (pc := 79) (v := x5 + 1) (lv' := [(5, .int (x5 + 1)), (0, .ref (xa X 37)), (1, .int a1), (2, .int x1), (3, .int x2), (4, .int x8)]) 5 dX7_touching_79 rfl rfl (by decide) rfl ?_
      refine ro_goto (tgt := 26) (pc := 82) dX7_touching_82 (by decide) ?_
      refine ro_lv [1, 2, 3, 4, 5, 0] rfl ?_
      exact hrec3 (x8, x5 + 1)
    · skip
      refine ro_icmp_eq (tgt := 79) (pc := 41) dX7_touching_41 (by decide) (fun _ => ?_) (fun _ => ?_)
      · skip
        exact hj7 x4
      · skip
        refine ro_aload_n (pc := 44) 0 dX7_touching_44 rfl rfl ?_
        refine gf_X7_0 (pc := 45) wd_277 dX7_touching_45 ?_
        refine ro_iload (pc := 48) 5 dX7_touching_48 rfl ?_
        refine ro_iload_n (pc := 50) 2 dX7_touching_50 rfl rfl ?_
        refine ro_cvP (pc := 51) (kc := 2) (avs := [.int x5, .int x1]) (st := []) ok_Par_touches wd_1180 cl_3 cv_3 rfl ⟨by decide, by decide⟩ ⟨Nat.zero_le _, Nat.zero_le _⟩ (c_Par_touches X N h 3 isP_i3 x5 x1) rfl rfl (Nat.le_of_ble_eq_true rfl) dX7_touching_51 (fun x9 => ?_)
        refine ro_jn (pcj := 70) (lvs := fun (s : Unit) => [(0, .ref (xa X 37)), (1, .int a1), (2, .int x1), (3, .int x2), (4, .int x4), (5, .int x5)]) (hs := fun (s : Unit) => h) (sts := fun (s : Unit) => []) (fun s => ?_) (fun j10 hj10 => ?_)
        · try dsimp only
          refine ro_iload (pc := 70) 4 dX7_touching_70 rfl ?_
          refine ro_iconst (v := 1) (pc := 72) dX7_touching_72 (by decide) ?_
          refine ro_iload (pc := 73) 5 dX7_touching_73 rfl ?_
          refine ro_ishl (pc := 75) dX7_touching_75 ?_
          refine ro_ior (pc := 76) dX7_touching_76 ?_
          refine ro_bn (fun x11 => ?_)
          refine ro_istore (pc := 77) (lv' := [(4, .int x11), (0, .ref (xa X 37)), (1, .int a1), (2, .int x1), (3, .int x2), (5, .int x5)]) dX7_touching_77 (by decide) rfl ?_
          refine ro_lv [1, 2, 3, 4, 0, 5] rfl ?_
          exact hj7 x11
        · skip
          refine ro_if_ne (tgt := 70) (pc := 54) dX7_touching_54 (by decide) (fun _ => ?_) (fun _ => ?_)
          · skip
            exact hj10 ()
          · skip
            refine ro_aload_n (pc := 57) 0 dX7_touching_57 rfl rfl ?_
            refine gf_X7_0 (pc := 58) wd_277 dX7_touching_58 ?_
            refine ro_iload (pc := 61) 5 dX7_touching_61 rfl ?_
            refine ro_iload_n (pc := 63) 3 dX7_touching_63 rfl rfl ?_
            refine ro_cvP (pc := 64) (kc := 2) (avs := [.int x5, .int x2]) (st := []) ok_Par_touches wd_1180 cl_3 cv_3 rfl ⟨by decide, by decide⟩ ⟨Nat.zero_le _, Nat.zero_le _⟩ (c_Par_touches X N h 3 isP_i3 x5 x2) rfl rfl (Nat.le_of_ble_eq_true rfl) dX7_touching_64 (fun x12 => ?_)
            refine ro_if_eq (tgt := 79) (pc := 67) dX7_touching_67 (by decide) (fun _ => ?_) (fun _ => ?_)
            · skip
              exact hj7 x4
            · skip
              exact hj10 ()
theorem c_Roa_touching (X : mu_X) (N : Nat) (h : mu_H) (a1 : Int32) : ∀ r, f_Roa_touching N h a1 = some r → mI X m_Roa_touching 3 [.ref (xa X 37), .int a1] h r h := fun r hr => mI_of (by decide) rfl (Nat.le_of_ble_eq_true rfl) rfl (cb_Roa_touching X N h a1 r hr)
set_option maxRecDepth 20000 in
theorem cb_Roa_useOfAll (X : mu_X) (N : Nat) (h : mu_H) : aG X m_Roa_useOfAll (rmk 4) (fun _ => ax X) (fun _ _ _ => True) 0 0 (fun r : Int32 => qI X r h) (f_Roa_useOfAll N h) 0 [(0, .ref (xa X 37))] [] h := by
  unfold f_Roa_useOfAll
  refine ro_iconst (v := 0) (pc := 0) dX7_useOfAll_0 (by decide) ?_
  refine ro_istore_n (pc := 1) (lv' := [(1, .int 0), (0, .ref (xa X 37))]) dX7_useOfAll_1 rfl (by decide) rfl ?_
  refine ro_iconst (v := 0) (pc := 2) dX7_useOfAll_2 (by decide) ?_
  refine ro_istore_n (pc := 3) (lv' := [(2, .int 0), (1, .int 0), (0, .ref (xa X 37))]) dX7_useOfAll_3 rfl (by decide) rfl ?_
  refine ro_lv [2, 1, 0] rfl ?_
  refine ro_lp (pc := 4) (lvs := fun (s : Int32 × Int32) => [(0, .ref (xa X 37)), (1, .int s.1), (2, .int s.2)]) (hs := fun (s : Int32 × Int32) => h) (fun rec1 hrec1 s => ?_) N (0, 0)
  obtain ⟨x2, x3⟩ := s; unfold f_Roa_useOfAll_L4; try dsimp only
  refine ro_iload_n (pc := 4) 2 dX7_useOfAll_4 rfl rfl ?_
  refine ro_aload_n (pc := 5) 0 dX7_useOfAll_5 rfl rfl ?_
  refine gf_X7_0 (pc := 6) wd_277 dX7_useOfAll_6 ?_
  refine ro_cvP (pc := 9) (kc := 1) (avs := []) (st := [.int x3]) ok_Par_houses wd_1047 cl_3 cv_3 rfl ⟨by decide, by decide⟩ ⟨Nat.zero_le _, Nat.zero_le _⟩ (c_Par_houses X N h 3 isP_i3) rfl rfl (Nat.le_of_ble_eq_true rfl) dX7_useOfAll_9 (fun x4 => ?_)
  refine ro_icmp_ge (tgt := 29) (pc := 12) dX7_useOfAll_12 (by decide) (fun _ => ?_) (fun _ => ?_)
  · skip
    refine ro_iload_n (pc := 29) 1 dX7_useOfAll_29 rfl rfl ?_
    exact ro_iret (pc := 30) rfl rfl dX7_useOfAll_30
  · skip
    refine ro_iload_n (pc := 15) 1 dX7_useOfAll_15 rfl rfl ?_
    refine ro_aload_n (pc := 16) 0 dX7_useOfAll_16 rfl rfl ?_
    refine ro_iload_n (pc := 17) 2 dX7_useOfAll_17 rfl rfl ?_
    refine ro_cvP (pc := 18) (kc := 3) (avs := [.int x3]) (st := [.int x2]) ok_Roa_useOf wd_1048 cl_37 cv_37 rfl ⟨by decide, by decide⟩ ⟨Nat.zero_le _, Nat.zero_le _⟩ (c_Roa_useOf X N h x3) rfl rfl (Nat.le_of_ble_eq_true rfl) dX7_useOfAll_18 (fun x5 => ?_)
    refine ro_iadd (pc := 21) dX7_useOfAll_21 ?_
    refine ro_bn (fun x6 => ?_)
    refine ro_istore_n (pc := 22) (lv' := [(1, .int x6), (0, .ref (xa X 37)), (2, .int x3)]) dX7_useOfAll_22 rfl (by decide) rfl ?_
    refine ro_iinc (pc := 23) (v := x3 + 1) (lv' := [(2, .int (x3 + 1)), (1, .int x6), (0, .ref (xa X 37))]) 2 dX7_useOfAll_23 rfl rfl (by decide) rfl ?_
    refine ro_goto (tgt := 4) (pc := 26) dX7_useOfAll_26 (by decide) ?_
    refine ro_lv [2, 1, 0] rfl ?_
    exact hrec1 (x6, x3 + 1)
theorem c_Roa_useOfAll (X : mu_X) (N : Nat) (h : mu_H) : ∀ r, f_Roa_useOfAll N h = some r → mI X m_Roa_useOfAll 4 [.ref (xa X 37)] h r h := fun r hr => mI_of (by decide) rfl (Nat.le_of_ble_eq_true rfl) rfl (cb_Roa_useOfAll X N h r hr)
set_option maxRecDepth 20000 in
theorem cb_Roa_wearTo (X : mu_X) (N : Nat) (h : mu_H) (a1 : Int32) : aG X m_Roa_wearTo (rmk 1) (fun _ => ax X) (fun _ _ _ => True) 0 0 (fun r : Int32 => qI X r h) (f_Roa_wearTo N h a1) 0 [(0, .ref (xa X 37)), (1, .int a1)] [] h := by
  unfold f_Roa_wearTo
  refine ro_aload_n (pc := 0) 0 dX7_wearTo_0 rfl rfl ?_
  refine gf_X7_2 (pc := 1) wd_279 dX7_wearTo_1 ?_
  refine ro_iload_n (pc := 4) 1 dX7_wearTo_4 rfl rfl ?_
  refine ro_iald (pc := 5) (n := 8) cl_38 cv_38 dX7_wearTo_5 ?_
  refine ro_sipush (v := 512) (pc := 6) dX7_wearTo_6 (by decide) ?_
  refine ro_idiv (pc := 9) dX7_wearTo_9 (by decide) ?_
  exact ro_iret (pc := 10) rfl rfl dX7_wearTo_10
theorem c_Roa_wearTo (X : mu_X) (N : Nat) (h : mu_H) (a1 : Int32) : ∀ r, f_Roa_wearTo N h a1 = some r → mI X m_Roa_wearTo 1 [.ref (xa X 37), .int a1] h r h := fun r hr => mI_of (by decide) rfl (Nat.le_of_ble_eq_true rfl) rfl (cb_Roa_wearTo X N h a1 r hr)
set_option maxRecDepth 20000 in
theorem cb_Sig_allSets (X : mu_X) (N : Nat) (h : mu_H) : aG X m_Sig_allSets (rmk 2) (fun _ => ax X) (fun _ _ _ => True) 0 0 (fun r : Int32 => qI X r h) (f_Sig_allSets N h) 0 [(0, .ref (xa X 39))] [] h := by
  unfold f_Sig_allSets
  refine ro_iconst (v := 1) (pc := 0) dX8_allSets_0 (by decide) ?_
  refine ro_aload_n (pc := 1) 0 dX8_allSets_1 rfl rfl ?_
  refine gf_X8_0 (pc := 2) wd_293 dX8_allSets_2 ?_
  refine ro_cvP (pc := 5) (kc := 1) (avs := []) (st := [.int 1]) ok_Par_houses wd_1066 cl_3 cv_3 rfl ⟨by decide, by decide⟩ ⟨Nat.zero_le _, Nat.zero_le _⟩ (c_Par_houses X N h 3 isP_i3) rfl rfl (Nat.le_of_ble_eq_true rfl) dX8_allSets_5 (fun x1 => ?_)
  refine ro_ishl (pc := 8) dX8_allSets_8 ?_
  exact ro_iret (pc := 9) rfl rfl dX8_allSets_9
theorem c_Sig_allSets (X : mu_X) (N : Nat) (h : mu_H) : ∀ r, f_Sig_allSets N h = some r → mI X m_Sig_allSets 2 [.ref (xa X 39)] h r h := fun r hr => mI_of (by decide) rfl (Nat.le_of_ble_eq_true rfl) rfl (cb_Sig_allSets X N h r hr)
set_option maxRecDepth 20000 in
theorem cb_Sig_add (X : mu_X) (N : Nat) (h : mu_H) (a1 : Int32) (a2 : Int32) : aG X m_Sig_add (rmk 3) (fun _ => ax X) (fun _ _ _ => True) 0 0 (fun r : Int32 × mu_H => qI X r.1 r.2) (f_Sig_add N h a1 a2) 0 [(0, .ref (xa X 39)), (1, .int a1), (2, .int a2)] [] h := by
  unfold f_Sig_add
  refine ro_iload_n (pc := 0) 1 dX8_add_0 rfl rfl ?_
  refine ro_iconst (v := 1) (pc := 1) dX8_add_1 (by decide) ?_
  refine ro_icmp_lt (tgt := 22) (pc := 2) dX8_add_2 (by decide) (fun _ => ?_) (fun _ => ?_)
  · skip
    refine ro_iconst (v := (-1)) (pc := 22) dX8_add_22 (by decide) ?_
    exact ro_iret (pc := 23) rfl rfl dX8_add_23
  · skip
    refine ro_iload_n (pc := 5) 1 dX8_add_5 rfl rfl ?_
    refine ro_aload_n (pc := 6) 0 dX8_add_6 rfl rfl ?_
    refine ro_cvP (pc := 7) (kc := 2) (avs := []) (st := [.int a1]) ok_Sig_allSets wd_1062 cl_39 cv_39 rfl ⟨by decide, by decide⟩ ⟨Nat.zero_le _, Nat.zero_le _⟩ (c_Sig_allSets X N h) rfl rfl (Nat.le_of_ble_eq_true rfl) dX8_add_7 (fun x1 => ?_)
    refine ro_icmp_ge (tgt := 22) (pc := 10) dX8_add_10 (by decide) (fun _ => ?_) (fun _ => ?_)
    · skip
      refine ro_iconst (v := (-1)) (pc := 22) dX8_add_22 (by decide) ?_
      exact ro_iret (pc := 23) rfl rfl dX8_add_23
    · skip
      refine ro_aload_n (pc := 13) 0 dX8_add_13 rfl rfl ?_
      refine gf_X8_3 (pc := 14) wd_296 dX8_add_14 ?_
      refine ro_bipush (v := 10) (pc := 17) dX8_add_17 (by decide) ?_
      refine ro_icmp_lt (tgt := 24) (pc := 19) dX8_add_19 (by decide) (fun _ => ?_) (fun _ => ?_)
      · skip
        refine ro_aload_n (pc := 24) 0 dX8_add_24 rfl rfl ?_
        refine gf_X8_1 (pc := 25) wd_294 dX8_add_25 ?_
        refine ro_aload_n (pc := 28) 0 dX8_add_28 rfl rfl ?_
        refine gf_X8_3 (pc := 29) wd_296 dX8_add_29 ?_
        refine ro_iload_n (pc := 32) 1 dX8_add_32 rfl rfl ?_
        refine ro_iast (pc := 33) (n := 10) cl_40 cv_40 dX8_add_33 ?_
        refine ro_bnh (fun h2 => ?_)
        refine ro_aload_n (pc := 34) 0 dX8_add_34 rfl rfl ?_
        refine gf_X8_2 (pc := 35) wd_295 dX8_add_35 ?_
        refine ro_aload_n (pc := 38) 0 dX8_add_38 rfl rfl ?_
        refine gf_X8_3 (pc := 39) wd_296 dX8_add_39 ?_
        refine ro_iload_n (pc := 42) 2 dX8_add_42 rfl rfl ?_
        refine ro_zast (pc := 43) (n := 10) cl_41 cv_41 dX8_add_43 ?_
        refine ro_bnh (fun h3 => ?_)
        refine ro_aload_n (pc := 44) 0 dX8_add_44 rfl rfl ?_
        refine ro_dup (pc := 45) dX8_add_45 rfl ?_
        refine gf_X8_3 (pc := 46) wd_296 dX8_add_46 ?_
        refine ro_iconst (v := 1) (pc := 49) dX8_add_49 (by decide) ?_
        refine ro_iadd (pc := 50) dX8_add_50 ?_
        refine pf_X8_3 (pc := 51) wd_296 dX8_add_51 ?_
        refine ro_bnh (fun h4 => ?_)
        refine ro_aload_n (pc := 54) 0 dX8_add_54 rfl rfl ?_
        refine gf_X8_3 (pc := 55) wd_296 dX8_add_55 ?_
        exact ro_iret (pc := 58) rfl rfl dX8_add_58
      · skip
        refine ro_iconst (v := (-1)) (pc := 22) dX8_add_22 (by decide) ?_
        exact ro_iret (pc := 23) rfl rfl dX8_add_23
theorem c_Sig_add (X : mu_X) (N : Nat) (h : mu_H) (a1 : Int32) (a2 : Int32) : ∀ r, f_Sig_add N h a1 a2 = some r → mI X m_Sig_add 3 [.ref (xa X 39), .int a1, .int a2] h r.1 r.2 := fun r hr => mI_of (by decide) rfl (Nat.le_of_ble_eq_true rfl) rfl (cb_Sig_add X N h a1 a2 r hr)
set_option maxRecDepth 20000 in
theorem cb_Sig_fits (X : mu_X) (N : Nat) (h : mu_H) (a1 : Int32) (a2 : Int32) : aG X m_Sig_fits (rmk 2) (fun _ => ax X) (fun _ _ _ => True) 0 0 (fun r : Int32 => qI X r h) (f_Sig_fits N h a1 a2) 0 [(0, .ref (xa X 39)), (1, .int a1), (2, .int a2)] [] h := by
  unfold f_Sig_fits
  refine ro_iload_n (pc := 0) 1 dX8_fits_0 rfl rfl ?_
  refine ro_csP (pc := 1) (kc := 1) (avs := [.int a1]) (st := []) ok_Int_bitCount wd_1084 ⟨by decide, by decide⟩ ⟨Nat.zero_le _, Nat.zero_le _⟩ (c_Int_bitCount X N h a1) rfl rfl (Nat.le_of_ble_eq_true rfl) dX8_fits_1 (fun x1 => ?_)
  refine ro_iload_n (pc := 4) 2 dX8_fits_4 rfl rfl ?_
  refine ro_icmp_eq (tgt := 10) (pc := 5) dX8_fits_5 (by decide) (fun _ => ?_) (fun _ => ?_)
  · skip
    refine ro_iconst (v := 0) (pc := 10) dX8_fits_10 (by decide) ?_
    refine ro_istore_n (pc := 11) (lv' := [(3, .int 0), (0, .ref (xa X 39)), (1, .int a1), (2, .int a2)]) dX8_fits_11 rfl (by decide) rfl ?_
    refine ro_lv [1, 2, 0] rfl ?_
    refine ro_lp (pc := 12) (lvs := fun (s : Int32) => [(0, .ref (xa X 39)), (1, .int a1), (3, .int s)]) (hs := fun (s : Int32) => h) (fun rec2 hrec2 x3 => ?_) N 0
    unfold f_Sig_fits_L12; try dsimp only
    refine ro_iload_n (pc := 12) 2 dX8_fits_12 rfl rfl ?_
    refine ro_aload_n (pc := 13) 0 dX8_fits_13 rfl rfl ?_
    refine gf_X8_3 (pc := 14) wd_296 dX8_fits_14 ?_
    refine ro_icmp_ge (tgt := 59) (pc := 17) dX8_fits_17 (by decide) (fun _ => ?_) (fun _ => ?_)
    · skip
      refine ro_iconst (v := 1) (pc := 59) dX8_fits_59 (by decide) ?_
      exact ro_zret (pc := 60) rfl rfl rfl dX8_fits_60
    · skip
      refine ro_aload_n (pc := 20) 0 dX8_fits_20 rfl rfl ?_
      refine gf_X8_1 (pc := 21) wd_294 dX8_fits_21 ?_
      refine ro_iload_n (pc := 24) 2 dX8_fits_24 rfl rfl ?_
      refine ro_iald (pc := 25) (n := 10) cl_40 cv_40 dX8_fits_25 ?_
      refine ro_iload_n (pc := 26) 1 dX8_fits_26 rfl rfl ?_
      refine ro_iconst (v := (-1)) (pc := 27) dX8_fits_27 (by decide) ?_
      refine ro_ixor (pc := 28) dX8_fits_28 ?_
      refine ro_iand (pc := 29) dX8_fits_29 ?_
      refine ro_jn (pcj := 38) (lvs := fun (s : Int32) => [(0, .ref (xa X 39)), (1, .int a1), (3, .int x3)]) (hs := fun (s : Int32) => h) (sts := fun (s : Int32) => [.int s]) (fun x5 => ?_) (fun j4 hj4 => ?_)
      · try dsimp only
        refine ro_istore (pc := 38) (lv' := [(4, .int x5), (0, .ref (xa X 39)), (1, .int a1), (3, .int x3)]) dX8_fits_38 (by decide) rfl ?_
        refine ro_iload (pc := 40) 0 dX8_fits_40 rfl ?_
        refine ro_aload_n (pc := 42) 1 dX8_fits_42 rfl rfl ?_
        refine gf_X8_2 (pc := 43) wd_295 dX8_fits_43 ?_
        refine ro_iload_n (pc := 46) 3 dX8_fits_46 rfl rfl ?_
        refine ro_zald (pc := 47) (n := 10) cl_41 cv_41 dX8_fits_47 ?_
        refine ro_icmp_eq (tgt := 53) (pc := 48) dX8_fits_48 (by decide) (fun _ => ?_) (fun _ => ?_)
        · skip
          refine ro_iinc (pc := 53) (v := x3 + 1) (lv' := [(3, .int (x3 + 1)), (4, .int x5), (0, .ref (xa X 39)), (1, .int a1)]) 3 dX8_fits_53 rfl rfl (by decide) rfl ?_
          refine ro_goto (tgt := 12) (pc := 56) dX8_fits_56 (by decide) ?_
          refine ro_lv [2, 3, 0] rfl ?_
          exact hrec2 (x3 + 1)
        · skip
          refine ro_iconst (v := 0) (pc := 51) dX8_fits_51 (by decide) ?_
          exact ro_zret (pc := 52) rfl rfl rfl dX8_fits_52
      · skip
        refine ro_if_eq (tgt := 37) (pc := 30) dX8_fits_30 (by decide) (fun _ => ?_) (fun _ => ?_)
        · skip
          refine ro_iconst (v := 0) (pc := 37) dX8_fits_37 (by decide) ?_
          exact hj4 0
        · skip
          refine ro_iconst (v := 1) (pc := 33) dX8_fits_33 (by decide) ?_
          refine ro_goto (tgt := 38) (pc := 34) dX8_fits_34 (by decide) ?_
          exact hj4 1
  · skip
    refine ro_iconst (v := 0) (pc := 8) dX8_fits_8 (by decide) ?_
    exact ro_zret (pc := 9) rfl rfl rfl dX8_fits_9
theorem c_Sig_fits (X : mu_X) (N : Nat) (h : mu_H) (a1 : Int32) (a2 : Int32) : ∀ r, f_Sig_fits N h a1 a2 = some r → mI X m_Sig_fits 2 [.ref (xa X 39), .int a1, .int a2] h r h := fun r hr => mI_of (by decide) rfl (Nat.le_of_ble_eq_true rfl) rfl (cb_Sig_fits X N h a1 a2 r hr)
set_option maxRecDepth 20000 in
theorem cb_Sig_apart (X : mu_X) (N : Nat) (h : mu_H) (a1 : Int32) (a2 : Int32) (a3 : Int32) : aG X m_Sig_apart (rmk 3) (fun _ => ax X) (fun _ _ _ => True) 0 0 (fun r : Int32 => qI X r h) (f_Sig_apart N h a1 a2 a3) 0 [(0, .ref (xa X 39)), (1, .int a1), (2, .int a2), (3, .int a3)] [] h := by
  unfold f_Sig_apart
  refine ro_iconst (v := 0) (pc := 0) dX8_apart_0 (by decide) ?_
  refine ro_istore (pc := 1) (lv' := [(4, .int 0), (0, .ref (xa X 39)), (1, .int a1), (2, .int a2), (3, .int a3)]) dX8_apart_1 (by decide) rfl ?_
  refine ro_iconst (v := 0) (pc := 3) dX8_apart_3 (by decide) ?_
  refine ro_istore (pc := 4) (lv' := [(5, .int 0), (4, .int 0), (0, .ref (xa X 39)), (1, .int a1), (2, .int a2), (3, .int a3)]) dX8_apart_4 (by decide) rfl ?_
  refine ro_jn (pcj := 43) (lvs := fun (s : Int32) => [(3, .int a3), (4, .int s)]) (hs := fun (s : Int32) => h) (sts := fun (s : Int32) => []) (fun x2 => ?_) (fun k1 hk1 => ?_)
  · try dsimp only
    refine ro_iload_n (pc := 43) 0 dX8_apart_43 rfl rfl ?_
    refine ro_iconst (v := 2) (pc := 44) dX8_apart_44 (by decide) ?_
    refine ro_iload (pc := 45) 1 dX8_apart_45 rfl ?_
    refine ro_imul (pc := 47) dX8_apart_47 ?_
    refine ro_isub (pc := 48) dX8_apart_48 ?_
    refine ro_mabs (pc := 49) (st := []) wd_1115 (by decide) (Nat.le_of_ble_eq_true rfl) ⟨Nat.zero_le _, Nat.zero_le _⟩ dX8_apart_49 ?_
    exact ro_iret (pc := 52) rfl rfl dX8_apart_52
  · skip
    refine ro_lv [2, 3, 4, 5, 1, 0] rfl ?_
    refine ro_lp (pc := 6) (lvs := fun (s : Int32 × Int32) => [(0, .ref (xa X 39)), (1, .int a1), (2, .int a2), (3, .int a3), (4, .int s.1), (5, .int s.2)]) (hs := fun (s : Int32 × Int32) => h) (fun rec3 hrec3 s => ?_) N (0, 0)
    obtain ⟨x4, x5⟩ := s; unfold f_Sig_apart_L6; try dsimp only
    refine ro_iload (pc := 6) 5 dX8_apart_6 rfl ?_
    refine ro_aload_n (pc := 8) 0 dX8_apart_8 rfl rfl ?_
    refine ro_cvP (pc := 9) (kc := 2) (avs := []) (st := [.int x5]) ok_Sig_allSets wd_1062 cl_39 cv_39 rfl ⟨by decide, by decide⟩ ⟨Nat.zero_le _, Nat.zero_le _⟩ (c_Sig_allSets X N h) rfl rfl (Nat.le_of_ble_eq_true rfl) dX8_apart_9 (fun x6 => ?_)
    refine ro_icmp_ge (tgt := 43) (pc := 12) dX8_apart_12 (by decide) (fun _ => ?_) (fun _ => ?_)
    · skip
      refine ro_lv [3, 4] rfl ?_
      exact hk1 x4
    · skip
      refine ro_iload (pc := 15) 5 dX8_apart_15 rfl ?_
      refine ro_iload_n (pc := 17) 1 dX8_apart_17 rfl rfl ?_
      refine ro_ishr (pc := 18) dX8_apart_18 ?_
      refine ro_iconst (v := 1) (pc := 19) dX8_apart_19 (by decide) ?_
      refine ro_iand (pc := 20) dX8_apart_20 ?_
      refine ro_jn (pcj := 37) (lvs := fun (s : Int32) => [(0, .ref (xa X 39)), (1, .int a1), (2, .int a2), (3, .int a3), (4, .int s), (5, .int x5)]) (hs := fun (s : Int32) => h) (sts := fun (s : Int32) => []) (fun x8 => ?_) (fun j7 hj7 => ?_)
      · try dsimp only
        refine ro_iinc (pc := 37) (v := x5 + 1) (lv' := [(5, .int (x5 + 1)), (0, .ref (xa X 39)), (1, .int a1), (2, .int a2), (3, .int a3), (4, .int x8)]) 5 dX8_apart_37 rfl rfl (by decide) rfl ?_
        refine ro_goto (tgt := 6) (pc := 40) dX8_apart_40 (by decide) ?_
        refine ro_lv [1, 2, 3, 4, 5, 0] rfl ?_
        exact hrec3 (x8, x5 + 1)
      · skip
        refine ro_if_eq (tgt := 37) (pc := 21) dX8_apart_21 (by decide) (fun _ => ?_) (fun _ => ?_)
        · skip
          exact hj7 x4
        · skip
          refine ro_aload_n (pc := 24) 0 dX8_apart_24 rfl rfl ?_
          refine ro_iload (pc := 25) 5 dX8_apart_25 rfl ?_
          refine ro_iload_n (pc := 27) 2 dX8_apart_27 rfl rfl ?_
          refine ro_cvP (pc := 28) (kc := 2) (avs := [.int x5, .int a2]) (st := []) ok_Sig_fits wd_1080 cl_39 cv_39 rfl ⟨by decide, by decide⟩ ⟨Nat.zero_le _, Nat.zero_le _⟩ (c_Sig_fits X N h x5 a2) rfl rfl (Nat.le_of_ble_eq_true rfl) dX8_apart_28 (fun x9 => ?_)
          refine ro_if_eq (tgt := 37) (pc := 31) dX8_apart_31 (by decide) (fun _ => ?_) (fun _ => ?_)
          · skip
            exact hj7 x4
          · skip
            refine ro_iinc (pc := 34) (v := x4 + 1) (lv' := [(4, .int (x4 + 1)), (0, .ref (xa X 39)), (1, .int a1), (2, .int a2), (3, .int a3), (5, .int x5)]) 4 dX8_apart_34 rfl rfl (by decide) rfl ?_
            refine ro_lv [1, 2, 3, 4, 0, 5] rfl ?_
            exact hj7 (x4 + 1)
theorem c_Sig_apart (X : mu_X) (N : Nat) (h : mu_H) (a1 : Int32) (a2 : Int32) (a3 : Int32) : ∀ r, f_Sig_apart N h a1 a2 a3 = some r → mI X m_Sig_apart 3 [.ref (xa X 39), .int a1, .int a2, .int a3] h r h := fun r hr => mI_of (by decide) rfl (Nat.le_of_ble_eq_true rfl) rfl (cb_Sig_apart X N h a1 a2 a3 r hr)
set_option maxRecDepth 20000 in
theorem cb_Sig_canAsk (X : mu_X) (N : Nat) (h : mu_H) (a1 : Int32) : aG X m_Sig_canAsk (rmk 2) (fun _ => ax X) (fun _ _ _ => True) 0 0 (fun r : Int32 => qI X r h) (f_Sig_canAsk N h a1) 0 [(0, .ref (xa X 39)), (1, .int a1)] [] h := by
  unfold f_Sig_canAsk
  refine ro_aload_n (pc := 0) 0 dX8_canAsk_0 rfl rfl ?_
  refine gf_X8_0 (pc := 1) wd_293 dX8_canAsk_1 ?_
  refine ro_cvP (pc := 4) (kc := 1) (avs := []) (st := []) ok_Par_isNone wd_1075 cl_3 cv_3 rfl ⟨by decide, by decide⟩ ⟨Nat.zero_le _, Nat.zero_le _⟩ (c_Par_isNone X N h 3 isP_i3) rfl rfl (Nat.le_of_ble_eq_true rfl) dX8_canAsk_4 (fun x1 => ?_)
  refine ro_if_ne (tgt := 23) (pc := 7) dX8_canAsk_7 (by decide) (fun _ => ?_) (fun _ => ?_)
  · skip
    refine ro_iconst (v := 0) (pc := 23) dX8_canAsk_23 (by decide) ?_
    exact ro_zret (pc := 24) rfl rfl rfl dX8_canAsk_24
  · skip
    refine ro_iload_n (pc := 10) 1 dX8_canAsk_10 rfl rfl ?_
    refine ro_if_lt (tgt := 23) (pc := 11) dX8_canAsk_11 (by decide) (fun _ => ?_) (fun _ => ?_)
    · skip
      refine ro_iconst (v := 0) (pc := 23) dX8_canAsk_23 (by decide) ?_
      exact ro_zret (pc := 24) rfl rfl rfl dX8_canAsk_24
    · skip
      refine ro_iload_n (pc := 14) 1 dX8_canAsk_14 rfl rfl ?_
      refine ro_iconst (v := 3) (pc := 15) dX8_canAsk_15 (by decide) ?_
      refine ro_icmp_gt (tgt := 23) (pc := 16) dX8_canAsk_16 (by decide) (fun _ => ?_) (fun _ => ?_)
      · skip
        refine ro_iconst (v := 0) (pc := 23) dX8_canAsk_23 (by decide) ?_
        exact ro_zret (pc := 24) rfl rfl rfl dX8_canAsk_24
      · skip
        refine ro_iconst (v := 1) (pc := 19) dX8_canAsk_19 (by decide) ?_
        refine ro_goto (tgt := 24) (pc := 20) dX8_canAsk_20 (by decide) ?_
        exact ro_zret (pc := 24) rfl rfl rfl dX8_canAsk_24
theorem c_Sig_canAsk (X : mu_X) (N : Nat) (h : mu_H) (a1 : Int32) : ∀ r, f_Sig_canAsk N h a1 = some r → mI X m_Sig_canAsk 2 [.ref (xa X 39), .int a1] h r h := fun r hr => mI_of (by decide) rfl (Nat.le_of_ble_eq_true rfl) rfl (cb_Sig_canAsk X N h a1 r hr)
set_option maxRecDepth 20000 in
theorem cb_Sig_fitting (X : mu_X) (N : Nat) (h : mu_H) (a1 : Int32) : aG X m_Sig_fitting (rmk 3) (fun _ => ax X) (fun _ _ _ => True) 0 0 (fun r : Int32 => qI X r h) (f_Sig_fitting N h a1) 0 [(0, .ref (xa X 39)), (1, .int a1)] [] h := by
  unfold f_Sig_fitting
  refine ro_iconst (v := 0) (pc := 0) dX8_fitting_0 (by decide) ?_
  refine ro_istore_n (pc := 1) (lv' := [(2, .int 0), (0, .ref (xa X 39)), (1, .int a1)]) dX8_fitting_1 rfl (by decide) rfl ?_
  refine ro_iconst (v := 0) (pc := 2) dX8_fitting_2 (by decide) ?_
  refine ro_istore_n (pc := 3) (lv' := [(3, .int 0), (2, .int 0), (0, .ref (xa X 39)), (1, .int a1)]) dX8_fitting_3 rfl (by decide) rfl ?_
  refine ro_lv [2, 3, 1, 0] rfl ?_
  refine ro_lp (pc := 4) (lvs := fun (s : Int32 × Int32) => [(0, .ref (xa X 39)), (1, .int a1), (2, .int s.1), (3, .int s.2)]) (hs := fun (s : Int32 × Int32) => h) (fun rec1 hrec1 s => ?_) N (0, 0)
  obtain ⟨x2, x3⟩ := s; unfold f_Sig_fitting_L4; try dsimp only
  refine ro_iload_n (pc := 4) 3 dX8_fitting_4 rfl rfl ?_
  refine ro_aload_n (pc := 5) 0 dX8_fitting_5 rfl rfl ?_
  refine ro_cvP (pc := 6) (kc := 2) (avs := []) (st := [.int x3]) ok_Sig_allSets wd_1062 cl_39 cv_39 rfl ⟨by decide, by decide⟩ ⟨Nat.zero_le _, Nat.zero_le _⟩ (c_Sig_allSets X N h) rfl rfl (Nat.le_of_ble_eq_true rfl) dX8_fitting_6 (fun x4 => ?_)
  refine ro_icmp_ge (tgt := 30) (pc := 9) dX8_fitting_9 (by decide) (fun _ => ?_) (fun _ => ?_)
  · skip
    refine ro_iload_n (pc := 30) 2 dX8_fitting_30 rfl rfl ?_
    exact ro_iret (pc := 31) rfl rfl dX8_fitting_31
  · skip
    refine ro_aload_n (pc := 12) 0 dX8_fitting_12 rfl rfl ?_
    refine ro_iload_n (pc := 13) 3 dX8_fitting_13 rfl rfl ?_
    refine ro_iload_n (pc := 14) 1 dX8_fitting_14 rfl rfl ?_
    refine ro_cvP (pc := 15) (kc := 2) (avs := [.int x3, .int a1]) (st := []) ok_Sig_fits wd_1080 cl_39 cv_39 rfl ⟨by decide, by decide⟩ ⟨Nat.zero_le _, Nat.zero_le _⟩ (c_Sig_fits X N h x3 a1) rfl rfl (Nat.le_of_ble_eq_true rfl) dX8_fitting_15 (fun x5 => ?_)
    refine ro_jn (pcj := 24) (lvs := fun (s : Int32) => [(0, .ref (xa X 39)), (1, .int a1), (2, .int s), (3, .int x3)]) (hs := fun (s : Int32) => h) (sts := fun (s : Int32) => []) (fun x7 => ?_) (fun j6 hj6 => ?_)
    · try dsimp only
      refine ro_iinc (pc := 24) (v := x3 + 1) (lv' := [(3, .int (x3 + 1)), (0, .ref (xa X 39)), (1, .int a1), (2, .int x7)]) 3 dX8_fitting_24 rfl rfl (by decide) rfl ?_
      refine ro_goto (tgt := 4) (pc := 27) dX8_fitting_27 (by decide) ?_
      refine ro_lv [1, 2, 3, 0] rfl ?_
      exact hrec1 (x7, x3 + 1)
    · skip
      refine ro_if_eq (tgt := 24) (pc := 18) dX8_fitting_18 (by decide) (fun _ => ?_) (fun _ => ?_)
      · skip
        exact hj6 x2
      · skip
        refine ro_iinc (pc := 21) (v := x2 + 1) (lv' := [(2, .int (x2 + 1)), (0, .ref (xa X 39)), (1, .int a1), (3, .int x3)]) 2 dX8_fitting_21 rfl rfl (by decide) rfl ?_
        refine ro_lv [1, 2, 0, 3] rfl ?_
        exact hj6 (x2 + 1)
theorem c_Sig_fitting (X : mu_X) (N : Nat) (h : mu_H) (a1 : Int32) : ∀ r, f_Sig_fitting N h a1 = some r → mI X m_Sig_fitting 3 [.ref (xa X 39), .int a1] h r h := fun r hr => mI_of (by decide) rfl (Nat.le_of_ble_eq_true rfl) rfl (cb_Sig_fitting X N h a1 r hr)
set_option maxRecDepth 20000 in
theorem cb_Sig_fittingAt (X : mu_X) (N : Nat) (h : mu_H) (a1 : Int32) (a2 : Int32) : aG X m_Sig_fittingAt (rmk 3) (fun _ => ax X) (fun _ _ _ => True) 0 0 (fun r : Int32 => qI X r h) (f_Sig_fittingAt N h a1 a2) 0 [(0, .ref (xa X 39)), (1, .int a1), (2, .int a2)] [] h := by
  unfold f_Sig_fittingAt
  refine ro_iload_n (pc := 0) 2 dX8_fittingAt_0 rfl rfl ?_
  refine ro_istore_n (pc := 1) (lv' := [(3, .int a2), (0, .ref (xa X 39)), (1, .int a1), (2, .int a2)]) dX8_fittingAt_1 rfl (by decide) rfl ?_
  refine ro_iconst (v := 0) (pc := 2) dX8_fittingAt_2 (by decide) ?_
  refine ro_istore (pc := 3) (lv' := [(4, .int 0), (3, .int a2), (0, .ref (xa X 39)), (1, .int a1), (2, .int a2)]) dX8_fittingAt_3 (by decide) rfl ?_
  refine ro_lv [2, 3, 1, 0] rfl ?_
  refine ro_lp (pc := 5) (lvs := fun (s : Int32 × Int32) => [(0, .ref (xa X 39)), (1, .int a1), (3, .int s.1), (4, .int s.2)]) (hs := fun (s : Int32 × Int32) => h) (fun rec1 hrec1 s => ?_) N (a2, 0)
  obtain ⟨x2, x3⟩ := s; unfold f_Sig_fittingAt_L5; try dsimp only
  refine ro_iload (pc := 5) 3 dX8_fittingAt_5 rfl ?_
  refine ro_aload_n (pc := 7) 0 dX8_fittingAt_7 rfl rfl ?_
  refine ro_cvP (pc := 8) (kc := 2) (avs := []) (st := [.int x3]) ok_Sig_allSets wd_1062 cl_39 cv_39 rfl ⟨by decide, by decide⟩ ⟨Nat.zero_le _, Nat.zero_le _⟩ (c_Sig_allSets X N h) rfl rfl (Nat.le_of_ble_eq_true rfl) dX8_fittingAt_8 (fun x4 => ?_)
  refine ro_icmp_ge (tgt := 40) (pc := 11) dX8_fittingAt_11 (by decide) (fun _ => ?_) (fun _ => ?_)
  · skip
    refine ro_iconst (v := (-1)) (pc := 40) dX8_fittingAt_40 (by decide) ?_
    exact ro_iret (pc := 41) rfl rfl dX8_fittingAt_41
  · skip
    refine ro_aload_n (pc := 14) 0 dX8_fittingAt_14 rfl rfl ?_
    refine ro_iload (pc := 15) 3 dX8_fittingAt_15 rfl ?_
    refine ro_iload_n (pc := 17) 1 dX8_fittingAt_17 rfl rfl ?_
    refine ro_cvP (pc := 18) (kc := 2) (avs := [.int x3, .int a1]) (st := []) ok_Sig_fits wd_1080 cl_39 cv_39 rfl ⟨by decide, by decide⟩ ⟨Nat.zero_le _, Nat.zero_le _⟩ (c_Sig_fits X N h x3 a1) rfl rfl (Nat.le_of_ble_eq_true rfl) dX8_fittingAt_18 (fun x5 => ?_)
    refine ro_jn (pcj := 34) (lvs := fun (s : Int32) => [(0, .ref (xa X 39)), (1, .int a1), (3, .int s), (4, .int x3)]) (hs := fun (s : Int32) => h) (sts := fun (s : Int32) => []) (fun x7 => ?_) (fun j6 hj6 => ?_)
    · try dsimp only
      refine ro_iinc (pc := 34) (v := x3 + 1) (lv' := [(4, .int (x3 + 1)), (0, .ref (xa X 39)), (1, .int a1), (3, .int x7)]) 3 dX8_fittingAt_34 rfl rfl (by decide) rfl ?_
      refine ro_goto (tgt := 5) (pc := 37) dX8_fittingAt_37 (by decide) ?_
      refine ro_lv [1, 2, 3, 0] rfl ?_
      exact hrec1 (x7, x3 + 1)
    · skip
      refine ro_if_eq (tgt := 34) (pc := 21) dX8_fittingAt_21 (by decide) (fun _ => ?_) (fun _ => ?_)
      · skip
        exact hj6 x2
      · skip
        refine ro_iload_n (pc := 24) 2 dX8_fittingAt_24 rfl rfl ?_
        refine ro_if_ne (tgt := 31) (pc := 25) dX8_fittingAt_25 (by decide) (fun _ => ?_) (fun _ => ?_)
        · skip
          refine ro_iinc (pc := 31) (v := x2 + (-1)) (lv' := [(3, .int (x2 + (-1))), (0, .ref (xa X 39)), (1, .int a1), (4, .int x3)]) 2 dX8_fittingAt_31 rfl rfl (by decide) rfl ?_
          refine ro_lv [1, 2, 0, 3] rfl ?_
          exact hj6 (x2 + (-1))
        · skip
          refine ro_iload (pc := 28) 3 dX8_fittingAt_28 rfl ?_
          exact ro_iret (pc := 30) rfl rfl dX8_fittingAt_30
theorem c_Sig_fittingAt (X : mu_X) (N : Nat) (h : mu_H) (a1 : Int32) (a2 : Int32) : ∀ r, f_Sig_fittingAt N h a1 a2 = some r → mI X m_Sig_fittingAt 3 [.ref (xa X 39), .int a1, .int a2] h r h := fun r hr => mI_of (by decide) rfl (Nat.le_of_ble_eq_true rfl) rfl (cb_Sig_fittingAt X N h a1 a2 r hr)
set_option maxRecDepth 20000 in
theorem cb_Sig_forget (X : mu_X) (N : Nat) (h : mu_H) : aG X m_Sig_forget (rmk 1) (fun _ => ax X) (fun _ _ _ => True) 0 0 (fun r : mu_H => qV X r) (f_Sig_forget N h) 0 [(0, .ref (xa X 39))] [] h := by
  unfold f_Sig_forget
  refine ro_aload_n (pc := 0) 0 dX8_forget_0 rfl rfl ?_
  refine ro_iconst (v := 0) (pc := 1) dX8_forget_1 (by decide) ?_
  refine pf_X8_3 (pc := 2) wd_296 dX8_forget_2 ?_
  refine ro_bnh (fun h1 => ?_)
  exact ro_vret (pc := 5) rfl rfl dX8_forget_5
theorem c_Sig_forget (X : mu_X) (N : Nat) (h : mu_H) : ∀ r, f_Sig_forget N h = some r → mV X m_Sig_forget 1 [.ref (xa X 39)] h r := fun r hr => mV_of (by decide) rfl (Nat.le_of_ble_eq_true rfl) rfl (cb_Sig_forget X N h r hr)
set_option maxRecDepth 20000 in
theorem cb_Sig_inNone (X : mu_X) (N : Nat) (h : mu_H) (a1 : Int32) : aG X m_Sig_inNone (rmk 3) (fun _ => ax X) (fun _ _ _ => True) 0 0 (fun r : Int32 => qI X r h) (f_Sig_inNone N h a1) 0 [(0, .ref (xa X 39)), (1, .int a1)] [] h := by
  unfold f_Sig_inNone
  refine ro_iconst (v := 0) (pc := 0) dX8_inNone_0 (by decide) ?_
  refine ro_istore_n (pc := 1) (lv' := [(2, .int 0), (0, .ref (xa X 39)), (1, .int a1)]) dX8_inNone_1 rfl (by decide) rfl ?_
  refine ro_iconst (v := 0) (pc := 2) dX8_inNone_2 (by decide) ?_
  refine ro_istore_n (pc := 3) (lv' := [(3, .int 0), (2, .int 0), (0, .ref (xa X 39)), (1, .int a1)]) dX8_inNone_3 rfl (by decide) rfl ?_
  refine ro_jn (pcj := 31) (lvs := fun (s : Int32) => [(0, .ref (xa X 39)), (2, .int s)]) (hs := fun (s : Int32) => h) (sts := fun (s : Int32) => []) (fun x2 => ?_) (fun k1 hk1 => ?_)
  · try dsimp only
    refine ro_aload_n (pc := 31) 0 dX8_inNone_31 rfl rfl ?_
    refine ro_cvP (pc := 32) (kc := 2) (avs := []) (st := []) ok_Sig_allSets wd_1062 cl_39 cv_39 rfl ⟨by decide, by decide⟩ ⟨Nat.zero_le _, Nat.zero_le _⟩ (c_Sig_allSets X N h) rfl rfl (Nat.le_of_ble_eq_true rfl) dX8_inNone_32 (fun x3 => ?_)
    refine ro_iconst (v := 1) (pc := 35) dX8_inNone_35 (by decide) ?_
    refine ro_isub (pc := 36) dX8_inNone_36 ?_
    refine ro_iload_n (pc := 37) 1 dX8_inNone_37 rfl rfl ?_
    refine ro_iconst (v := (-1)) (pc := 38) dX8_inNone_38 (by decide) ?_
    refine ro_ixor (pc := 39) dX8_inNone_39 ?_
    refine ro_iand (pc := 40) dX8_inNone_40 ?_
    exact ro_iret (pc := 41) rfl rfl dX8_inNone_41
  · skip
    refine ro_lv [2, 3, 1, 0] rfl ?_
    refine ro_lp (pc := 4) (lvs := fun (s : Int32 × Int32) => [(0, .ref (xa X 39)), (1, .int a1), (2, .int s.1), (3, .int s.2)]) (hs := fun (s : Int32 × Int32) => h) (fun rec4 hrec4 s => ?_) N (0, 0)
    obtain ⟨x5, x6⟩ := s; unfold f_Sig_inNone_L4; try dsimp only
    refine ro_iload_n (pc := 4) 3 dX8_inNone_4 rfl rfl ?_
    refine ro_aload_n (pc := 5) 0 dX8_inNone_5 rfl rfl ?_
    refine ro_cvP (pc := 6) (kc := 2) (avs := []) (st := [.int x6]) ok_Sig_allSets wd_1062 cl_39 cv_39 rfl ⟨by decide, by decide⟩ ⟨Nat.zero_le _, Nat.zero_le _⟩ (c_Sig_allSets X N h) rfl rfl (Nat.le_of_ble_eq_true rfl) dX8_inNone_6 (fun x7 => ?_)
    refine ro_icmp_ge (tgt := 31) (pc := 9) dX8_inNone_9 (by decide) (fun _ => ?_) (fun _ => ?_)
    · skip
      refine ro_lv [0, 2] rfl ?_
      exact hk1 x5
    · skip
      refine ro_aload_n (pc := 12) 0 dX8_inNone_12 rfl rfl ?_
      refine ro_iload_n (pc := 13) 3 dX8_inNone_13 rfl rfl ?_
      refine ro_iload_n (pc := 14) 1 dX8_inNone_14 rfl rfl ?_
      refine ro_cvP (pc := 15) (kc := 2) (avs := [.int x6, .int a1]) (st := []) ok_Sig_fits wd_1080 cl_39 cv_39 rfl ⟨by decide, by decide⟩ ⟨Nat.zero_le _, Nat.zero_le _⟩ (c_Sig_fits X N h x6 a1) rfl rfl (Nat.le_of_ble_eq_true rfl) dX8_inNone_15 (fun x8 => ?_)
      refine ro_jn (pcj := 25) (lvs := fun (s : Int32) => [(0, .ref (xa X 39)), (1, .int a1), (2, .int s), (3, .int x6)]) (hs := fun (s : Int32) => h) (sts := fun (s : Int32) => []) (fun x10 => ?_) (fun j9 hj9 => ?_)
      · try dsimp only
        refine ro_iinc (pc := 25) (v := x6 + 1) (lv' := [(3, .int (x6 + 1)), (0, .ref (xa X 39)), (1, .int a1), (2, .int x10)]) 3 dX8_inNone_25 rfl rfl (by decide) rfl ?_
        refine ro_goto (tgt := 4) (pc := 28) dX8_inNone_28 (by decide) ?_
        refine ro_lv [1, 2, 3, 0] rfl ?_
        exact hrec4 (x10, x6 + 1)
      · skip
        refine ro_if_eq (tgt := 25) (pc := 18) dX8_inNone_18 (by decide) (fun _ => ?_) (fun _ => ?_)
        · skip
          exact hj9 x5
        · skip
          refine ro_iload_n (pc := 21) 2 dX8_inNone_21 rfl rfl ?_
          refine ro_iload_n (pc := 22) 3 dX8_inNone_22 rfl rfl ?_
          refine ro_ior (pc := 23) dX8_inNone_23 ?_
          refine ro_bn (fun x11 => ?_)
          refine ro_istore_n (pc := 24) (lv' := [(2, .int x11), (0, .ref (xa X 39)), (1, .int a1), (3, .int x6)]) dX8_inNone_24 rfl (by decide) rfl ?_
          refine ro_lv [1, 2, 0, 3] rfl ?_
          exact hj9 x11
theorem c_Sig_inNone (X : mu_X) (N : Nat) (h : mu_H) (a1 : Int32) : ∀ r, f_Sig_inNone N h a1 = some r → mI X m_Sig_inNone 3 [.ref (xa X 39), .int a1] h r h := fun r hr => mI_of (by decide) rfl (Nat.le_of_ble_eq_true rfl) rfl (cb_Sig_inNone X N h a1 r hr)
set_option maxRecDepth 20000 in
theorem cb_Sig_size (X : mu_X) (N : Nat) (h : mu_H) : aG X m_Sig_size (rmk 1) (fun _ => ax X) (fun _ _ _ => True) 0 0 (fun r : Int32 => qI X r h) (f_Sig_size N h) 0 [(0, .ref (xa X 39))] [] h := by
  unfold f_Sig_size
  refine ro_aload_n (pc := 0) 0 dX8_size_0 rfl rfl ?_
  refine gf_X8_3 (pc := 1) wd_296 dX8_size_1 ?_
  exact ro_iret (pc := 4) rfl rfl dX8_size_4
theorem c_Sig_size (X : mu_X) (N : Nat) (h : mu_H) : ∀ r, f_Sig_size N h = some r → mI X m_Sig_size 1 [.ref (xa X 39)] h r h := fun r hr => mI_of (by decide) rfl (Nat.le_of_ble_eq_true rfl) rfl (cb_Sig_size X N h r hr)
set_option maxRecDepth 20000 in
theorem cb_Sig_toWatch (X : mu_X) (N : Nat) (h : mu_H) (a1 : Int32) : aG X m_Sig_toWatch (rmk 4) (fun _ => ax X) (fun _ _ _ => True) 0 0 (fun r : Int32 => qI X r h) (f_Sig_toWatch N h a1) 0 [(0, .ref (xa X 39)), (1, .int a1)] [] h := by
  unfold f_Sig_toWatch
  refine ro_aload_n (pc := 0) 0 dX8_toWatch_0 rfl rfl ?_
  refine ro_iload_n (pc := 1) 1 dX8_toWatch_1 rfl rfl ?_
  refine ro_cvP (pc := 2) (kc := 3) (avs := [.int a1]) (st := []) ok_Sig_fitting wd_1110 cl_39 cv_39 rfl ⟨by decide, by decide⟩ ⟨Nat.zero_le _, Nat.zero_le _⟩ (c_Sig_fitting X N h a1) rfl rfl (Nat.le_of_ble_eq_true rfl) dX8_toWatch_2 (fun x1 => ?_)
  refine ro_istore_n (pc := 5) (lv' := [(2, .int x1), (0, .ref (xa X 39)), (1, .int a1)]) dX8_toWatch_5 rfl (by decide) rfl ?_
  refine ro_iconst (v := 0) (pc := 6) dX8_toWatch_6 (by decide) ?_
  refine ro_istore_n (pc := 7) (lv' := [(3, .int 0), (2, .int x1), (0, .ref (xa X 39)), (1, .int a1)]) dX8_toWatch_7 rfl (by decide) rfl ?_
  refine ro_iconst (v := 1) (pc := 8) dX8_toWatch_8 (by decide) ?_
  refine ro_istore (pc := 9) (lv' := [(4, .int 1), (3, .int 0), (2, .int x1), (0, .ref (xa X 39)), (1, .int a1)]) dX8_toWatch_9 (by decide) rfl ?_
  refine ro_lv [3, 4, 2, 1, 0] rfl ?_
  refine ro_lp (pc := 11) (lvs := fun (s : Int32 × Int32) => [(0, .ref (xa X 39)), (1, .int a1), (2, .int x1), (3, .int s.1), (4, .int s.2)]) (hs := fun (s : Int32 × Int32) => h) (fun rec2 hrec2 s => ?_) N (0, 1)
  obtain ⟨x3, x4⟩ := s; unfold f_Sig_toWatch_L11; try dsimp only
  refine ro_iload (pc := 11) 4 dX8_toWatch_11 rfl ?_
  refine ro_aload_n (pc := 13) 0 dX8_toWatch_13 rfl rfl ?_
  refine gf_X8_0 (pc := 14) wd_293 dX8_toWatch_14 ?_
  refine ro_cvP (pc := 17) (kc := 1) (avs := []) (st := [.int x4]) ok_Par_houses wd_1066 cl_3 cv_3 rfl ⟨by decide, by decide⟩ ⟨Nat.zero_le _, Nat.zero_le _⟩ (c_Par_houses X N h 3 isP_i3) rfl rfl (Nat.le_of_ble_eq_true rfl) dX8_toWatch_17 (fun x5 => ?_)
  refine ro_icmp_ge (tgt := 50) (pc := 20) dX8_toWatch_20 (by decide) (fun _ => ?_) (fun _ => ?_)
  · skip
    refine ro_iload_n (pc := 50) 3 dX8_toWatch_50 rfl rfl ?_
    exact ro_iret (pc := 51) rfl rfl dX8_toWatch_51
  · skip
    refine ro_aload_n (pc := 23) 0 dX8_toWatch_23 rfl rfl ?_
    refine ro_iload (pc := 24) 4 dX8_toWatch_24 rfl ?_
    refine ro_iload_n (pc := 26) 1 dX8_toWatch_26 rfl rfl ?_
    refine ro_iload_n (pc := 27) 2 dX8_toWatch_27 rfl rfl ?_
    refine ro_cvP (pc := 28) (kc := 3) (avs := [.int x4, .int a1, .int x1]) (st := []) ok_Sig_apart wd_1111 cl_39 cv_39 rfl ⟨by decide, by decide⟩ ⟨Nat.zero_le _, Nat.zero_le _⟩ (c_Sig_apart X N h x4 a1 x1) rfl rfl (Nat.le_of_ble_eq_true rfl) dX8_toWatch_28 (fun x6 => ?_)
    refine ro_aload_n (pc := 31) 0 dX8_toWatch_31 rfl rfl ?_
    refine ro_iload_n (pc := 32) 3 dX8_toWatch_32 rfl rfl ?_
    refine ro_iload_n (pc := 33) 1 dX8_toWatch_33 rfl rfl ?_
    refine ro_iload_n (pc := 34) 2 dX8_toWatch_34 rfl rfl ?_
    refine ro_cvP (pc := 35) (kc := 3) (avs := [.int x3, .int a1, .int x1]) (st := [.int x6]) ok_Sig_apart wd_1111 cl_39 cv_39 rfl ⟨by decide, by decide⟩ ⟨Nat.zero_le _, Nat.zero_le _⟩ (c_Sig_apart X N h x3 a1 x1) rfl rfl (Nat.le_of_ble_eq_true rfl) dX8_toWatch_35 (fun x7 => ?_)
    refine ro_jn (pcj := 44) (lvs := fun (s : Int32) => [(0, .ref (xa X 39)), (1, .int a1), (2, .int x1), (3, .int s), (4, .int x4)]) (hs := fun (s : Int32) => h) (sts := fun (s : Int32) => []) (fun x9 => ?_) (fun j8 hj8 => ?_)
    · try dsimp only
      refine ro_iinc (pc := 44) (v := x4 + 1) (lv' := [(4, .int (x4 + 1)), (0, .ref (xa X 39)), (1, .int a1), (2, .int x1), (3, .int x9)]) 4 dX8_toWatch_44 rfl rfl (by decide) rfl ?_
      refine ro_goto (tgt := 11) (pc := 47) dX8_toWatch_47 (by decide) ?_
      refine ro_lv [1, 2, 3, 4, 0] rfl ?_
      exact hrec2 (x9, x4 + 1)
    · skip
      refine ro_icmp_ge (tgt := 44) (pc := 38) dX8_toWatch_38 (by decide) (fun _ => ?_) (fun _ => ?_)
      · skip
        exact hj8 x3
      · skip
        refine ro_iload (pc := 41) 4 dX8_toWatch_41 rfl ?_
        refine ro_istore_n (pc := 43) (lv' := [(3, .int x4), (0, .ref (xa X 39)), (1, .int a1), (2, .int x1), (4, .int x4)]) dX8_toWatch_43 rfl (by decide) rfl ?_
        refine ro_lv [1, 2, 3, 0, 4] rfl ?_
        exact hj8 x4
theorem c_Sig_toWatch (X : mu_X) (N : Nat) (h : mu_H) (a1 : Int32) : ∀ r, f_Sig_toWatch N h a1 = some r → mI X m_Sig_toWatch 4 [.ref (xa X 39), .int a1] h r h := fun r hr => mI_of (by decide) rfl (Nat.le_of_ble_eq_true rfl) rfl (cb_Sig_toWatch X N h a1 r hr)
