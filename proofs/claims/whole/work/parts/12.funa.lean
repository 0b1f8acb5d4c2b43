def m_Int_bitCount : mu_M := (RJ6, yJ6_bitCount_0f7a4, cJ6_bitCount_0f7a4, 1, some .int)
theorem ok_Int_bitCount : mOKs m_Int_bitCount 1 := ⟨wd_1085, wd_115, wd_1086, by decide, by decide, by decide +kernel⟩
def m_Arr_fill : mu_M := (RJ7, yJ7_fill_53178, cJ7_fill_53178, 4, none)
theorem ok_Arr_fill : mOKs m_Arr_fill 2 := ⟨wd_589, wd_109, wd_590, by decide, by decide, by decide +kernel⟩
def m_Tap_add : mu_M := (RX10, yX10_add, cX10_add, 4, none)
theorem ok_Tap_add : mOKv m_Tap_add 1 := ⟨wd_396, wd_397, wd_96, wd_398, by decide, by decide, by decide +kernel⟩
def m_Tap_sign : mu_M := (RX10, yX10_sign, cX10_sign, 2, some .int)
theorem ok_Tap_sign : mOKv m_Tap_sign 1 := ⟨wd_440, wd_441, wd_96, wd_442, by decide, by decide, by decide +kernel⟩
def m_Tap_isDigit : mu_M := (RX10, yX10_isDigit, cX10_isDigit, 3, some .boolean)
theorem ok_Tap_isDigit : mOKv m_Tap_isDigit 1 := ⟨wd_481, wd_482, wd_96, wd_483, by decide, by decide, by decide +kernel⟩
def m_Tap_pastBlanks : mu_M := (RX10, yX10_pastBlanks, cX10_pastBlanks, 3, some .int)
theorem ok_Tap_pastBlanks : mOKv m_Tap_pastBlanks 1 := ⟨wd_436, wd_437, wd_96, wd_438, by decide, by decide, by decide +kernel⟩
def m_Tap_shorten : mu_M := (RX10, yX10_shorten, cX10_shorten, 2, some .boolean)
theorem ok_Tap_shorten : mOKv m_Tap_shorten 1 := ⟨wd_404, wd_405, wd_96, wd_406, by decide, by decide, by decide +kernel⟩
def m_Tap_signsIn : mu_M := (RX10, yX10_signsIn, cX10_signsIn, 3, some .int)
theorem ok_Tap_signsIn : mOKs m_Tap_signsIn 1 := ⟨wd_389, wd_96, wd_390, by decide, by decide, by decide +kernel⟩
def m_Tap_size : mu_M := (RX10, yX10_size, cX10_size, 1, some .int)
theorem ok_Tap_size : mOKv m_Tap_size 0 := ⟨wd_392, wd_393, wd_96, wd_394, by decide, by decide, by decide +kernel⟩
def m_Law_add : mu_M := (RX1, yX1_add, cX1_add, 2, none)
theorem ok_Law_add : mOKv m_Law_add 1 := ⟨wd_537, wd_538, wd_100, wd_539, by decide, by decide, by decide +kernel⟩
def m_Law_empty : mu_M := (RX1, yX1_empty, cX1_empty, 1, none)
theorem ok_Law_empty : mOKv m_Law_empty 0 := ⟨wd_502, wd_503, wd_100, wd_504, by decide, by decide, by decide +kernel⟩
def m_Law_reckoned : mu_M := (RX1, yX1_reckoned, cX1_reckoned, 7, some .int)
theorem ok_Law_reckoned : mOKs m_Law_reckoned 3 := ⟨wd_718, wd_100, wd_719, by decide, by decide, by decide +kernel⟩
def m_Law_joined : mu_M := (RX1, yX1_joined, cX1_joined, 3, some .int)
theorem ok_Law_joined : mOKs m_Law_joined 3 := ⟨wd_715, wd_100, wd_716, by decide, by decide, by decide +kernel⟩
def m_Law_leapFrom : mu_M := (RX1, yX1_leapFrom, cX1_leapFrom, 2, none)
theorem ok_Law_leapFrom : mOKv m_Law_leapFrom 1 := ⟨wd_562, wd_563, wd_100, wd_564, by decide, by decide, by decide +kernel⟩
def m_Law_size : mu_M := (RX1, yX1_size, cX1_size, 1, some .int)
theorem ok_Law_size : mOKv m_Law_size 0 := ⟨wd_558, wd_559, wd_100, wd_560, by decide, by decide, by decide +kernel⟩
def m_Law_take : mu_M := (RX1, yX1_take, cX1_take, 2, none)
theorem ok_Law_take : mOKv m_Law_take 1 := ⟨wd_629, wd_630, wd_100, wd_631, by decide, by decide, by decide +kernel⟩
def m_Law_valueFor : mu_M := (RX1, yX1_valueFor, cX1_valueFor, 5, some .int)
theorem ok_Law_valueFor : mOKv m_Law_valueFor 1 := ⟨wd_711, wd_712, wd_100, wd_713, by decide, by decide, by decide +kernel⟩
def m_Par_addHouse : mu_M := (RX4, yX4_addHouse, cX4_addHouse, 1, some .int)
theorem ok_Par_addHouse : mOKv m_Par_addHouse 0 := ⟨wd_467, wd_468, wd_97, wd_469, by decide, by decide, by decide +kernel⟩
def m_Par_addStretch : mu_M := (RX4, yX4_addStretch, cX4_addStretch, 1, some .int)
theorem ok_Par_addStretch : mOKv m_Par_addStretch 0 := ⟨wd_463, wd_464, wd_97, wd_465, by decide, by decide, by decide +kernel⟩
def m_Par_empty : mu_M := (RX4, yX4_empty, cX4_empty, 1, none)
theorem ok_Par_empty : mOKv m_Par_empty 0 := ⟨wd_416, wd_417, wd_97, wd_418, by decide, by decide, by decide +kernel⟩
def m_Par_hasHouse : mu_M := (RX4, yX4_hasHouse, cX4_hasHouse, 2, some .boolean)
theorem ok_Par_hasHouse : mOKv m_Par_hasHouse 1 := ⟨wd_672, wd_673, wd_97, wd_674, by decide, by decide, by decide +kernel⟩
def m_Par_ofStretch : mu_M := (RX4, yX4_ofStretch, cX4_ofStretch, 3, some .int)
theorem ok_Par_ofStretch : mOKv m_Par_ofStretch 2 := ⟨wd_494, wd_495, wd_97, wd_496, by decide, by decide, by decide +kernel⟩
def m_Par_hasLoop : mu_M := (RX4, yX4_hasLoop, cX4_hasLoop, 2, some .boolean)
theorem ok_Par_hasLoop : mOKv m_Par_hasLoop 0 := ⟨wd_490, wd_491, wd_97, wd_492, by decide, by decide, by decide +kernel⟩
def m_Par_hasStretch : mu_M := (RX4, yX4_hasStretch, cX4_hasStretch, 2, some .boolean)
theorem ok_Par_hasStretch : mOKv m_Par_hasStretch 1 := ⟨wd_647, wd_648, wd_97, wd_649, by decide, by decide, by decide +kernel⟩
def m_Par_houses : mu_M := (RX4, yX4_houses, cX4_houses, 1, some .int)
theorem ok_Par_houses : mOKv m_Par_houses 0 := ⟨wd_455, wd_456, wd_97, wd_457, by decide, by decide, by decide +kernel⟩
def m_Par_isNone : mu_M := (RX4, yX4_isNone, cX4_isNone, 1, some .boolean)
theorem ok_Par_isNone : mOKv m_Par_isNone 0 := ⟨wd_638, wd_639, wd_97, wd_640, by decide, by decide, by decide +kernel⟩
def m_Par_shortenBy : mu_M := (RX4, yX4_shortenBy, cX4_shortenBy, 5, none)
theorem ok_Par_shortenBy : mOKv m_Par_shortenBy 1 := ⟨wd_593, wd_17, wd_97, wd_594, by decide, by decide, by decide +kernel⟩
def m_Par_measure : mu_M := (RX4, yX4_measure, cX4_measure, 4, none)
theorem ok_Par_measure : mOKv m_Par_measure 0 := ⟨wd_586, wd_16, wd_97, wd_587, by decide, by decide, by decide +kernel⟩
def m_Par_ofHouse : mu_M := (RX4, yX4_ofHouse, cX4_ofHouse, 3, some .int)
theorem ok_Par_ofHouse : mOKv m_Par_ofHouse 2 := ⟨wd_680, wd_681, wd_97, wd_682, by decide, by decide, by decide +kernel⟩
def m_Par_ofRules : mu_M := (RX4, yX4_ofRules, cX4_ofRules, 2, some .int)
theorem ok_Par_ofRules : mOKv m_Par_ofRules 1 := ⟨wd_604, wd_605, wd_97, wd_606, by decide, by decide, by decide +kernel⟩
def m_Par_set : mu_M := (RX4, yX4_set, cX4_set, 4, none)
theorem ok_Par_set : mOKv m_Par_set 3 := ⟨wd_428, wd_429, wd_97, wd_430, by decide, by decide, by decide +kernel⟩
def m_Par_stepsTo : mu_M := (RX4, yX4_stepsTo, cX4_stepsTo, 7, some .int)
theorem ok_Par_stepsTo : mOKv m_Par_stepsTo 2 := ⟨wd_676, wd_677, wd_97, wd_678, by decide, by decide, by decide +kernel⟩
def m_Par_stretches : mu_M := (RX4, yX4_stretches, cX4_stretches, 1, some .int)
theorem ok_Par_stretches : mOKv m_Par_stretches 0 := ⟨wd_451, wd_452, wd_97, wd_453, by decide, by decide, by decide +kernel⟩
def m_Par_take : mu_M := (RX4, yX4_take, cX4_take, 2, none)
theorem ok_Par_take : mOKv m_Par_take 1 := ⟨wd_578, wd_579, wd_97, wd_580, by decide, by decide, by decide +kernel⟩
def m_Par_touches : mu_M := (RX4, yX4_touches, cX4_touches, 3, some .boolean)
theorem ok_Par_touches : mOKv m_Par_touches 2 := ⟨wd_798, wd_799, wd_97, wd_800, by decide, by decide, by decide +kernel⟩
def m_Sta_readFrom : mu_M := (RX9, yX9_readFrom, cX9_readFrom, 3, none)
theorem ok_Sta_readFrom : mOKv m_Sta_readFrom 2 := ⟨wd_880, wd_881, wd_101, wd_882, by decide, by decide, by decide +kernel⟩
def m_Pas_bringBack : mu_M := (RX6, yX6_bringBack, cX6_bringBack, 2, some .boolean)
theorem ok_Pas_bringBack : mOKv m_Pas_bringBack 1 := ⟨wd_876, wd_877, wd_102, wd_878, by decide, by decide, by decide +kernel⟩
def m_Pas_forget : mu_M := (RX6, yX6_forget, cX6_forget, 1, none)
theorem ok_Pas_forget : mOKv m_Pas_forget 0 := ⟨wd_608, wd_609, wd_102, wd_610, by decide, by decide, by decide +kernel⟩
def m_Sta_writeTo : mu_M := (RX9, yX9_writeTo, cX9_writeTo, 3, none)
theorem ok_Sta_writeTo : mOKv m_Sta_writeTo 2 := ⟨wd_745, wd_746, wd_101, wd_747, by decide, by decide, by decide +kernel⟩
def m_Pas_keep : mu_M := (RX6, yX6_keep, cX6_keep, 2, none)
theorem ok_Pas_keep : mOKv m_Pas_keep 1 := ⟨wd_741, wd_742, wd_102, wd_743, by decide, by decide, by decide +kernel⟩
def m_Pas_size : mu_M := (RX6, yX6_size, cX6_size, 1, some .int)
theorem ok_Pas_size : mOKv m_Pas_size 0 := ⟨wd_884, wd_885, wd_102, wd_886, by decide, by decide, by decide +kernel⟩
def m_Sta_addToBox : mu_M := (RX9, yX9_addToBox, cX9_addToBox, 2, none)
theorem ok_Sta_addToBox : mOKv m_Sta_addToBox 1 := ⟨wd_770, wd_771, wd_101, wd_772, by decide, by decide, by decide +kernel⟩
def m_Sta_sum : mu_M := (RX9, yX9_sum, cX9_sum, 5, some .int)
theorem ok_Sta_sum : mOKv m_Sta_sum 2 := ⟨wd_841, wd_21, wd_101, wd_842, by decide, by decide, by decide +kernel⟩
def m_Sta_allDebt : mu_M := (RX9, yX9_allDebt, cX9_allDebt, 1, some .int)
theorem ok_Sta_allDebt : mOKv m_Sta_allDebt 0 := ⟨wd_1228, wd_1229, wd_101, wd_1230, by decide, by decide, by decide +kernel⟩
def m_Sta_allOwed : mu_M := (RX9, yX9_allOwed, cX9_allOwed, 1, some .int)
theorem ok_Sta_allOwed : mOKv m_Sta_allOwed 0 := ⟨wd_1224, wd_1225, wd_101, wd_1226, by decide, by decide, by decide +kernel⟩
def m_Sta_allWear : mu_M := (RX9, yX9_allWear, cX9_allWear, 1, some .int)
theorem ok_Sta_allWear : mOKv m_Sta_allWear 0 := ⟨wd_836, wd_837, wd_101, wd_838, by decide, by decide, by decide +kernel⟩
def m_Sta_wear : mu_M := (RX9, yX9_wear, cX9_wear, 2, some .int)
theorem ok_Sta_wear : mOKv m_Sta_wear 1 := ⟨wd_652, wd_653, wd_101, wd_654, by decide, by decide, by decide +kernel⟩
def m_Sta_bad : mu_M := (RX9, yX9_bad, cX9_bad, 3, some .int)
theorem ok_Sta_bad : mOKv m_Sta_bad 0 := ⟨wd_845, wd_22, wd_101, wd_846, by decide, by decide, by decide +kernel⟩
def m_Sta_begin : mu_M := (RX9, yX9_begin, cX9_begin, 3, none)
theorem ok_Sta_begin : mOKv m_Sta_begin 1 := ⟨wd_596, wd_597, wd_101, wd_598, by decide, by decide, by decide +kernel⟩
def m_Sta_box : mu_M := (RX9, yX9_box, cX9_box, 1, some .int)
theorem ok_Sta_box : mOKv m_Sta_box 0 := ⟨wd_780, wd_781, wd_101, wd_782, by decide, by decide, by decide +kernel⟩
def m_Sta_countWork : mu_M := (RX9, yX9_countWork, cX9_countWork, 1, none)
theorem ok_Sta_countWork : mOKv m_Sta_countWork 0 := ⟨wd_765, wd_766, wd_101, wd_767, by decide, by decide, by decide +kernel⟩
def m_Sta_debt : mu_M := (RX9, yX9_debt, cX9_debt, 2, some .int)
theorem ok_Sta_debt : mOKv m_Sta_debt 1 := ⟨wd_824, wd_825, wd_101, wd_826, by decide, by decide, by decide +kernel⟩
def m_Sta_isWinter : mu_M := (RX9, yX9_isWinter, cX9_isWinter, 1, some .boolean)
theorem ok_Sta_isWinter : mOKv m_Sta_isWinter 0 := ⟨wd_725, wd_726, wd_101, wd_727, by decide, by decide, by decide +kernel⟩
def m_Sta_logLength : mu_M := (RX9, yX9_logLength, cX9_logLength, 1, some .int)
theorem ok_Sta_logLength : mOKv m_Sta_logLength 0 := ⟨wd_896, wd_897, wd_101, wd_898, by decide, by decide, by decide +kernel⟩
def m_Sta_logged : mu_M := (RX9, yX9_logged, cX9_logged, 3, some .int)
theorem ok_Sta_logged : mOKv m_Sta_logged 2 := ⟨wd_892, wd_893, wd_101, wd_894, by decide, by decide, by decide +kernel⟩
def m_Sta_nextSeason : mu_M := (RX9, yX9_nextSeason, cX9_nextSeason, 1, none)
theorem ok_Sta_nextSeason : mOKv m_Sta_nextSeason 0 := ⟨wd_815, wd_816, wd_101, wd_817, by decide, by decide, by decide +kernel⟩
def m_Sta_owed : mu_M := (RX9, yX9_owed, cX9_owed, 2, some .int)
theorem ok_Sta_owed : mOKv m_Sta_owed 1 := ⟨wd_737, wd_738, wd_101, wd_739, by decide, by decide, by decide +kernel⟩
def m_Sta_season : mu_M := (RX9, yX9_season, cX9_season, 1, some .int)
theorem ok_Sta_season : mOKv m_Sta_season 0 := ⟨wd_707, wd_708, wd_101, wd_709, by decide, by decide, by decide +kernel⟩
def m_Sta_setDebt : mu_M := (RX9, yX9_setDebt, cX9_setDebt, 3, none)
theorem ok_Sta_setDebt : mOKv m_Sta_setDebt 2 := ⟨wd_828, wd_829, wd_101, wd_830, by decide, by decide, by decide +kernel⟩
def m_Sta_setOwed : mu_M := (RX9, yX9_setOwed, cX9_setOwed, 3, none)
theorem ok_Sta_setOwed : mOKv m_Sta_setOwed 2 := ⟨wd_761, wd_762, wd_101, wd_763, by decide, by decide, by decide +kernel⟩
def m_Sta_setWear : mu_M := (RX9, yX9_setWear, cX9_setWear, 3, none)
theorem ok_Sta_setWear : mOKv m_Sta_setWear 2 := ⟨wd_756, wd_757, wd_101, wd_758, by decide, by decide, by decide +kernel⟩
def m_Sta_setWet : mu_M := (RX9, yX9_setWet, cX9_setWet, 3, none)
theorem ok_Sta_setWet : mOKv m_Sta_setWet 2 := ⟨wd_793, wd_794, wd_101, wd_795, by decide, by decide, by decide +kernel⟩
def m_Sta_takeAll : mu_M := (RX9, yX9_takeAll, cX9_takeAll, 2, none)
theorem ok_Sta_takeAll : mOKv m_Sta_takeAll 1 := ⟨wd_1206, wd_1207, wd_101, wd_1208, by decide, by decide, by decide +kernel⟩
def m_Sta_wet : mu_M := (RX9, yX9_wet, cX9_wet, 2, some .int)
theorem ok_Sta_wet : mOKv m_Sta_wet 1 := ⟨wd_656, wd_657, wd_101, wd_658, by decide, by decide, by decide +kernel⟩
def m_Sta_worked : mu_M := (RX9, yX9_worked, cX9_worked, 1, some .int)
theorem ok_Sta_worked : mOKv m_Sta_worked 0 := ⟨wd_1232, wd_1233, wd_101, wd_1234, by decide, by decide, by decide +kernel⟩
def m_Sta_writeLog : mu_M := (RX9, yX9_writeLog, cX9_writeLog, 2, none)
theorem ok_Sta_writeLog : mOKv m_Sta_writeLog 0 := ⟨wd_832, wd_833, wd_101, wd_834, by decide, by decide, by decide +kernel⟩
def f_Int_bitCount (N : Nat) (h : mu_H) (a0 : Int32) : Option Int32 :=
  bn (a0 - (((a0.toUInt32 >>> ((1 : Int32).toUInt32 &&& Int32.toUInt32 31)).toInt32) &&& 1431655765)) fun x1 =>
  bn ((x1 &&& 858993459) + (((x1.toUInt32 >>> ((2 : Int32).toUInt32 &&& Int32.toUInt32 31)).toInt32) &&& 858993459)) fun x2 =>
  bn ((x2 + ((x2.toUInt32 >>> ((4 : Int32).toUInt32 &&& Int32.toUInt32 31)).toInt32)) &&& 252645135) fun x3 =>
  bn (x3 + ((x3.toUInt32 >>> ((8 : Int32).toUInt32 &&& Int32.toUInt32 31)).toInt32)) fun x4 =>
  bn (x4 + ((x4.toUInt32 >>> ((16 : Int32).toUInt32 &&& Int32.toUInt32 31)).toInt32)) fun x5 =>
  some (x5 &&& 63)
def f_Arr_fill_L5 (q0 : Nat) (n0 : Nat) (a1 : Int32) (x1 : Int32) (rec2 : (Int32 × mu_H) → Option mu_H) : (Int32 × mu_H) → Option mu_H := fun ((x3, h4) : Int32 × mu_H) =>
  if x1 ≤ x3 then
    some h4
  else
    gd (ix x3 n0) <|
    bn (ui h4 q0 x3.toNatClampNeg a1) fun h5 =>
    rec2 (x3 + 1, h5)
def f_Arr_fill (N : Nat) (h : mu_H) (q0 : Nat) (n0 : Nat) (a1 : Int32) : Option mu_H :=
  bn (Int32.ofNat n0) fun x1 =>
  lp (f_Arr_fill_L5 q0 n0 a1 x1) N (0, h)
def f_Tap_add_L3 (a1 : Int32) (rec1 : (Int32 × mu_H) → Option mu_H) : (Int32 × mu_H) → Option mu_H := fun ((x2, h3) : Int32 × mu_H) =>
  if x2 < 0 then
    some h3
  else
    bn (((a1.toUInt32 >>> (x2.toUInt32 &&& Int32.toUInt32 31)).toInt32) &&& 255) fun x4 =>
    jn (fun (h6 : mu_H) =>
      rec1 (x2 + (-8), h6)) fun j5 =>
    if x4 = 0 then
      j5 h3
    else
      if 240 ≤ h3.1 1 1 then
        j5 h3
      else
        gd (ix (h3.1 1 1) 240) <|
        bn (ui h3 2 (h3.1 1 1).toNatClampNeg (vp_nar .byte x4.toInt8.toInt32)) fun h7 =>
        bn (ui h7 1 1 ((h7.1 1 1) + 1)) fun h8 =>
        j5 h8
def f_Tap_add (N : Nat) (h : mu_H) (a1 : Int32) : Option mu_H :=
  lp (f_Tap_add_L3 a1) N (24, h)
def f_Tap_sign (N : Nat) (h : mu_H) (a1 : Int32) : Option Int32 :=
  if a1 < 0 then
    some 0
  else
    if h.1 1 1 ≤ a1 then
      some 0
    else
      gd (ix a1 240) <|
      some ((h.1 2 a1.toNatClampNeg) &&& 255)
def f_Tap_isDigit (N : Nat) (h : mu_H) (a1 : Int32) : Option Int32 :=
  (f_Tap_sign N h a1).bind fun x1 =>
  if x1 < 48 then
    some 0
  else
    if 57 < x1 then
      some 0
    else
      some 1
def f_Tap_pastBlanks_L10 (h : mu_H) (rec3 : Int32 → Option Int32) : Int32 → Option Int32 := fun (x4 : Int32) =>
  if h.1 1 1 ≤ x4 then
    some x4
  else
    gd (ix x4 240) <|
    if h.1 2 x4.toNatClampNeg = 32 then
      rec3 (x4 + 1)
    else
      some x4
def f_Tap_pastBlanks (N : Nat) (h : mu_H) (a1 : Int32) : Option Int32 :=
  jn (fun (x2 : Int32) =>
    lp (f_Tap_pastBlanks_L10 h) N x2) fun j1 =>
  if 0 ≤ a1 then
    j1 a1
  else
    j1 0
def f_Tap_shorten (N : Nat) (h : mu_H) (a1 : Int32) : Option (Int32 × mu_H) :=
  if a1 < 0 then
    some (0, h)
  else
    if a1 ≤ h.1 1 1 then
      bn (ui h 1 1 a1) fun h1 =>
      some (1, h1)
    else
      some (0, h)
def f_Tap_signsIn_L5 (a0 : Int32) (rec1 : (Int32 × Int32) → Option Int32) : (Int32 × Int32) → Option Int32 := fun ((x2, x3) : Int32 × Int32) =>
  if x3 < 0 then
    some x2
  else
    jn (fun (x5 : Int32) =>
      rec1 (x5, x3 + (-8))) fun j4 =>
    if ((a0.toUInt32 >>> (x3.toUInt32 &&& Int32.toUInt32 31)).toInt32) &&& 255 = 0 then
      j4 x2
    else
      j4 (x2 + 1)
def f_Tap_signsIn (N : Nat) (h : mu_H) (a0 : Int32) : Option Int32 :=
  lp (f_Tap_signsIn_L5 a0) N (0, 24)
def f_Tap_size (N : Nat) (h : mu_H) : Option Int32 :=
  some (h.1 1 1)
def f_Law_add (N : Nat) (h : mu_H) (o : Nat) (a1 : Int32) : Option mu_H :=
  if 240 ≤ h.1 o 2 then
    some h
  else
    gd (ix (h.1 o 2) 240) <|
    bn (ui h (o + 1) (h.1 o 2).toNatClampNeg a1) fun h1 =>
    bn (ui h1 o 2 ((h1.1 o 2) + 1)) fun h2 =>
    some h2
def f_Law_empty (N : Nat) (h : mu_H) (o : Nat) : Option mu_H :=
  bn (ui h o 2 0) fun h1 =>
  some h1
def f_Law_reckoned (N : Nat) (h : mu_H) (a0 : Int32) (a1 : Int64) (a3 : Int64) : Option Int32 :=
  bn (a1 * a3) fun z1 =>
  jn (fun (z3 : Int64) =>
    if lg_cmp z3 1000000 ≤ 0 then
      if 0 ≤ lg_cmp z3 (-1000000) then
        some z3.toInt32
      else
        some (-1000000)
    else
      some 1000000) fun j2 =>
  if a0 = 43 then
    bn (a1 + a3) fun z5 =>
    j2 z5
  else
    if a0 = 45 then
      bn (a1 - a3) fun z4 =>
      j2 z4
    else
      j2 z1
def f_Law_joined (N : Nat) (h : mu_H) (a0 : Int32) (a1 : Int32) (a2 : Int32) : Option Int32 :=
  if a0 = 38 then
    some (a1 &&& a2)
  else if a0 = 47 then
    if a2 = 0 then
      some 0
    else
      gd (decide (¬ a2 = 0)) <|
      some (a1 / a2)
  else if a0 = 60 then
    if a2 ≤ a1 then
      some 0
    else
      some 1
  else if a0 = 61 then
    if a1 = a2 then
      some 1
    else
      some 0
  else if a0 = 62 then
    if a1 ≤ a2 then
      some 0
    else
      some 1
  else if a0 = 124 then
    some (a1 ||| a2)
  else 
    (f_Law_reckoned N h a0 a1.toInt64 a2.toInt64).bind fun x1 =>
    some x1
def f_Law_leapFrom (N : Nat) (h : mu_H) (o : Nat) (a1 : Int32) : Option mu_H :=
  if a1 < 0 then
    some h
  else
    if h.1 o 2 ≤ a1 then
      some h
    else
      gd (ix a1 240) <|
      bn (ui h (o + 1) a1.toNatClampNeg ((-1000) - (h.1 o 2))) fun h1 =>
      some h1
def f_Law_size (N : Nat) (h : mu_H) (o : Nat) : Option Int32 :=
  some (h.1 o 2)
def f_Law_take (N : Nat) (h : mu_H) (o : Nat) (p1 : Nat) : Option mu_H :=
  gd (cpk 0 0 240 240 240) <|
  bn (ur h (o + 1) (va_cpy (h.1 (p1 + 1)) (h.1 (o + 1)) (0 : Int32).toNatClampNeg (0 : Int32).toNatClampNeg (240 : Int32).toNatClampNeg)) fun h1 =>
  bn (ui h1 o 2 (h1.1 p1 2)) fun h2 =>
  some h2
def f_Law_valueFor_L4 (N : Nat) (o : Nat) (k1 : (Int32 × mu_H) → Option (Int32 × mu_H)) (rec4 : (Int32 × Int32 × mu_H) → Option (Int32 × mu_H)) : (Int32 × Int32 × mu_H) → Option (Int32 × mu_H) := fun ((x5, x6, h7) : Int32 × Int32 × mu_H) =>
  if h7.1 o 2 ≤ x6 then
    some (0, h7)
  else
    gd (ix x6 240) <|
    bn (h7.1 (o + 1) x6.toNatClampNeg) fun x8 =>
    jn (fun ((x10, x11, h12) : Int32 × Int32 × mu_H) =>
      rec4 (x10, x11 + 1, h12)) fun j9 =>
    if x8 < (-6) then
      if 1 ≤ x5 then
        if (-1000) < x8 then
          if x8 = (-59) then
            k1 (x5, h7)
          else
            if x8 = (-33) then
              gd (ix (x5 - 1) 32) <|
              gd (ix (x5 - 1) 32) <|
              bn (ui h7 (o + 2) (x5 - 1).toNatClampNeg (1 - (h7.1 (o + 2) (x5 - 1).toNatClampNeg))) fun h15 =>
              j9 (x5, x6, h15)
            else
              if x5 ≤ 1 then
                j9 (x5, x6, h7)
              else
                gd (ix ((x5 + (-1)) - 1) 32) <|
                gd (ix (x5 + (-1)) 32) <|
                (f_Law_joined N h7 (-x8) (h7.1 (o + 2) ((x5 + (-1)) - 1).toNatClampNeg) (h7.1 (o + 2) (x5 + (-1)).toNatClampNeg)).bind fun x13 =>
                gd (ix ((x5 + (-1)) - 1) 32) <|
                bn (ui h7 (o + 2) ((x5 + (-1)) - 1).toNatClampNeg x13) fun h14 =>
                j9 (x5 + (-1), x6, h14)
        else
          gd (ix (x5 + (-1)) 32) <|
          if h7.1 (o + 2) (x5 + (-1)).toNatClampNeg = 0 then
            if (-1000) - x8 ≤ x6 then
              j9 (x5 + (-1), x6, h7)
            else
              bn (((-1000) - x8) - 1) fun x16 =>
              j9 (x5 + (-1), x16, h7)
          else
            j9 (x5 + (-1), x6, h7)
      else
        some (0, h7)
    else
      if 32 ≤ x5 then
        j9 (x5, x6, h7)
      else
        jn (fun (x18 : Int32) =>
          gd (ix x5 32) <|
          bn (ui h7 (o + 2) x5.toNatClampNeg x18) fun h19 =>
          j9 (x5 + 1, x6, h19)) fun j17 =>
        if x8 < 0 then
          gd (ix ((-1) - x8) 6) <|
          j17 (h7.1 36 ((-1) - x8).toNatClampNeg)
        else
          j17 x8
def f_Law_valueFor (N : Nat) (h : mu_H) (o : Nat) : Option (Int32 × mu_H) :=
  jn (fun ((x2, h3) : Int32 × mu_H) =>
    gd (ix (x2 - 1) 32) <|
    some (h3.1 (o + 2) (x2 - 1).toNatClampNeg, h3)) fun k1 =>
  lp (f_Law_valueFor_L4 N o k1) N (0, 0, h)
def f_Par_addHouse (N : Nat) (h : mu_H) (o : Nat) : Option (Int32 × mu_H) :=
  bn (ui h o 3 ((h.1 o 3) + 1)) fun h1 =>
  some ((10 + (h1.1 o 3)) - 1, h1)
def f_Par_addStretch (N : Nat) (h : mu_H) (o : Nat) : Option (Int32 × mu_H) :=
  bn (ui h o 2 ((h.1 o 2) + 1)) fun h1 =>
  some ((1 + (h1.1 o 2)) - 1, h1)
def f_Par_empty (N : Nat) (h : mu_H) (o : Nat) : Option mu_H :=
  bn (ui h o 2 0) fun h1 =>
  bn (ui h1 o 3 0) fun h2 =>
  some h2
def f_Par_hasHouse (N : Nat) (h : mu_H) (o : Nat) (a1 : Int32) : Option Int32 :=
  if a1 < 0 then
    some 0
  else
    if h.1 o 3 ≤ a1 then
      some 0
    else
      some 1
def f_Par_ofStretch (N : Nat) (h : mu_H) (o : Nat) (a1 : Int32) (a2 : Int32) : Option Int32 :=
  gd (ix (((1 + a1) * 5) + a2) 80) <|
  some (h.1 (o + 1) (((1 + a1) * 5) + a2).toNatClampNeg)
def f_Par_hasLoop_L2 (N : Nat) (h : mu_H) (o : Nat) (rec1 : Int32 → Option Int32) : Int32 → Option Int32 := fun (x2 : Int32) =>
  if h.1 o 2 ≤ x2 then
    some 0
  else
    (f_Par_ofStretch N h o x2 0).bind fun x3 =>
    (f_Par_ofStretch N h o x2 1).bind fun x4 =>
    if x3 = x4 then
      some 1
    else
      rec1 (x2 + 1)
def f_Par_hasLoop (N : Nat) (h : mu_H) (o : Nat) : Option Int32 :=
  lp (f_Par_hasLoop_L2 N h o) N 0
def f_Par_hasStretch (N : Nat) (h : mu_H) (o : Nat) (a1 : Int32) : Option Int32 :=
  if a1 < 0 then
    some 0
  else
    if h.1 o 2 ≤ a1 then
      some 0
    else
      some 1
def f_Par_houses (N : Nat) (h : mu_H) (o : Nat) : Option Int32 :=
  some (h.1 o 3)
def f_Par_isNone (N : Nat) (h : mu_H) (o : Nat) : Option Int32 :=
  if h.1 o 2 = 0 then
    some 1
  else
    some 0
def f_Par_shortenBy_L10 (o : Nat) (a1 : Int32) (x2 : Int32) (k4 : mu_H → Option mu_H) (rec6 : (Int32 × mu_H) → Option mu_H) : (Int32 × mu_H) → Option mu_H := fun ((x7, h8) : Int32 × mu_H) =>
  if 8 ≤ x7 then
    k4 h8
  else
    gd (ix ((x2 * 8) + a1) 64) <|
    gd (ix ((a1 * 8) + x7) 64) <|
    bn ((h8.1 (o + 2) ((x2 * 8) + a1).toNatClampNeg) + (h8.1 (o + 2) ((a1 * 8) + x7).toNatClampNeg)) fun x9 =>
    gd (ix ((x2 * 8) + x7) 64) <|
    jn (fun (h11 : mu_H) =>
      rec6 (x7 + 1, h11)) fun j10 =>
    if h8.1 (o + 2) ((x2 * 8) + x7).toNatClampNeg ≤ x9 then
      j10 h8
    else
      gd (ix ((x2 * 8) + x7) 64) <|
      bn (ui h8 (o + 2) ((x2 * 8) + x7).toNatClampNeg x9) fun h12 =>
      j10 h12
def f_Par_shortenBy_L2 (N : Nat) (o : Nat) (a1 : Int32) (rec1 : (Int32 × mu_H) → Option mu_H) : (Int32 × mu_H) → Option mu_H := fun ((x2, h3) : Int32 × mu_H) =>
  if 8 ≤ x2 then
    some h3
  else
    jn (fun (h5 : mu_H) =>
      rec1 (x2 + 1, h5)) fun k4 =>
    lp (f_Par_shortenBy_L10 o a1 x2 k4) N (0, h3)
def f_Par_shortenBy (N : Nat) (h : mu_H) (o : Nat) (a1 : Int32) : Option mu_H :=
  lp (f_Par_shortenBy_L2 N o a1) N (0, h)
def f_Par_measure_L92 (N : Nat) (o : Nat) (rec6 : (Int32 × mu_H) → Option mu_H) : (Int32 × mu_H) → Option mu_H := fun ((x7, h8) : Int32 × mu_H) =>
  if 8 ≤ x7 then
    some h8
  else
    (f_Par_shortenBy N h8 o x7).bind fun h9 =>
    rec6 (x7 + 1, h9)
def f_Par_measure_L38 (N : Nat) (o : Nat) (k4 : mu_H → Option mu_H) (rec10 : (Int32 × mu_H) → Option mu_H) : (Int32 × mu_H) → Option mu_H := fun ((x11, h12) : Int32 × mu_H) =>
  if h12.1 o 2 ≤ x11 then
    k4 h12
  else
    (f_Par_ofStretch N h12 o x11 0).bind fun x13 =>
    (f_Par_ofStretch N h12 o x11 1).bind fun x14 =>
    gd (ix ((x13 * 8) + x14) 64) <|
    bn (ui h12 (o + 2) ((x13 * 8) + x14).toNatClampNeg 1) fun h15 =>
    gd (ix ((x14 * 8) + x13) 64) <|
    bn (ui h15 (o + 2) ((x14 * 8) + x13).toNatClampNeg 1) fun h16 =>
    rec10 (x11 + 1, h16)
def f_Par_measure_L12 (o : Nat) (k2 : mu_H → Option mu_H) (rec17 : (Int32 × mu_H) → Option mu_H) : (Int32 × mu_H) → Option mu_H := fun ((x18, h19) : Int32 × mu_H) =>
  if 8 ≤ x18 then
    k2 h19
  else
    gd (ix ((x18 * 8) + x18) 64) <|
    bn (ui h19 (o + 2) ((x18 * 8) + x18).toNatClampNeg 0) fun h20 =>
    rec17 (x18 + 1, h20)
def f_Par_measure (N : Nat) (h : mu_H) (o : Nat) : Option mu_H :=
  (f_Arr_fill N h (o + 2) 64 1000).bind fun h1 =>
  jn (fun (h3 : mu_H) =>
    jn (fun (h5 : mu_H) =>
      lp (f_Par_measure_L92 N o) N (0, h5)) fun k4 =>
    lp (f_Par_measure_L38 N o k4) N (0, h3)) fun k2 =>
  lp (f_Par_measure_L12 o k2) N (0, h1)
def f_Par_ofHouse (N : Nat) (h : mu_H) (o : Nat) (a1 : Int32) (a2 : Int32) : Option Int32 :=
  gd (ix (((10 + a1) * 5) + a2) 80) <|
  some (h.1 (o + 1) (((10 + a1) * 5) + a2).toNatClampNeg)
def f_Par_ofRules (N : Nat) (h : mu_H) (o : Nat) (a1 : Int32) : Option Int32 :=
  gd (ix a1 80) <|
  some (h.1 (o + 1) a1.toNatClampNeg)
def f_Par_set (N : Nat) (h : mu_H) (o : Nat) (a1 : Int32) (a2 : Int32) (a3 : Int32) : Option mu_H :=
  if a1 < 0 then
    some h
  else
    if 16 ≤ a1 then
      some h
    else
      if a2 < 0 then
        some h
      else
        if 5 ≤ a2 then
          some h
        else
          gd (ix ((a1 * 5) + a2) 80) <|
          bn (ui h (o + 1) ((a1 * 5) + a2).toNatClampNeg a3) fun h1 =>
          some h1
def f_Par_stepsTo (N : Nat) (h : mu_H) (o : Nat) (a1 : Int32) (a2 : Int32) : Option Int32 :=
  (f_Par_ofHouse N h o a1 0).bind fun x1 =>
  bn (x1 * 8) fun x2 =>
  (f_Par_ofStretch N h o a2 0).bind fun x3 =>
  gd (ix (x2 + x3) 64) <|
  bn (h.1 (o + 2) (x2 + x3).toNatClampNeg) fun x4 =>
  (f_Par_ofStretch N h o a2 1).bind fun x5 =>
  gd (ix (x2 + x5) 64) <|
  bn (h.1 (o + 2) (x2 + x5).toNatClampNeg) fun x6 =>
  jn (fun (x8 : Int32) =>
    if x8 < 1000 then
      some x8
    else
      some (-1)) fun j7 =>
  if x6 ≤ x4 then
    j7 x6
  else
    j7 x4
def f_Par_stretches (N : Nat) (h : mu_H) (o : Nat) : Option Int32 :=
  some (h.1 o 2)
def f_Par_take (N : Nat) (h : mu_H) (o : Nat) (p1 : Nat) : Option mu_H :=
  gd (cpk 0 0 80 80 80) <|
  bn (ur h (o + 1) (va_cpy (h.1 (p1 + 1)) (h.1 (o + 1)) (0 : Int32).toNatClampNeg (0 : Int32).toNatClampNeg (80 : Int32).toNatClampNeg)) fun h1 =>
  bn (ui h1 o 2 (h1.1 p1 2)) fun h2 =>
  bn (ui h2 o 3 (h2.1 p1 3)) fun h3 =>
  (f_Par_measure N h3 o).bind fun h4 =>
  some h4
def f_Par_touches (N : Nat) (h : mu_H) (o : Nat) (a1 : Int32) (a2 : Int32) : Option Int32 :=
  (f_Par_ofStretch N h o a1 0).bind fun x1 =>
  if x1 = a2 then
    some 1
  else
    (f_Par_ofStretch N h o a1 1).bind fun x2 =>
    if x2 = a2 then
      some 1
    else
      some 0
def f_Sta_readFrom (N : Nat) (h : mu_H) (o : Nat) (a2 : Int32) : Option mu_H :=
  if a2 < 0 then
    some h
  else
    if 1360 < a2 + 34 then
      some h
    else
      gd (cpk a2 0 34 1360 34) <|
      bn (ur h (o + 1) (va_cpy (h.1 21) (h.1 (o + 1)) a2.toNatClampNeg (0 : Int32).toNatClampNeg (34 : Int32).toNatClampNeg)) fun h1 =>
      some h1
def f_Pas_bringBack (N : Nat) (h : mu_H) (p1 : Nat) : Option (Int32 × mu_H) :=
  if h.1 20 1 = 0 then
    some (0, h)
  else
    bn (ui h 20 1 ((h.1 20 1) - 1)) fun h1 =>
    bn (ui h1 20 2 ((((h1.1 20 2) + 40) - 1) - (((h1.1 20 2) + 40) - 1) / 40 * 40)) fun h2 =>
    (f_Sta_readFrom N h2 p1 ((h2.1 20 2) * 34)).bind fun h3 =>
    some (1, h3)
def f_Pas_forget (N : Nat) (h : mu_H) : Option mu_H :=
  bn (ui h 20 1 0) fun h1 =>
  some h1
def f_Sta_writeTo (N : Nat) (h : mu_H) (o : Nat) (a2 : Int32) : Option mu_H :=
  if a2 < 0 then
    some h
  else
    if 1360 < a2 + 34 then
      some h
    else
      gd (cpk 0 a2 34 34 1360) <|
      bn (ur h 21 (va_cpy (h.1 (o + 1)) (h.1 21) (0 : Int32).toNatClampNeg a2.toNatClampNeg (34 : Int32).toNatClampNeg)) fun h1 =>
      some h1
def f_Pas_keep (N : Nat) (h : mu_H) (p1 : Nat) : Option mu_H :=
  (f_Sta_writeTo N h p1 ((h.1 20 2) * 34)).bind fun h1 =>
  bn (ui h1 20 2 (((h1.1 20 2) + 1) - ((h1.1 20 2) + 1) / 40 * 40)) fun h2 =>
  if 40 ≤ h2.1 20 1 then
    some h2
  else
    bn (ui h2 20 1 ((h2.1 20 1) + 1)) fun h3 =>
    some h3
def f_Pas_size (N : Nat) (h : mu_H) : Option Int32 :=
  some (h.1 20 1)
def f_Sta_addToBox (N : Nat) (h : mu_H) (o : Nat) (a1 : Int32) : Option mu_H :=
  gd (ix 30 34) <|
  gd (ix 30 34) <|
  bn (ui h (o + 1) (30 : Int32).toNatClampNeg ((h.1 (o + 1) (30 : Int32).toNatClampNeg) + a1)) fun h1 =>
  some h1
def f_Sta_sum_L5 (h : mu_H) (o : Nat) (a1 : Int32) (a2 : Int32) (rec1 : (Int32 × Int32) → Option Int32) : (Int32 × Int32) → Option Int32 := fun ((x2, x3) : Int32 × Int32) =>
  if a2 ≤ x3 then
    some x2
  else
    gd (ix (a1 + x3) 34) <|
    bn (x2 + (h.1 (o + 1) (a1 + x3).toNatClampNeg)) fun x4 =>
    rec1 (x4, x3 + 1)
def f_Sta_sum (N : Nat) (h : mu_H) (o : Nat) (a1 : Int32) (a2 : Int32) : Option Int32 :=
  lp (f_Sta_sum_L5 h o a1 a2) N (0, 0)
def f_Sta_allDebt (N : Nat) (h : mu_H) (o : Nat) : Option Int32 :=
  (f_Sta_sum N h o 24 6).bind fun x1 =>
  some x1
def f_Sta_allOwed (N : Nat) (h : mu_H) (o : Nat) : Option Int32 :=
  (f_Sta_sum N h o 18 6).bind fun x1 =>
  some x1
def f_Sta_allWear (N : Nat) (h : mu_H) (o : Nat) : Option Int32 :=
  (f_Sta_sum N h o 0 9).bind fun x1 =>
  some x1
def f_Sta_wear (N : Nat) (h : mu_H) (o : Nat) (a1 : Int32) : Option Int32 :=
  gd (ix (0 + a1) 34) <|
  some (h.1 (o + 1) (0 + a1).toNatClampNeg)
def f_Sta_bad_L4 (N : Nat) (h : mu_H) (o : Nat) (rec1 : (Int32 × Int32) → Option Int32) : (Int32 × Int32) → Option Int32 := fun ((x2, x3) : Int32 × Int32) =>
  if 9 ≤ x3 then
    some x2
  else
    (f_Sta_wear N h o x3).bind fun x4 =>
    jn (fun (x6 : Int32) =>
      rec1 (x6, x3 + 1)) fun j5 =>
    if x4 < 60 then
      j5 x2
    else
      j5 (x2 + 1)
def f_Sta_bad (N : Nat) (h : mu_H) (o : Nat) : Option Int32 :=
  lp (f_Sta_bad_L4 N h o) N (0, 0)
def f_Sta_begin_L55 (N : Nat) (o : Nat) (p1 : Nat) (rec4 : (Int32 × mu_H) → Option mu_H) : (Int32 × mu_H) → Option mu_H := fun ((x5, h6) : Int32 × mu_H) =>
  (f_Par_houses N h6 p1).bind fun x7 =>
  if x7 ≤ x5 then
    some h6
  else
    (f_Par_ofRules N h6 p1 0).bind fun x8 =>
    gd (ix (18 + x5) 34) <|
    bn (ui h6 (o + 1) (18 + x5).toNatClampNeg x8) fun h9 =>
    rec4 (x5 + 1, h9)
def f_Sta_begin_L10 (N : Nat) (o : Nat) (p1 : Nat) (k2 : mu_H → Option mu_H) (rec10 : (Int32 × mu_H) → Option mu_H) : (Int32 × mu_H) → Option mu_H := fun ((x11, h12) : Int32 × mu_H) =>
  (f_Par_stretches N h12 p1).bind fun x13 =>
  if x13 ≤ x11 then
    k2 h12
  else
    (f_Par_ofStretch N h12 p1 x11 2).bind fun x14 =>
    gd (ix (0 + x11) 34) <|
    bn (ui h12 (o + 1) (0 + x11).toNatClampNeg x14) fun h15 =>
    (f_Par_ofStretch N h15 p1 x11 3).bind fun x16 =>
    gd (ix (9 + x11) 34) <|
    bn (ui h15 (o + 1) (9 + x11).toNatClampNeg x16) fun h17 =>
    rec10 (x11 + 1, h17)
def f_Sta_begin (N : Nat) (h : mu_H) (o : Nat) (p1 : Nat) : Option mu_H :=
  (f_Arr_fill N h (o + 1) 34 0).bind fun h1 =>
  jn (fun (h3 : mu_H) =>
    lp (f_Sta_begin_L55 N o p1) N (0, h3)) fun k2 =>
  lp (f_Sta_begin_L10 N o p1 k2) N (0, h1)
def f_Sta_box (N : Nat) (h : mu_H) (o : Nat) : Option Int32 :=
  gd (ix 30 34) <|
  some (h.1 (o + 1) (30 : Int32).toNatClampNeg)
def f_Sta_countWork (N : Nat) (h : mu_H) (o : Nat) : Option mu_H :=
  gd (ix 32 34) <|
  gd (ix 32 34) <|
  bn (ui h (o + 1) (32 : Int32).toNatClampNeg ((h.1 (o + 1) (32 : Int32).toNatClampNeg) + 1)) fun h1 =>
  some h1
def f_Sta_debt (N : Nat) (h : mu_H) (o : Nat) (a1 : Int32) : Option Int32 :=
  gd (ix (24 + a1) 34) <|
  some (h.1 (o + 1) (24 + a1).toNatClampNeg)
def f_Sta_isWinter (N : Nat) (h : mu_H) (o : Nat) : Option Int32 :=
  gd (ix 31 34) <|
  if (h.1 (o + 1) (31 : Int32).toNatClampNeg) - (h.1 (o + 1) (31 : Int32).toNatClampNeg) / 4 * 4 = 3 then
    some 1
  else
    some 0
def f_Sta_logLength (N : Nat) (h : mu_H) (o : Nat) : Option Int32 :=
  gd (ix 33 34) <|
  if 60 ≤ h.1 (o + 1) (33 : Int32).toNatClampNeg then
    some 60
  else
    gd (ix 33 34) <|
    some (h.1 (o + 1) (33 : Int32).toNatClampNeg)
def f_Sta_logged (N : Nat) (h : mu_H) (o : Nat) (a1 : Int32) (a2 : Int32) : Option Int32 :=
  if a1 < 0 then
    some (-1)
  else
    (f_Sta_logLength N h o).bind fun x1 =>
    if x1 ≤ a1 then
      some (-1)
    else
      if a2 < 0 then
        some (-1)
      else
        if a2 < 3 then
          gd (ix 33 34) <|
          gd (ix ((((((h.1 (o + 1) (33 : Int32).toNatClampNeg) - 1) - a1) - (((h.1 (o + 1) (33 : Int32).toNatClampNeg) - 1) - a1) / 100 * 100) * 3) + a2) 300) <|
          some (h.1 (o + 2) ((((((h.1 (o + 1) (33 : Int32).toNatClampNeg) - 1) - a1) - (((h.1 (o + 1) (33 : Int32).toNatClampNeg) - 1) - a1) / 100 * 100) * 3) + a2).toNatClampNeg)
        else
          some (-1)
def f_Sta_nextSeason (N : Nat) (h : mu_H) (o : Nat) : Option mu_H :=
  gd (ix 31 34) <|
  gd (ix 31 34) <|
  bn (ui h (o + 1) (31 : Int32).toNatClampNeg ((h.1 (o + 1) (31 : Int32).toNatClampNeg) + 1)) fun h1 =>
  some h1
def f_Sta_owed (N : Nat) (h : mu_H) (o : Nat) (a1 : Int32) : Option Int32 :=
  gd (ix (18 + a1) 34) <|
  some (h.1 (o + 1) (18 + a1).toNatClampNeg)
def f_Sta_season (N : Nat) (h : mu_H) (o : Nat) : Option Int32 :=
  gd (ix 31 34) <|
  some (h.1 (o + 1) (31 : Int32).toNatClampNeg)
def f_Sta_setDebt (N : Nat) (h : mu_H) (o : Nat) (a1 : Int32) (a2 : Int32) : Option mu_H :=
  gd (ix (24 + a1) 34) <|
  bn (ui h (o + 1) (24 + a1).toNatClampNeg a2) fun h1 =>
  some h1
def f_Sta_setOwed (N : Nat) (h : mu_H) (o : Nat) (a1 : Int32) (a2 : Int32) : Option mu_H :=
  gd (ix (18 + a1) 34) <|
  bn (ui h (o + 1) (18 + a1).toNatClampNeg a2) fun h1 =>
  some h1
def f_Sta_setWear (N : Nat) (h : mu_H) (o : Nat) (a1 : Int32) (a2 : Int32) : Option mu_H :=
  gd (ix (0 + a1) 34) <|
  bn (ui h (o + 1) (0 + a1).toNatClampNeg a2) fun h1 =>
  some h1
def f_Sta_setWet (N : Nat) (h : mu_H) (o : Nat) (a1 : Int32) (a2 : Int32) : Option mu_H :=
  gd (ix (9 + a1) 34) <|
  bn (ui h (o + 1) (9 + a1).toNatClampNeg a2) fun h1 =>
  some h1
def f_Sta_takeAll (N : Nat) (h : mu_H) (o : Nat) (p1 : Nat) : Option mu_H :=
  gd (cpk 0 0 34 34 34) <|
  bn (ur h (o + 1) (va_cpy (h.1 (p1 + 1)) (h.1 (o + 1)) (0 : Int32).toNatClampNeg (0 : Int32).toNatClampNeg (34 : Int32).toNatClampNeg)) fun h1 =>
  gd (cpk 0 0 300 300 300) <|
  bn (ur h1 (o + 2) (va_cpy (h1.1 (p1 + 2)) (h1.1 (o + 2)) (0 : Int32).toNatClampNeg (0 : Int32).toNatClampNeg (300 : Int32).toNatClampNeg)) fun h2 =>
  some h2
def f_Sta_wet (N : Nat) (h : mu_H) (o : Nat) (a1 : Int32) : Option Int32 :=
  gd (ix (9 + a1) 34) <|
  some (h.1 (o + 1) (9 + a1).toNatClampNeg)
def f_Sta_worked (N : Nat) (h : mu_H) (o : Nat) : Option Int32 :=
  gd (ix 32 34) <|
  some (h.1 (o + 1) (32 : Int32).toNatClampNeg)
def f_Sta_writeLog (N : Nat) (h : mu_H) (o : Nat) : Option mu_H :=
  gd (ix 33 34) <|
  bn (((h.1 (o + 1) (33 : Int32).toNatClampNeg) - (h.1 (o + 1) (33 : Int32).toNatClampNeg) / 100 * 100) * 3) fun x1 =>
  (f_Sta_allWear N h o).bind fun x2 =>
  gd (ix x1 300) <|
  bn (ui h (o + 2) x1.toNatClampNeg x2) fun h3 =>
  (f_Sta_bad N h3 o).bind fun x4 =>
  gd (ix (x1 + 1) 300) <|
  bn (ui h3 (o + 2) (x1 + 1).toNatClampNeg x4) fun h5 =>
  gd (ix 32 34) <|
  gd (ix (x1 + 2) 300) <|
  bn (ui h5 (o + 2) (x1 + 2).toNatClampNeg (h5.1 (o + 1) (32 : Int32).toNatClampNeg)) fun h6 =>
  gd (ix 33 34) <|
  gd (ix 33 34) <|
  bn (ui h6 (o + 1) (33 : Int32).toNatClampNeg ((h6.1 (o + 1) (33 : Int32).toNatClampNeg) + 1)) fun h7 =>
  gd (ix 32 34) <|
  bn (ui h7 (o + 1) (32 : Int32).toNatClampNeg 0) fun h8 =>
  some h8
set_option maxRecDepth 20000 in
theorem cb_Int_bitCount (X : mu_X) (N : Nat) (h : mu_H) (a0 : Int32) : aG X m_Int_bitCount (rmk 1) (fun _ => ax X) (fun _ _ _ => True) 0 0 (fun r : Int32 => qI X r h) (f_Int_bitCount N h a0) 0 [(0, .int a0)] [] h := by
  unfold f_Int_bitCount
  refine ro_iload_n (pc := 0) 0 dJ6_bitCount_0f7a4_0 rfl rfl ?_
  refine ro_iload_n (pc := 1) 0 dJ6_bitCount_0f7a4_1 rfl rfl ?_
  refine ro_iconst (v := 1) (pc := 2) dJ6_bitCount_0f7a4_2 (by decide) ?_
  refine ro_iushr (pc := 3) dJ6_bitCount_0f7a4_3 ?_
  refine ro_ldcw (v := 1431655765) (pc := 4) dJ6_bitCount_0f7a4_4 wd_1087 ?_
  refine ro_iand (pc := 7) dJ6_bitCount_0f7a4_7 ?_
  refine ro_isub (pc := 8) dJ6_bitCount_0f7a4_8 ?_
  refine ro_bn (fun x1 => ?_)
  refine ro_istore_n (pc := 9) (lv' := [(0, .int x1)]) dJ6_bitCount_0f7a4_9 rfl (by decide) rfl ?_
  refine ro_iload_n (pc := 10) 0 dJ6_bitCount_0f7a4_10 rfl rfl ?_
  refine ro_ldcw (v := 858993459) (pc := 11) dJ6_bitCount_0f7a4_11 wd_1088 ?_
  refine ro_iand (pc := 14) dJ6_bitCount_0f7a4_14 ?_
  refine ro_iload_n (pc := 15) 0 dJ6_bitCount_0f7a4_15 rfl rfl ?_
  refine ro_iconst (v := 2) (pc := 16) dJ6_bitCount_0f7a4_16 (by decide) ?_
  refine ro_iushr (pc := 17) dJ6_bitCount_0f7a4_17 ?_
  refine ro_ldcw (v := 858993459) (pc := 18) dJ6_bitCount_0f7a4_18 wd_1088 ?_
  refine ro_iand (pc := 21) dJ6_bitCount_0f7a4_21 ?_
  refine ro_iadd (pc := 22) dJ6_bitCount_0f7a4_22 ?_
  refine ro_bn (fun x2 => ?_)
  refine ro_istore_n (pc := 23) (lv' := [(0, .int x2)]) dJ6_bitCount_0f7a4_23 rfl (by decide) rfl ?_
  refine ro_iload_n (pc := 24) 0 dJ6_bitCount_0f7a4_24 rfl rfl ?_
  refine ro_iload_n (pc := 25) 0 dJ6_bitCount_0f7a4_25 rfl rfl ?_
  refine ro_iconst (v := 4) (pc := 26) dJ6_bitCount_0f7a4_26 (by decide) ?_
  refine ro_iushr (pc := 27) dJ6_bitCount_0f7a4_27 ?_
  refine ro_iadd (pc := 28) dJ6_bitCount_0f7a4_28 ?_
  refine ro_ldcw (v := 252645135) (pc := 29) dJ6_bitCount_0f7a4_29 wd_1089 ?_
  refine ro_iand (pc := 32) dJ6_bitCount_0f7a4_32 ?_
  refine ro_bn (fun x3 => ?_)
  refine ro_istore_n (pc := 33) (lv' := [(0, .int x3)]) dJ6_bitCount_0f7a4_33 rfl (by decide) rfl ?_
  refine ro_iload_n (pc := 34) 0 dJ6_bitCount_0f7a4_34 rfl rfl ?_
  refine ro_iload_n (pc := 35) 0 dJ6_bitCount_0f7a4_35 rfl rfl ?_
  refine ro_bipush (v := 8) (pc := 36) dJ6_bitCount_0f7a4_36 (by decide) ?_
  refine ro_iushr (pc := 38) dJ6_bitCount_0f7a4_38 ?_
  refine ro_iadd (pc := 39) dJ6_bitCount_0f7a4_39 ?_
  refine ro_bn (fun x4 => ?_)
  refine ro_istore_n (pc := 40) (lv' := [(0, .int x4)]) dJ6_bitCount_0f7a4_40 rfl (by decide) rfl ?_
  refine ro_iload_n (pc := 41) 0 dJ6_bitCount_0f7a4_41 rfl rfl ?_
  refine ro_iload_n (pc := 42) 0 dJ6_bitCount_0f7a4_42 rfl rfl ?_
  refine ro_bipush (v := 16) (pc := 43) dJ6_bitCount_0f7a4_43 (by decide) ?_
  refine ro_iushr (pc := 45) dJ6_bitCount_0f7a4_45 ?_
  refine ro_iadd (pc := 46) dJ6_bitCount_0f7a4_46 ?_
  refine ro_bn (fun x5 => ?_)
  refine ro_istore_n (pc := 47) (lv' := [(0, .int x5)]) dJ6_bitCount_0f7a4_47 rfl (by decide) rfl ?_
  refine ro_iload_n (pc := 48) 0 dJ6_bitCount_0f7a4_48 rfl rfl ?_
  refine ro_bipush (v := 63) (pc := 49) dJ6_bitCount_0f7a4_49 (by decide) ?_
  refine ro_iand (pc := 51) dJ6_bitCount_0f7a4_51 ?_
  exact ro_iret (pc := 52) rfl rfl dJ6_bitCount_0f7a4_52
theorem c_Int_bitCount (X : mu_X) (N : Nat) (h : mu_H) (a0 : Int32) : ∀ r, f_Int_bitCount N h a0 = some r → mI X m_Int_bitCount 1 [.int a0] h r h := fun r hr => mI_of (by decide) rfl (Nat.le_of_ble_eq_true rfl) rfl (cb_Int_bitCount X N h a0 r hr)
set_option maxRecDepth 20000 in
theorem cb_Arr_fill (X : mu_X) (N : Nat) (h : mu_H) (q0 n0 : Nat) (hl_q0 : q0 < nn) (hc_q0 : ∀ f g, ce X q0 f g = .inl (xc X 0, n0, .inl f)) (a1 : Int32) : aG X m_Arr_fill (rmk 1) (fun _ => ax X) (fun _ _ _ => True) 0 0 (fun r : mu_H => qV X r) (f_Arr_fill N h q0 n0 a1) 0 [(0, .ref (xa X q0)), (1, .int a1)] [] h := by
  unfold f_Arr_fill
  refine ro_iconst (v := 0) (pc := 0) dJ7_fill_53178_0 (by decide) ?_
  refine ro_istore_n (pc := 1) (lv' := [(2, .int 0), (0, .ref (xa X q0)), (1, .int a1)]) dJ7_fill_53178_1 rfl (by decide) rfl ?_
  refine ro_aload_n (pc := 2) 1 dJ7_fill_53178_2 rfl rfl ?_
  refine ro_alen (pc := 3) (n := n0) (v := Int32.ofNat n0) hl_q0 (fun f g => ⟨_, hc_q0 f g⟩) rfl rfl dJ7_fill_53178_3 ?_
  refine ro_bn (fun x1 => ?_)
  refine ro_istore_n (pc := 4) (lv' := [(3, .int x1), (2, .int 0), (0, .ref (xa X q0)), (1, .int a1)]) dJ7_fill_53178_4 rfl (by decide) rfl ?_
  refine ro_lv [2, 3, 1, 0] rfl ?_
  refine ro_lp (pc := 5) (lvs := fun (s : Int32 × mu_H) => [(0, .ref (xa X q0)), (1, .int a1), (2, .int s.1), (3, .int x1)]) (hs := fun (s : Int32 × mu_H) => s.2) (fun rec2 hrec2 s => ?_) N (0, h)
  obtain ⟨x3, h4⟩ := s; unfold f_Arr_fill_L5; try dsimp only
  refine ro_iload_n (pc := 5) 2 dJ7_fill_53178_5 rfl rfl ?_
  refine ro_iload_n (pc := 6) 3 dJ7_fill_53178_6 rfl rfl ?_
  refine ro_icmp_ge (tgt := 20) (pc := 7) dJ7_fill_53178_7 (by decide) (fun _ => ?_) (fun _ => ?_)
  · skip
    exact ro_vret (pc := 20) rfl rfl dJ7_fill_53178_20
  · skip
    refine ro_aload_n (pc := 10) 0 dJ7_fill_53178_10 rfl rfl ?_
    refine ro_iload_n (pc := 11) 2 dJ7_fill_53178_11 rfl rfl ?_
    refine ro_iload_n (pc := 12) 1 dJ7_fill_53178_12 rfl rfl ?_
    refine ro_iast (pc := 13) (n := n0) hl_q0 hc_q0 dJ7_fill_53178_13 ?_
    refine ro_bnh (fun h5 => ?_)
    refine ro_iinc (pc := 14) (v := x3 + 1) (lv' := [(2, .int (x3 + 1)), (0, .ref (xa X q0)), (1, .int a1), (3, .int x1)]) 2 dJ7_fill_53178_14 rfl rfl (by decide) rfl ?_
    refine ro_goto (tgt := 5) (pc := 17) dJ7_fill_53178_17 (by decide) ?_
    refine ro_lv [1, 2, 0, 3] rfl ?_
    exact hrec2 (x3 + 1, h5)
theorem c_Arr_fill (X : mu_X) (N : Nat) (h : mu_H) (q0 n0 : Nat) (hl_q0 : q0 < nn) (hc_q0 : ∀ f g, ce X q0 f g = .inl (xc X 0, n0, .inl f)) (a1 : Int32) : ∀ r, f_Arr_fill N h q0 n0 a1 = some r → mV X m_Arr_fill 1 [.ref (xa X q0), .int a1] h r := fun r hr => mV_of (by decide) rfl (Nat.le_of_ble_eq_true rfl) rfl (cb_Arr_fill X N h q0 n0 hl_q0 hc_q0 a1 r hr)
set_option maxRecDepth 20000 in
theorem cb_Tap_add (X : mu_X) (N : Nat) (h : mu_H) (a1 : Int32) : aG X m_Tap_add (rmk 1) (fun _ => ax X) (fun _ _ _ => True) 0 0 (fun r : mu_H => qV X r) (f_Tap_add N h a1) 0 [(0, .ref (xa X 1)), (1, .int a1)] [] h := by
  unfold f_Tap_add
  refine ro_bipush (v := 24) (pc := 0) dX10_add_0 (by decide) ?_
  refine ro_istore_n (pc := 2) (lv' := [(2, .int 24), (0, .ref (xa X 1)), (1, .int a1)]) dX10_add_2 rfl (by decide) rfl ?_
  refine ro_lv [1, 2, 0] rfl ?_
  refine ro_lp (pc := 3) (lvs := fun (s : Int32 × mu_H) => [(0, .ref (xa X 1)), (1, .int a1), (2, .int s.1)]) (hs := fun (s : Int32 × mu_H) => s.2) (fun rec1 hrec1 s => ?_) N (24, h)
  obtain ⟨x2, h3⟩ := s; unfold f_Tap_add_L3; try dsimp only
  refine ro_iload_n (pc := 3) 2 dX10_add_3 rfl rfl ?_
  refine ro_if_lt (tgt := 56) (pc := 4) dX10_add_4 (by decide) (fun _ => ?_) (fun _ => ?_)
  · skip
    exact ro_vret (pc := 56) rfl rfl dX10_add_56
  · skip
    refine ro_iload_n (pc := 7) 1 dX10_add_7 rfl rfl ?_
    refine ro_iload_n (pc := 8) 2 dX10_add_8 rfl rfl ?_
    refine ro_iushr (pc := 9) dX10_add_9 ?_
    refine ro_sipush (v := 255) (pc := 10) dX10_add_10 (by decide) ?_
    refine ro_iand (pc := 13) dX10_add_13 ?_
    refine ro_bn (fun x4 => ?_)
    refine ro_istore_n (pc := 14) (lv' := [(3, .int x4), (0, .ref (xa X 1)), (1, .int a1), (2, .int x2)]) dX10_add_14 rfl (by decide) rfl ?_
    refine ro_iload_n (pc := 15) 0 dX10_add_15 rfl rfl ?_
    refine ro_jn (pcj := 50) (lvs := fun (s : mu_H) => [(0, .ref (xa X 1)), (1, .int a1), (2, .int x2)]) (hs := fun (s : mu_H) => s) (sts := fun (s : mu_H) => []) (fun h6 => ?_) (fun j5 hj5 => ?_)
    · try dsimp only
      refine ro_iinc (pc := 50) (v := x2 + (-8)) (lv' := [(2, .int (x2 + (-8))), (0, .ref (xa X 1)), (1, .int a1)]) 2 dX10_add_50 rfl rfl (by decide) rfl ?_
      refine ro_goto (tgt := 3) (pc := 53) dX10_add_53 (by decide) ?_
      refine ro_lv [1, 2, 0] rfl ?_
      exact hrec1 (x2 + (-8), h6)
    · skip
      refine ro_if_eq (tgt := 50) (pc := 16) dX10_add_16 (by decide) (fun _ => ?_) (fun _ => ?_)
      · skip
        refine ro_lv [1, 2, 3] rfl ?_
        exact hj5 h3
      · skip
        refine ro_aload_n (pc := 19) 1 dX10_add_19 rfl rfl ?_
        refine gf_X10_1 (pc := 20) wd_131 dX10_add_20 ?_
        refine ro_sipush (v := 240) (pc := 23) dX10_add_23 (by decide) ?_
        refine ro_icmp_ge (tgt := 50) (pc := 26) dX10_add_26 (by decide) (fun _ => ?_) (fun _ => ?_)
        · skip
          refine ro_lv [1, 2, 3] rfl ?_
          exact hj5 h3
        · skip
          refine ro_aload_n (pc := 29) 1 dX10_add_29 rfl rfl ?_
          refine gf_X10_0 (pc := 30) wd_130 dX10_add_30 ?_
          refine ro_aload_n (pc := 33) 1 dX10_add_33 rfl rfl ?_
          refine gf_X10_1 (pc := 34) wd_131 dX10_add_34 ?_
          refine ro_iload_n (pc := 37) 0 dX10_add_37 rfl rfl ?_
          refine ro_i2b (pc := 38) dX10_add_38 ?_
          refine ro_bast (pc := 39) (n := 240) cl_2 cv_2 dX10_add_39 ?_
          refine ro_bnh (fun h7 => ?_)
          refine ro_aload_n (pc := 40) 1 dX10_add_40 rfl rfl ?_
          refine ro_dup (pc := 41) dX10_add_41 rfl ?_
          refine gf_X10_1 (pc := 42) wd_131 dX10_add_42 ?_
          refine ro_iconst (v := 1) (pc := 45) dX10_add_45 (by decide) ?_
          refine ro_iadd (pc := 46) dX10_add_46 ?_
          refine pf_X10_1 (pc := 47) wd_131 dX10_add_47 ?_
          refine ro_bnh (fun h8 => ?_)
          refine ro_lv [1, 2, 3] rfl ?_
          exact hj5 h8
theorem c_Tap_add (X : mu_X) (N : Nat) (h : mu_H) (a1 : Int32) : ∀ r, f_Tap_add N h a1 = some r → mV X m_Tap_add 1 [.ref (xa X 1), .int a1] h r := fun r hr => mV_of (by decide) rfl (Nat.le_of_ble_eq_true rfl) rfl (cb_Tap_add X N h a1 r hr)
set_option maxRecDepth 20000 in
theorem cb_Tap_sign (X : mu_X) (N : Nat) (h : mu_H) (a1 : Int32) : aG X m_Tap_sign (rmk 1) (fun _ => ax X) (fun _ _ _ => True) 0 0 (fun r : Int32 => qI X r h) (f_Tap_sign N h a1) 0 [(0, .ref (xa X 1)), (1, .int a1)] [] h := by
  unfold f_Tap_sign
  refine ro_iload_n (pc := 0) 1 dX10_sign_0 rfl rfl ?_
  refine ro_if_lt (tgt := 25) (pc := 1) dX10_sign_1 (by decide) (fun _ => ?_) (fun _ => ?_)
  · skip
    refine ro_iconst (v := 0) (pc := 25) dX10_sign_25 (by decide) ?_
    exact ro_iret (pc := 26) rfl rfl dX10_sign_26
  · skip
    refine ro_iload_n (pc := 4) 1 dX10_sign_4 rfl rfl ?_
    refine ro_aload_n (pc := 5) 0 dX10_sign_5 rfl rfl ?_
    refine gf_X10_1 (pc := 6) wd_131 dX10_sign_6 ?_
    refine ro_icmp_ge (tgt := 25) (pc := 9) dX10_sign_9 (by decide) (fun _ => ?_) (fun _ => ?_)
    · skip
      refine ro_iconst (v := 0) (pc := 25) dX10_sign_25 (by decide) ?_
      exact ro_iret (pc := 26) rfl rfl dX10_sign_26
    · skip
      refine ro_aload_n (pc := 12) 0 dX10_sign_12 rfl rfl ?_
      refine gf_X10_0 (pc := 13) wd_130 dX10_sign_13 ?_
      refine ro_iload_n (pc := 16) 1 dX10_sign_16 rfl rfl ?_
      refine ro_bald (pc := 17) (n := 240) cl_2 cv_2 dX10_sign_17 ?_
      refine ro_sipush (v := 255) (pc := 18) dX10_sign_18 (by decide) ?_
      refine ro_iand (pc := 21) dX10_sign_21 ?_
      refine ro_goto (tgt := 26) (pc := 22) dX10_sign_22 (by decide) ?_
      exact ro_iret (pc := 26) rfl rfl dX10_sign_26
theorem c_Tap_sign (X : mu_X) (N : Nat) (h : mu_H) (a1 : Int32) : ∀ r, f_Tap_sign N h a1 = some r → mI X m_Tap_sign 1 [.ref (xa X 1), .int a1] h r h := fun r hr => mI_of (by decide) rfl (Nat.le_of_ble_eq_true rfl) rfl (cb_Tap_sign X N h a1 r hr)
set_option maxRecDepth 20000 in
theorem cb_Tap_isDigit (X : mu_X) (N : Nat) (h : mu_H) (a1 : Int32) : aG X m_Tap_isDigit (rmk 2) (fun _ => ax X) (fun _ _ _ => True) 0 0 (fun r : Int32 => qI X r h) (f_Tap_isDigit N h a1) 0 [(0, .ref (xa X 1)), (1, .int a1)] [] h := by
  unfold f_Tap_isDigit
  refine ro_aload_n (pc := 0) 0 dX10_isDigit_0 rfl rfl ?_
  refine ro_iload_n (pc := 1) 1 dX10_isDigit_1 rfl rfl ?_
  refine ro_cvP (pc := 2) (kc := 1) (avs := [.int a1]) (st := []) ok_Tap_sign wd_484 cl_1 cv_1 rfl ⟨by decide, by decide⟩ ⟨Nat.zero_le _, Nat.zero_le _⟩ (c_Tap_sign X N h a1) rfl rfl (Nat.le_of_ble_eq_true rfl) dX10_isDigit_2 (fun x1 => ?_)
  refine ro_istore_n (pc := 5) (lv' := [(2, .int x1), (0, .ref (xa X 1)), (1, .int a1)]) dX10_isDigit_5 rfl (by decide) rfl ?_
  refine ro_iload_n (pc := 6) 0 dX10_isDigit_6 rfl rfl ?_
  refine ro_bipush (v := 48) (pc := 7) dX10_isDigit_7 (by decide) ?_
  refine ro_icmp_lt (tgt := 22) (pc := 9) dX10_isDigit_9 (by decide) (fun _ => ?_) (fun _ => ?_)
  · skip
    refine ro_iconst (v := 0) (pc := 22) dX10_isDigit_22 (by decide) ?_
    exact ro_zret (pc := 23) rfl rfl rfl dX10_isDigit_23
  · skip
    refine ro_iload_n (pc := 12) 0 dX10_isDigit_12 rfl rfl ?_
    refine ro_bipush (v := 57) (pc := 13) dX10_isDigit_13 (by decide) ?_
    refine ro_icmp_gt (tgt := 22) (pc := 15) dX10_isDigit_15 (by decide) (fun _ => ?_) (fun _ => ?_)
    · skip
      refine ro_iconst (v := 0) (pc := 22) dX10_isDigit_22 (by decide) ?_
      exact ro_zret (pc := 23) rfl rfl rfl dX10_isDigit_23
    · skip
      refine ro_iconst (v := 1) (pc := 18) dX10_isDigit_18 (by decide) ?_
      refine ro_goto (tgt := 23) (pc := 19) dX10_isDigit_19 (by decide) ?_
      exact ro_zret (pc := 23) rfl rfl rfl dX10_isDigit_23
theorem c_Tap_isDigit (X : mu_X) (N : Nat) (h : mu_H) (a1 : Int32) : ∀ r, f_Tap_isDigit N h a1 = some r → mI X m_Tap_isDigit 2 [.ref (xa X 1), .int a1] h r h := fun r hr => mI_of (by decide) rfl (Nat.le_of_ble_eq_true rfl) rfl (cb_Tap_isDigit X N h a1 r hr)
set_option maxRecDepth 20000 in
theorem cb_Tap_pastBlanks (X : mu_X) (N : Nat) (h : mu_H) (a1 : Int32) : aG X m_Tap_pastBlanks (rmk 1) (fun _ => ax X) (fun _ _ _ => True) 0 0 (fun r : Int32 => qI X r h) (f_Tap_pastBlanks N h a1) 0 [(0, .ref (xa X 1)), (1, .int a1)] [] h := by
  unfold f_Tap_pastBlanks
  refine ro_iload_n (pc := 0) 1 dX10_pastBlanks_0 rfl rfl ?_
  refine ro_jn (pcj := 9) (lvs := fun (s : Int32) => [(0, .ref (xa X 1))]) (hs := fun (s : Int32) => h) (sts := fun (s : Int32) => [.int s]) (fun x2 => ?_) (fun j1 hj1 => ?_)
  · try dsimp only
    refine ro_istore_n (pc := 9) (lv' := [(2, .int x2), (0, .ref (xa X 1))]) dX10_pastBlanks_9 rfl (by decide) rfl ?_
    refine ro_lv [1, 0] rfl ?_
    refine ro_lp (pc := 10) (lvs := fun (s : Int32) => [(0, .ref (xa X 1)), (2, .int s)]) (hs := fun (s : Int32) => h) (fun rec3 hrec3 x4 => ?_) N x2
    unfold f_Tap_pastBlanks_L10; try dsimp only
    refine ro_iload_n (pc := 10) 1 dX10_pastBlanks_10 rfl rfl ?_
    refine ro_aload_n (pc := 11) 0 dX10_pastBlanks_11 rfl rfl ?_
    refine gf_X10_1 (pc := 12) wd_131 dX10_pastBlanks_12 ?_
    refine ro_icmp_ge (tgt := 35) (pc := 15) dX10_pastBlanks_15 (by decide) (fun _ => ?_) (fun _ => ?_)
    · skip
      refine ro_iload_n (pc := 35) 1 dX10_pastBlanks_35 rfl rfl ?_
      exact ro_iret (pc := 36) rfl rfl dX10_pastBlanks_36
    · skip
      refine ro_aload_n (pc := 18) 0 dX10_pastBlanks_18 rfl rfl ?_
      refine gf_X10_0 (pc := 19) wd_130 dX10_pastBlanks_19 ?_
      refine ro_iload_n (pc := 22) 1 dX10_pastBlanks_22 rfl rfl ?_
      refine ro_bald (pc := 23) (n := 240) cl_2 cv_2 dX10_pastBlanks_23 ?_
      refine ro_bipush (v := 32) (pc := 24) dX10_pastBlanks_24 (by decide) ?_
      refine ro_icmp_ne (tgt := 35) (pc := 26) dX10_pastBlanks_26 (by decide) (fun _ => ?_) (fun _ => ?_)
      · skip
        refine ro_iload_n (pc := 35) 1 dX10_pastBlanks_35 rfl rfl ?_
        exact ro_iret (pc := 36) rfl rfl dX10_pastBlanks_36
      · skip
        refine ro_iinc (pc := 29) (v := x4 + 1) (lv' := [(2, .int (x4 + 1)), (0, .ref (xa X 1))]) 1 dX10_pastBlanks_29 rfl rfl (by decide) rfl ?_
        refine ro_goto (tgt := 10) (pc := 32) dX10_pastBlanks_32 (by decide) ?_
        refine ro_lv [1, 0] rfl ?_
        exact hrec3 (x4 + 1)
  · skip
    refine ro_if_ge (tgt := 8) (pc := 1) dX10_pastBlanks_1 (by decide) (fun _ => ?_) (fun _ => ?_)
    · skip
      refine ro_iload_n (pc := 8) 1 dX10_pastBlanks_8 rfl rfl ?_
      refine ro_lv [0] rfl ?_
      exact hj1 a1
    · skip
      refine ro_iconst (v := 0) (pc := 4) dX10_pastBlanks_4 (by decide) ?_
      refine ro_goto (tgt := 9) (pc := 5) dX10_pastBlanks_5 (by decide) ?_
      refine ro_lv [0] rfl ?_
      exact hj1 0
theorem c_Tap_pastBlanks (X : mu_X) (N : Nat) (h : mu_H) (a1 : Int32) : ∀ r, f_Tap_pastBlanks N h a1 = some r → mI X m_Tap_pastBlanks 1 [.ref (xa X 1), .int a1] h r h := fun r hr => mI_of (by decide) rfl (Nat.le_of_ble_eq_true rfl) rfl (cb_Tap_pastBlanks X N h a1 r hr)
set_option maxRecDepth 20000 in
theorem cb_Tap_shorten (X : mu_X) (N : Nat) (h : mu_H) (a1 : Int32) : aG X m_Tap_shorten (rmk 1) (fun _ => ax X) (fun _ _ _ => True) 0 0 (fun r : Int32 × mu_H => qI X r.1 r.2) (f_Tap_shorten N h a1) 0 [(0, .ref (xa X 1)), (1, .int a1)] [] h := by
  unfold f_Tap_shorten
  refine ro_iload_n (pc := 0) 1 dX10_shorten_0 rfl rfl ?_
  refine ro_if_lt (tgt := 12) (pc := 1) dX10_shorten_1 (by decide) (fun _ => ?_) (fun _ => ?_)
  · skip
    refine ro_iconst (v := 0) (pc := 12) dX10_shorten_12 (by decide) ?_
    exact ro_zret (pc := 13) rfl rfl rfl dX10_shorten_13
  · skip
    refine ro_iload_n (pc := 4) 1 dX10_shorten_4 rfl rfl ?_
    refine ro_aload_n (pc := 5) 0 dX10_shorten_5 rfl rfl ?_
    refine gf_X10_1 (pc := 6) wd_131 dX10_shorten_6 ?_
    refine ro_icmp_le (tgt := 14) (pc := 9) dX10_shorten_9 (by decide) (fun _ => ?_) (fun _ => ?_)
    · skip
      refine ro_aload_n (pc := 14) 0 dX10_shorten_14 rfl rfl ?_
      refine ro_iload_n (pc := 15) 1 dX10_shorten_15 rfl rfl ?_
      refine pf_X10_1 (pc := 16) wd_131 dX10_shorten_16 ?_
      refine ro_bnh (fun h1 => ?_)
      refine ro_iconst (v := 1) (pc := 19) dX10_shorten_19 (by decide) ?_
      exact ro_zret (pc := 20) rfl rfl rfl dX10_shorten_20
    · skip
      refine ro_iconst (v := 0) (pc := 12) dX10_shorten_12 (by decide) ?_
      exact ro_zret (pc := 13) rfl rfl rfl dX10_shorten_13
theorem c_Tap_shorten (X : mu_X) (N : Nat) (h : mu_H) (a1 : Int32) : ∀ r, f_Tap_shorten N h a1 = some r → mI X m_Tap_shorten 1 [.ref (xa X 1), .int a1] h r.1 r.2 := fun r hr => mI_of (by decide) rfl (Nat.le_of_ble_eq_true rfl) rfl (cb_Tap_shorten X N h a1 r hr)
set_option maxRecDepth 20000 in
theorem cb_Tap_signsIn (X : mu_X) (N : Nat) (h : mu_H) (a0 : Int32) : aG X m_Tap_signsIn (rmk 1) (fun _ => ax X) (fun _ _ _ => True) 0 0 (fun r : Int32 => qI X r h) (f_Tap_signsIn N h a0) 0 [(0, .int a0)] [] h := by
  unfold f_Tap_signsIn
  refine ro_iconst (v := 0) (pc := 0) dX10_signsIn_0 (by decide) ?_
  refine ro_istore_n (pc := 1) (lv' := [(1, .int 0), (0, .int a0)]) dX10_signsIn_1 rfl (by decide) rfl ?_
  refine ro_bipush (v := 24) (pc := 2) dX10_signsIn_2 (by decide) ?_
  refine ro_istore_n (pc := 4) (lv' := [(2, .int 24), (1, .int 0), (0, .int a0)]) dX10_signsIn_4 rfl (by decide) rfl ?_
  refine ro_lv [2, 1, 0] rfl ?_
  refine ro_lp (pc := 5) (lvs := fun (s : Int32 × Int32) => [(0, .int a0), (1, .int s.1), (2, .int s.2)]) (hs := fun (s : Int32 × Int32) => h) (fun rec1 hrec1 s => ?_) N (0, 24)
  obtain ⟨x2, x3⟩ := s; unfold f_Tap_signsIn_L5; try dsimp only
  refine ro_iload_n (pc := 5) 2 dX10_signsIn_5 rfl rfl ?_
  refine ro_if_lt (tgt := 28) (pc := 6) dX10_signsIn_6 (by decide) (fun _ => ?_) (fun _ => ?_)
  · skip
    refine ro_iload_n (pc := 28) 1 dX10_signsIn_28 rfl rfl ?_
    exact ro_iret (pc := 29) rfl rfl dX10_signsIn_29
  · skip
    refine ro_iload_n (pc := 9) 0 dX10_signsIn_9 rfl rfl ?_
    refine ro_iload_n (pc := 10) 2 dX10_signsIn_10 rfl rfl ?_
    refine ro_iushr (pc := 11) dX10_signsIn_11 ?_
    refine ro_sipush (v := 255) (pc := 12) dX10_signsIn_12 (by decide) ?_
    refine ro_iand (pc := 15) dX10_signsIn_15 ?_
    refine ro_jn (pcj := 22) (lvs := fun (s : Int32) => [(0, .int a0), (1, .int s), (2, .int x3)]) (hs := fun (s : Int32) => h) (sts := fun (s : Int32) => []) (fun x5 => ?_) (fun j4 hj4 => ?_)
    · try dsimp only
      refine ro_iinc (pc := 22) (v := x3 + (-8)) (lv' := [(2, .int (x3 + (-8))), (0, .int a0), (1, .int x5)]) 2 dX10_signsIn_22 rfl rfl (by decide) rfl ?_
      refine ro_goto (tgt := 5) (pc := 25) dX10_signsIn_25 (by decide) ?_
      refine ro_lv [1, 2, 0] rfl ?_
      exact hrec1 (x5, x3 + (-8))
    · skip
      refine ro_if_eq (tgt := 22) (pc := 16) dX10_signsIn_16 (by decide) (fun _ => ?_) (fun _ => ?_)
      · skip
        exact hj4 x2
      · skip
        refine ro_iinc (pc := 19) (v := x2 + 1) (lv' := [(1, .int (x2 + 1)), (0, .int a0), (2, .int x3)]) 1 dX10_signsIn_19 rfl rfl (by decide) rfl ?_
        refine ro_lv [1, 0, 2] rfl ?_
        exact hj4 (x2 + 1)
theorem c_Tap_signsIn (X : mu_X) (N : Nat) (h : mu_H) (a0 : Int32) : ∀ r, f_Tap_signsIn N h a0 = some r → mI X m_Tap_signsIn 1 [.int a0] h r h := fun r hr => mI_of (by decide) rfl (Nat.le_of_ble_eq_true rfl) rfl (cb_Tap_signsIn X N h a0 r hr)
set_option maxRecDepth 20000 in
theorem cb_Tap_size (X : mu_X) (N : Nat) (h : mu_H) : aG X m_Tap_size (rmk 1) (fun _ => ax X) (fun _ _ _ => True) 0 0 (fun r : Int32 => qI X r h) (f_Tap_size N h) 0 [(0, .ref (xa X 1))] [] h := by
  unfold f_Tap_size
  refine ro_aload_n (pc := 0) 0 dX10_size_0 rfl rfl ?_
  refine gf_X10_1 (pc := 1) wd_131 dX10_size_1 ?_
  exact ro_iret (pc := 4) rfl rfl dX10_size_4
theorem c_Tap_size (X : mu_X) (N : Nat) (h : mu_H) : ∀ r, f_Tap_size N h = some r → mI X m_Tap_size 1 [.ref (xa X 1)] h r h := fun r hr => mI_of (by decide) rfl (Nat.le_of_ble_eq_true rfl) rfl (cb_Tap_size X N h r hr)
set_option maxRecDepth 20000 in
theorem cb_Law_add (X : mu_X) (N : Nat) (h : mu_H) (o : Nat) (ho : isL o) (a1 : Int32) : aG X m_Law_add (rmk 1) (fun _ => ax X) (fun _ _ _ => True) 0 0 (fun r : mu_H => qV X r) (f_Law_add N h o a1) 0 [(0, .ref (xa X o)), (1, .int a1)] [] h := by
  unfold f_Law_add
  refine ro_aload_n (pc := 0) 0 dX1_add_0 rfl rfl ?_
  refine gf_X1_2 ho (pc := 1) wd_193 dX1_add_1 ?_
  refine ro_sipush (v := 240) (pc := 4) dX1_add_4 (by decide) ?_
  refine ro_icmp_ge (tgt := 30) (pc := 7) dX1_add_7 (by decide) (fun _ => ?_) (fun _ => ?_)
  · skip
    exact ro_vret (pc := 30) rfl rfl dX1_add_30
  · skip
    refine ro_aload_n (pc := 10) 0 dX1_add_10 rfl rfl ?_
    refine gf_X1_0 ho (pc := 11) wd_191 dX1_add_11 ?_
    refine ro_aload_n (pc := 14) 0 dX1_add_14 rfl rfl ?_
    refine gf_X1_2 ho (pc := 15) wd_193 dX1_add_15 ?_
    refine ro_iload_n (pc := 18) 1 dX1_add_18 rfl rfl ?_
    refine ro_iast (pc := 19) (n := 240) (isL_1 ho) (isL_c1 ho) dX1_add_19 ?_
    refine ro_bnh (fun h1 => ?_)
    refine ro_aload_n (pc := 20) 0 dX1_add_20 rfl rfl ?_
    refine ro_dup (pc := 21) dX1_add_21 rfl ?_
    refine gf_X1_2 ho (pc := 22) wd_193 dX1_add_22 ?_
    refine ro_iconst (v := 1) (pc := 25) dX1_add_25 (by decide) ?_
    refine ro_iadd (pc := 26) dX1_add_26 ?_
    refine pf_X1_2 ho (pc := 27) wd_193 dX1_add_27 ?_
    refine ro_bnh (fun h2 => ?_)
    exact ro_vret (pc := 30) rfl rfl dX1_add_30
theorem c_Law_add (X : mu_X) (N : Nat) (h : mu_H) (o : Nat) (ho : isL o) (a1 : Int32) : ∀ r, f_Law_add N h o a1 = some r → mV X m_Law_add 1 [.ref (xa X o), .int a1] h r := fun r hr => mV_of (by decide) rfl (Nat.le_of_ble_eq_true rfl) rfl (cb_Law_add X N h o ho a1 r hr)
set_option maxRecDepth 20000 in
theorem cb_Law_empty (X : mu_X) (N : Nat) (h : mu_H) (o : Nat) (ho : isL o) : aG X m_Law_empty (rmk 1) (fun _ => ax X) (fun _ _ _ => True) 0 0 (fun r : mu_H => qV X r) (f_Law_empty N h o) 0 [(0, .ref (xa X o))] [] h := by
  unfold f_Law_empty
  refine ro_aload_n (pc := 0) 0 dX1_empty_0 rfl rfl ?_
  refine ro_iconst (v := 0) (pc := 1) dX1_empty_1 (by decide) ?_
  refine pf_X1_2 ho (pc := 2) wd_193 dX1_empty_2 ?_
  refine ro_bnh (fun h1 => ?_)
  exact ro_vret (pc := 5) rfl rfl dX1_empty_5
theorem c_Law_empty (X : mu_X) (N : Nat) (h : mu_H) (o : Nat) (ho : isL o) : ∀ r, f_Law_empty N h o = some r → mV X m_Law_empty 1 [.ref (xa X o)] h r := fun r hr => mV_of (by decide) rfl (Nat.le_of_ble_eq_true rfl) rfl (cb_Law_empty X N h o ho r hr)
set_option maxRecDepth 20000 in
theorem cb_Law_reckoned (X : mu_X) (N : Nat) (h : mu_H) (a0 : Int32) (a1 : Int64) (a3 : Int64) : aG X m_Law_reckoned (rmk 1) (fun _ => ax X) (fun _ _ _ => True) 0 0 (fun r : Int32 => qI X r h) (f_Law_reckoned N h a0 a1 a3) 0 [(0, .int a0), (1, .long a1), (3, .long a3)] [] h := by
  unfold f_Law_reckoned
  refine ro_lload_n (pc := 0) 1 dX1_reckoned_0 rfl rfl ?_
  refine ro_lload_n (pc := 1) 2 dX1_reckoned_1 rfl rfl ?_
  refine ro_lmul (pc := 2) dX1_reckoned_2 ?_
  refine ro_bnl (fun z1 => ?_)
  refine ro_lstore (pc := 3) (lv' := [(5, .long z1), (0, .int a0), (1, .long a1), (3, .long a3)]) dX1_reckoned_3 (by decide) rfl ?_
  refine ro_iload_n (pc := 5) 1 dX1_reckoned_5 rfl rfl ?_
  refine ro_bipush (v := 43) (pc := 6) dX1_reckoned_6 (by decide) ?_
  refine ro_jn (pcj := 30) (lvs := fun (s : Int64) => [(5, .long s)]) (hs := fun (s : Int64) => h) (sts := fun (s : Int64) => []) (fun z3 => ?_) (fun j2 hj2 => ?_)
  · try dsimp only
    refine ro_lload (pc := 30) 0 dX1_reckoned_30 rfl ?_
    refine ro_ldc2 (v := 1000000) (pc := 32) dX1_reckoned_32 wd_720 ?_
    refine ro_lcmp (pc := 35) dX1_reckoned_35 ?_
    refine ro_if_le (tgt := 42) (pc := 36) dX1_reckoned_36 (by decide) (fun _ => ?_) (fun _ => ?_)
    · skip
      refine ro_lload (pc := 42) 0 dX1_reckoned_42 rfl ?_
      refine ro_ldc2 (v := (-1000000)) (pc := 44) dX1_reckoned_44 wd_722 ?_
      refine ro_lcmp (pc := 47) dX1_reckoned_47 ?_
      refine ro_if_ge (tgt := 56) (pc := 48) dX1_reckoned_48 (by decide) (fun _ => ?_) (fun _ => ?_)
      · skip
        refine ro_lload (pc := 56) 0 dX1_reckoned_56 rfl ?_
        refine ro_l2i (pc := 58) dX1_reckoned_58 ?_
        exact ro_iret (pc := 59) rfl rfl dX1_reckoned_59
      · skip
        refine ro_ldc (v := (-1000000)) (pc := 51) dX1_reckoned_51 wd_723 ?_
        refine ro_goto (tgt := 59) (pc := 53) dX1_reckoned_53 (by decide) ?_
        exact ro_iret (pc := 59) rfl rfl dX1_reckoned_59
    · skip
      refine ro_ldc (v := 1000000) (pc := 39) dX1_reckoned_39 wd_721 ?_
      exact ro_iret (pc := 41) rfl rfl dX1_reckoned_41
  · skip
    refine ro_icmp_ne (tgt := 19) (pc := 8) dX1_reckoned_8 (by decide) (fun _ => ?_) (fun _ => ?_)
    · skip
      refine ro_iload_n (pc := 19) 1 dX1_reckoned_19 rfl rfl ?_
      refine ro_bipush (v := 45) (pc := 20) dX1_reckoned_20 (by decide) ?_
      refine ro_icmp_ne (tgt := 30) (pc := 22) dX1_reckoned_22 (by decide) (fun _ => ?_) (fun _ => ?_)
      · skip
        refine ro_lv [0] rfl ?_
        exact hj2 z1
      · skip
        refine ro_lload_n (pc := 25) 2 dX1_reckoned_25 rfl rfl ?_
        refine ro_lload_n (pc := 26) 3 dX1_reckoned_26 rfl rfl ?_
        refine ro_lsub (pc := 27) dX1_reckoned_27 ?_
        refine ro_bnl (fun z4 => ?_)
        refine ro_lstore (pc := 28) (lv' := [(5, .long z4), (0, .int a0), (1, .long a1), (3, .long a3)]) dX1_reckoned_28 (by decide) rfl ?_
        refine ro_lv [0] rfl ?_
        exact hj2 z4
    · skip
      refine ro_lload_n (pc := 11) 2 dX1_reckoned_11 rfl rfl ?_
      refine ro_lload_n (pc := 12) 3 dX1_reckoned_12 rfl rfl ?_
      refine ro_ladd (pc := 13) dX1_reckoned_13 ?_
      refine ro_bnl (fun z5 => ?_)
      refine ro_lstore (pc := 14) (lv' := [(5, .long z5), (0, .int a0), (1, .long a1), (3, .long a3)]) dX1_reckoned_14 (by decide) rfl ?_
      refine ro_goto (tgt := 30) (pc := 16) dX1_reckoned_16 (by decide) ?_
      refine ro_lv [0] rfl ?_
      exact hj2 z5
theorem c_Law_reckoned (X : mu_X) (N : Nat) (h : mu_H) (a0 : Int32) (a1 : Int64) (a3 : Int64) : ∀ r, f_Law_reckoned N h a0 a1 a3 = some r → mI X m_Law_reckoned 1 [.int a0, .long a1, .long a3] h r h := fun r hr => mI_of (by decide) rfl (Nat.le_of_ble_eq_true rfl) rfl (cb_Law_reckoned X N h a0 a1 a3 r hr)
set_option maxRecDepth 20000 in
theorem cb_Law_joined (X : mu_X) (N : Nat) (h : mu_H) (a0 : Int32) (a1 : Int32) (a2 : Int32) : aG X m_Law_joined (rmk 2) (fun _ => ax X) (fun _ _ _ => True) 0 0 (fun r : Int32 => qI X r h) (f_Law_joined N h a0 a1 a2) 0 [(0, .int a0), (1, .int a1), (2, .int a2)] [] h := by
  unfold f_Law_joined
  refine ro_iload_n (pc := 0) 0 dX1_joined_0 rfl rfl ?_
  refine ro_lsk (key := 38) (off := 92) (tgt := 93) (pc := 1) dX1_joined_1 (by decide) (by decide) (by decide) (fun _ => ?_) (fun c1_38 => ?_)
  · skip
    refine ro_iload_n (pc := 93) 1 dX1_joined_93 rfl rfl ?_
    refine ro_iload_n (pc := 94) 2 dX1_joined_94 rfl rfl ?_
    refine ro_iand (pc := 95) dX1_joined_95 ?_
    exact ro_iret (pc := 96) rfl rfl dX1_joined_96
  refine ro_lsk (key := 47) (off := 100) (tgt := 101) (pc := 1) dX1_joined_1 (by decide) (by decide) (by decide) (fun _ => ?_) (fun c1_47 => ?_)
  · skip
    refine ro_iload_n (pc := 101) 2 dX1_joined_101 rfl rfl ?_
    refine ro_if_ne (tgt := 109) (pc := 102) dX1_joined_102 (by decide) (fun _ => ?_) (fun _ => ?_)
    · skip
      refine ro_iload_n (pc := 109) 1 dX1_joined_109 rfl rfl ?_
      refine ro_iload_n (pc := 110) 2 dX1_joined_110 rfl rfl ?_
      refine ro_idivg (pc := 111) dX1_joined_111 ?_
      exact ro_iret (pc := 112) rfl rfl dX1_joined_112
    · skip
      refine ro_iconst (v := 0) (pc := 105) dX1_joined_105 (by decide) ?_
      refine ro_goto (tgt := 112) (pc := 106) dX1_joined_106 (by decide) ?_
      exact ro_iret (pc := 112) rfl rfl dX1_joined_112
  refine ro_lsk (key := 60) (off := 70) (tgt := 71) (pc := 1) dX1_joined_1 (by decide) (by decide) (by decide) (fun _ => ?_) (fun c1_60 => ?_)
  · skip
    refine ro_iload_n (pc := 71) 1 dX1_joined_71 rfl rfl ?_
    refine ro_iload_n (pc := 72) 2 dX1_joined_72 rfl rfl ?_
    refine ro_icmp_ge (tgt := 80) (pc := 73) dX1_joined_73 (by decide) (fun _ => ?_) (fun _ => ?_)
    · skip
      refine ro_iconst (v := 0) (pc := 80) dX1_joined_80 (by decide) ?_
      exact ro_iret (pc := 81) rfl rfl dX1_joined_81
    · skip
      refine ro_iconst (v := 1) (pc := 76) dX1_joined_76 (by decide) ?_
      refine ro_goto (tgt := 81) (pc := 77) dX1_joined_77 (by decide) ?_
      exact ro_iret (pc := 81) rfl rfl dX1_joined_81
  refine ro_lsk (key := 61) (off := 59) (tgt := 60) (pc := 1) dX1_joined_1 (by decide) (by decide) (by decide) (fun _ => ?_) (fun c1_61 => ?_)
  · skip
    refine ro_iload_n (pc := 60) 1 dX1_joined_60 rfl rfl ?_
    refine ro_iload_n (pc := 61) 2 dX1_joined_61 rfl rfl ?_
    refine ro_icmp_ne (tgt := 69) (pc := 62) dX1_joined_62 (by decide) (fun _ => ?_) (fun _ => ?_)
    · skip
      refine ro_iconst (v := 0) (pc := 69) dX1_joined_69 (by decide) ?_
      exact ro_iret (pc := 70) rfl rfl dX1_joined_70
    · skip
      refine ro_iconst (v := 1) (pc := 65) dX1_joined_65 (by decide) ?_
      refine ro_goto (tgt := 70) (pc := 66) dX1_joined_66 (by decide) ?_
      exact ro_iret (pc := 70) rfl rfl dX1_joined_70
  refine ro_lsk (key := 62) (off := 81) (tgt := 82) (pc := 1) dX1_joined_1 (by decide) (by decide) (by decide) (fun _ => ?_) (fun c1_62 => ?_)
  · skip
    refine ro_iload_n (pc := 82) 1 dX1_joined_82 rfl rfl ?_
    refine ro_iload_n (pc := 83) 2 dX1_joined_83 rfl rfl ?_
    refine ro_icmp_le (tgt := 91) (pc := 84) dX1_joined_84 (by decide) (fun _ => ?_) (fun _ => ?_)
    · skip
      refine ro_iconst (v := 0) (pc := 91) dX1_joined_91 (by decide) ?_
      exact ro_iret (pc := 92) rfl rfl dX1_joined_92
    · skip
      refine ro_iconst (v := 1) (pc := 87) dX1_joined_87 (by decide) ?_
      refine ro_goto (tgt := 92) (pc := 88) dX1_joined_88 (by decide) ?_
      exact ro_iret (pc := 92) rfl rfl dX1_joined_92
  refine ro_lsk (key := 124) (off := 96) (tgt := 97) (pc := 1) dX1_joined_1 (by decide) (by decide) (by decide) (fun _ => ?_) (fun c1_124 => ?_)
  · skip
    refine ro_iload_n (pc := 97) 1 dX1_joined_97 rfl rfl ?_
    refine ro_iload_n (pc := 98) 2 dX1_joined_98 rfl rfl ?_
    refine ro_ior (pc := 99) dX1_joined_99 ?_
    exact ro_iret (pc := 100) rfl rfl dX1_joined_100
  refine ro_lsd (tgt := 113) (pc := 1) dX1_joined_1 (by decide) (by have a38 := ne_int c1_38 (k := 38) (z := 38) (by decide); have a47 := ne_int c1_47 (k := 47) (z := 47) (by decide); have a60 := ne_int c1_60 (k := 60) (z := 60) (by decide); have a61 := ne_int c1_61 (k := 61) (z := 61) (by decide); have a62 := ne_int c1_62 (k := 62) (z := 62) (by decide); have a124 := ne_int c1_124 (k := 124) (z := 124) (by decide); show Op.lookupswitch.offset [(38, 92), (47, 100), (60, 70), (61, 59), (62, 81), (124, 96)] 112 _ = 112; rw [Op.lookupswitch.offset_cons, if_neg (Ne.symm a38), Op.lookupswitch.offset_cons, if_neg (Ne.symm a47), Op.lookupswitch.offset_cons, if_neg (Ne.symm a60), Op.lookupswitch.offset_cons, if_neg (Ne.symm a61), Op.lookupswitch.offset_cons, if_neg (Ne.symm a62), Op.lookupswitch.offset_cons, if_neg (Ne.symm a124), Op.lookupswitch.offset_nil]) (by decide) ?_
  refine ro_iload_n (pc := 113) 0 dX1_joined_113 rfl rfl ?_
  refine ro_iload_n (pc := 114) 1 dX1_joined_114 rfl rfl ?_
  refine ro_i2l (pc := 115) dX1_joined_115 ?_
  refine ro_iload_n (pc := 116) 2 dX1_joined_116 rfl rfl ?_
  refine ro_i2l (pc := 117) dX1_joined_117 ?_
  refine ro_csP (pc := 118) (kc := 1) (avs := [.int a0, .long a1.toInt64, .long a2.toInt64]) (st := []) ok_Law_reckoned wd_717 ⟨by decide, by decide⟩ ⟨Nat.zero_le _, Nat.zero_le _⟩ (c_Law_reckoned X N h a0 a1.toInt64 a2.toInt64) rfl rfl (Nat.le_of_ble_eq_true rfl) dX1_joined_118 (fun x1 => ?_)
  exact ro_iret (pc := 121) rfl rfl dX1_joined_121
theorem c_Law_joined (X : mu_X) (N : Nat) (h : mu_H) (a0 : Int32) (a1 : Int32) (a2 : Int32) : ∀ r, f_Law_joined N h a0 a1 a2 = some r → mI X m_Law_joined 2 [.int a0, .int a1, .int a2] h r h := fun r hr => mI_of (by decide) rfl (Nat.le_of_ble_eq_true rfl) rfl (cb_Law_joined X N h a0 a1 a2 r hr)
set_option maxRecDepth 20000 in
theorem cb_Law_leapFrom (X : mu_X) (N : Nat) (h : mu_H) (o : Nat) (ho : isL o) (a1 : Int32) : aG X m_Law_leapFrom (rmk 1) (fun _ => ax X) (fun _ _ _ => True) 0 0 (fun r : mu_H => qV X r) (f_Law_leapFrom N h o a1) 0 [(0, .ref (xa X o)), (1, .int a1)] [] h := by
  unfold f_Law_leapFrom
  refine ro_iload_n (pc := 0) 1 dX1_leapFrom_0 rfl rfl ?_
  refine ro_if_lt (tgt := 26) (pc := 1) dX1_leapFrom_1 (by decide) (fun _ => ?_) (fun _ => ?_)
  · skip
    exact ro_vret (pc := 26) rfl rfl dX1_leapFrom_26
  · skip
    refine ro_iload_n (pc := 4) 1 dX1_leapFrom_4 rfl rfl ?_
    refine ro_aload_n (pc := 5) 0 dX1_leapFrom_5 rfl rfl ?_
    refine gf_X1_2 ho (pc := 6) wd_193 dX1_leapFrom_6 ?_
    refine ro_icmp_ge (tgt := 26) (pc := 9) dX1_leapFrom_9 (by decide) (fun _ => ?_) (fun _ => ?_)
    · skip
      exact ro_vret (pc := 26) rfl rfl dX1_leapFrom_26
    · skip
      refine ro_aload_n (pc := 12) 0 dX1_leapFrom_12 rfl rfl ?_
      refine gf_X1_0 ho (pc := 13) wd_191 dX1_leapFrom_13 ?_
      refine ro_iload_n (pc := 16) 1 dX1_leapFrom_16 rfl rfl ?_
      refine ro_sipush (v := (-1000)) (pc := 17) dX1_leapFrom_17 (by decide) ?_
      refine ro_aload_n (pc := 20) 0 dX1_leapFrom_20 rfl rfl ?_
      refine gf_X1_2 ho (pc := 21) wd_193 dX1_leapFrom_21 ?_
      refine ro_isub (pc := 24) dX1_leapFrom_24 ?_
      refine ro_iast (pc := 25) (n := 240) (isL_1 ho) (isL_c1 ho) dX1_leapFrom_25 ?_
      refine ro_bnh (fun h1 => ?_)
      exact ro_vret (pc := 26) rfl rfl dX1_leapFrom_26
theorem c_Law_leapFrom (X : mu_X) (N : Nat) (h : mu_H) (o : Nat) (ho : isL o) (a1 : Int32) : ∀ r, f_Law_leapFrom N h o a1 = some r → mV X m_Law_leapFrom 1 [.ref (xa X o), .int a1] h r := fun r hr => mV_of (by decide) rfl (Nat.le_of_ble_eq_true rfl) rfl (cb_Law_leapFrom X N h o ho a1 r hr)
set_option maxRecDepth 20000 in
theorem cb_Law_size (X : mu_X) (N : Nat) (h : mu_H) (o : Nat) (ho : isL o) : aG X m_Law_size (rmk 1) (fun _ => ax X) (fun _ _ _ => True) 0 0 (fun r : Int32 => qI X r h) (f_Law_size N h o) 0 [(0, .ref (xa X o))] [] h := by
  unfold f_Law_size
  refine ro_aload_n (pc := 0) 0 dX1_size_0 rfl rfl ?_
  refine gf_X1_2 ho (pc := 1) wd_193 dX1_size_1 ?_
  exact ro_iret (pc := 4) rfl rfl dX1_size_4
theorem c_Law_size (X : mu_X) (N : Nat) (h : mu_H) (o : Nat) (ho : isL o) : ∀ r, f_Law_size N h o = some r → mI X m_Law_size 1 [.ref (xa X o)] h r h := fun r hr => mI_of (by decide) rfl (Nat.le_of_ble_eq_true rfl) rfl (cb_Law_size X N h o ho r hr)
set_option maxRecDepth 20000 in
theorem cb_Law_take (X : mu_X) (N : Nat) (h : mu_H) (o : Nat) (ho : isL o) (p1 : Nat) (hp1 : isL p1) : aG X m_Law_take (rmk 1) (fun _ => ax X) (fun _ _ _ => True) 0 0 (fun r : mu_H => qV X r) (f_Law_take N h o p1) 0 [(0, .ref (xa X o)), (1, .ref (xa X p1))] [] h := by
  unfold f_Law_take
  refine ro_aload_n (pc := 0) 1 dX1_take_0 rfl rfl ?_
  refine gf_X1_0 hp1 (pc := 1) wd_191 dX1_take_1 ?_
  refine ro_iconst (v := 0) (pc := 4) dX1_take_4 (by decide) ?_
  refine ro_aload_n (pc := 5) 0 dX1_take_5 rfl rfl ?_
  refine gf_X1_0 ho (pc := 6) wd_191 dX1_take_6 ?_
  refine ro_iconst (v := 0) (pc := 9) dX1_take_9 (by decide) ?_
  refine ro_aload_n (pc := 10) 0 dX1_take_10 rfl rfl ?_
  refine gf_X1_0 ho (pc := 11) wd_191 dX1_take_11 ?_
  refine ro_alen (pc := 14) (n := 240) (v := 240) (isL_1 ho) (fun f g => ⟨_, (isL_c1 ho) f g⟩) rfl rfl dX1_take_14 ?_
  refine ro_acopy (pc := 15) (st := []) (i0 := (p1 + 1)) (n0 := 240) (i1 := (o + 1)) (n1 := 240) (isL_1 hp1) (isL_c1 hp1) (isL_1 ho) (isL_c1 ho) wd_632 (by decide) (Nat.le_of_ble_eq_true rfl) dX1_take_15 ?_
  refine ro_bnh (fun h1 => ?_)
  refine ro_aload_n (pc := 18) 0 dX1_take_18 rfl rfl ?_
  refine ro_aload_n (pc := 19) 1 dX1_take_19 rfl rfl ?_
  refine gf_X1_2 hp1 (pc := 20) wd_193 dX1_take_20 ?_
  refine pf_X1_2 ho (pc := 23) wd_193 dX1_take_23 ?_
  refine ro_bnh (fun h2 => ?_)
  exact ro_vret (pc := 26) rfl rfl dX1_take_26
theorem c_Law_take (X : mu_X) (N : Nat) (h : mu_H) (o : Nat) (ho : isL o) (p1 : Nat) (hp1 : isL p1) : ∀ r, f_Law_take N h o p1 = some r → mV X m_Law_take 1 [.ref (xa X o), .ref (xa X p1)] h r := fun r hr => mV_of (by decide) rfl (Nat.le_of_ble_eq_true rfl) rfl (cb_Law_take X N h o ho p1 hp1 r hr)
set_option maxRecDepth 20000 in
theorem cb_Law_valueFor (X : mu_X) (N : Nat) (h : mu_H) (o : Nat) (ho : isL o) : aG X m_Law_valueFor (rmk 3) (fun _ => ax X) (fun _ _ _ => True) 0 0 (fun r : Int32 × mu_H => qI X r.1 r.2) (f_Law_valueFor N h o) 0 [(0, .ref (xa X o)), (1, .ref (xa X 36))] [] h := by
  unfold f_Law_valueFor
  refine ro_iconst (v := 0) (pc := 0) dX1_valueFor_0 (by decide) ?_
  refine ro_istore_n (pc := 1) (lv' := [(2, .int 0), (0, .ref (xa X o)), (1, .ref (xa X 36))]) dX1_valueFor_1 rfl (by decide) rfl ?_
  refine ro_iconst (v := 0) (pc := 2) dX1_valueFor_2 (by decide) ?_
  refine ro_istore_n (pc := 3) (lv' := [(3, .int 0), (2, .int 0), (0, .ref (xa X o)), (1, .ref (xa X 36))]) dX1_valueFor_3 rfl (by decide) rfl ?_
  refine ro_jn (pcj := 117) (lvs := fun (s : Int32 × mu_H) => [(0, .ref (xa X o)), (2, .int s.1)]) (hs := fun (s : Int32 × mu_H) => s.2) (sts := fun (s : Int32 × mu_H) => []) (fun s => ?_) (fun k1 hk1 => ?_)
  · obtain ⟨x2, h3⟩ := s; try dsimp only
    refine ro_aload_n (pc := 117) 0 dX1_valueFor_117 rfl rfl ?_
    refine gf_X1_1 ho (pc := 118) wd_192 dX1_valueFor_118 ?_
    refine ro_iload_n (pc := 121) 1 dX1_valueFor_121 rfl rfl ?_
    refine ro_iconst (v := 1) (pc := 122) dX1_valueFor_122 (by decide) ?_
    refine ro_isub (pc := 123) dX1_valueFor_123 ?_
    refine ro_iald (pc := 124) (n := 32) (isL_2 ho) (isL_c2 ho) dX1_valueFor_124 ?_
    exact ro_iret (pc := 125) rfl rfl dX1_valueFor_125
  · skip
    refine ro_lv [2, 3, 1, 0] rfl ?_
    refine ro_lp (pc := 4) (lvs := fun (s : Int32 × Int32 × mu_H) => [(0, .ref (xa X o)), (1, .ref (xa X 36)), (2, .int s.1), (3, .int s.2.1)]) (hs := fun (s : Int32 × Int32 × mu_H) => s.2.2) (fun rec4 hrec4 s => ?_) N (0, 0, h)
    obtain ⟨x5, x6, h7⟩ := s; unfold f_Law_valueFor_L4; try dsimp only
    refine ro_iload_n (pc := 4) 3 dX1_valueFor_4 rfl rfl ?_
    refine ro_aload_n (pc := 5) 0 dX1_valueFor_5 rfl rfl ?_
    refine gf_X1_2 ho (pc := 6) wd_193 dX1_valueFor_6 ?_
    refine ro_icmp_ge (tgt := 196) (pc := 9) dX1_valueFor_9 (by decide) (fun _ => ?_) (fun _ => ?_)
    · skip
      refine ro_iconst (v := 0) (pc := 196) dX1_valueFor_196 (by decide) ?_
      exact ro_iret (pc := 197) rfl rfl dX1_valueFor_197
    · skip
      refine ro_aload_n (pc := 12) 0 dX1_valueFor_12 rfl rfl ?_
      refine gf_X1_0 ho (pc := 13) wd_191 dX1_valueFor_13 ?_
      refine ro_iload_n (pc := 16) 3 dX1_valueFor_16 rfl rfl ?_
      refine ro_iald (pc := 17) (n := 240) (isL_1 ho) (isL_c1 ho) dX1_valueFor_17 ?_
      refine ro_bn (fun x8 => ?_)
      refine ro_istore (pc := 18) (lv' := [(4, .int x8), (0, .ref (xa X o)), (1, .ref (xa X 36)), (2, .int x5), (3, .int x6)]) dX1_valueFor_18 (by decide) rfl ?_
      refine ro_iload (pc := 20) 0 dX1_valueFor_20 rfl ?_
      refine ro_bipush (v := (-6)) (pc := 22) dX1_valueFor_22 (by decide) ?_
      refine ro_jn (pcj := 190) (lvs := fun (s : Int32 × Int32 × mu_H) => [(0, .ref (xa X o)), (1, .ref (xa X 36)), (2, .int s.1), (3, .int s.2.1)]) (hs := fun (s : Int32 × Int32 × mu_H) => s.2.2) (sts := fun (s : Int32 × Int32 × mu_H) => []) (fun s => ?_) (fun j9 hj9 => ?_)
      · obtain ⟨x10, x11, h12⟩ := s; try dsimp only
        refine ro_iinc (pc := 190) (v := x11 + 1) (lv' := [(3, .int (x11 + 1)), (0, .ref (xa X o)), (1, .ref (xa X 36)), (2, .int x10)]) 3 dX1_valueFor_190 rfl rfl (by decide) rfl ?_
        refine ro_goto (tgt := 4) (pc := 193) dX1_valueFor_193 (by decide) ?_
        refine ro_lv [1, 2, 3, 0] rfl ?_
        exact hrec4 (x10, x11 + 1, h12)
      · skip
        refine ro_icmp_lt (tgt := 61) (pc := 24) dX1_valueFor_24 (by decide) (fun _ => ?_) (fun _ => ?_)
        · skip
          refine ro_iload_n (pc := 61) 3 dX1_valueFor_61 rfl rfl ?_
          refine ro_iconst (v := 1) (pc := 62) dX1_valueFor_62 (by decide) ?_
          refine ro_icmp_ge (tgt := 68) (pc := 63) dX1_valueFor_63 (by decide) (fun _ => ?_) (fun _ => ?_)
          · skip
            refine ro_iload (pc := 68) 0 dX1_valueFor_68 rfl ?_
            refine ro_sipush (v := (-1000)) (pc := 70) dX1_valueFor_70 (by decide) ?_
            refine ro_icmp_gt (tgt := 110) (pc := 73) dX1_valueFor_73 (by decide) (fun _ => ?_) (fun _ => ?_)
            · skip
              refine ro_iload (pc := 110) 0 dX1_valueFor_110 rfl ?_
              refine ro_bipush (v := (-59)) (pc := 112) dX1_valueFor_112 (by decide) ?_
              refine ro_icmp_ne (tgt := 126) (pc := 114) dX1_valueFor_114 (by decide) (fun _ => ?_) (fun _ => ?_)
              · skip
                refine ro_iload (pc := 126) 0 dX1_valueFor_126 rfl ?_
                refine ro_bipush (v := (-33)) (pc := 128) dX1_valueFor_128 (by decide) ?_
                refine ro_icmp_ne (tgt := 154) (pc := 130) dX1_valueFor_130 (by decide) (fun _ => ?_) (fun _ => ?_)
                · skip
                  refine ro_iload_n (pc := 154) 3 dX1_valueFor_154 rfl rfl ?_
                  refine ro_iconst (v := 1) (pc := 155) dX1_valueFor_155 (by decide) ?_
                  refine ro_icmp_le (tgt := 190) (pc := 156) dX1_valueFor_156 (by decide) (fun _ => ?_) (fun _ => ?_)
                  · skip
                    refine ro_lv [1, 2, 3, 4] rfl ?_
                    exact hj9 (x5, x6, h7)
                  · skip
                    refine ro_iinc (pc := 159) (v := x5 + (-1)) (lv' := [(2, .int (x5 + (-1))), (4, .int x8), (0, .ref (xa X o)), (1, .ref (xa X 36)), (3, .int x6)]) 3 dX1_valueFor_159 rfl rfl (by decide) rfl ?_
                    refine ro_aload_n (pc := 162) 2 dX1_valueFor_162 rfl rfl ?_
                    refine gf_X1_1 ho (pc := 163) wd_192 dX1_valueFor_163 ?_
                    refine ro_iload_n (pc := 166) 0 dX1_valueFor_166 rfl rfl ?_
                    refine ro_iconst (v := 1) (pc := 167) dX1_valueFor_167 (by decide) ?_
                    refine ro_isub (pc := 168) dX1_valueFor_168 ?_
                    refine ro_iload (pc := 169) 1 dX1_valueFor_169 rfl ?_
                    refine ro_ineg (pc := 171) dX1_valueFor_171 ?_
                    refine ro_aload_n (pc := 172) 2 dX1_valueFor_172 rfl rfl ?_
                    refine gf_X1_1 ho (pc := 173) wd_192 dX1_valueFor_173 ?_
                    refine ro_iload_n (pc := 176) 0 dX1_valueFor_176 rfl rfl ?_
                    refine ro_iconst (v := 1) (pc := 177) dX1_valueFor_177 (by decide) ?_
                    refine ro_isub (pc := 178) dX1_valueFor_178 ?_
                    refine ro_iald (pc := 179) (n := 32) (isL_2 ho) (isL_c2 ho) dX1_valueFor_179 ?_
                    refine ro_aload_n (pc := 180) 2 dX1_valueFor_180 rfl rfl ?_
                    refine gf_X1_1 ho (pc := 181) wd_192 dX1_valueFor_181 ?_
                    refine ro_iload_n (pc := 184) 0 dX1_valueFor_184 rfl rfl ?_
                    refine ro_iald (pc := 185) (n := 32) (isL_2 ho) (isL_c2 ho) dX1_valueFor_185 ?_
                    refine ro_csP (pc := 186) (kc := 2) (avs := [.int (-x8), .int (h7.1 (o + 2) ((x5 + (-1)) - 1).toNatClampNeg), .int (h7.1 (o + 2) (x5 + (-1)).toNatClampNeg)]) (st := [.int ((x5 + (-1)) - 1), .ref (xa X (o + 2))]) ok_Law_joined wd_714 ⟨by decide, by decide⟩ ⟨Nat.zero_le _, Nat.zero_le _⟩ (c_Law_joined X N h7 (-x8) (h7.1 (o + 2) ((x5 + (-1)) - 1).toNatClampNeg) (h7.1 (o + 2) (x5 + (-1)).toNatClampNeg)) rfl rfl (Nat.le_of_ble_eq_true rfl) dX1_valueFor_186 (fun x13 => ?_)
                    refine ro_iast (pc := 189) (n := 32) (isL_2 ho) (isL_c2 ho) dX1_valueFor_189 ?_
                    refine ro_bnh (fun h14 => ?_)
                    refine ro_lv [2, 3, 0, 4] rfl ?_
                    exact hj9 (x5 + (-1), x6, h14)
                · skip
                  refine ro_aload_n (pc := 133) 1 dX1_valueFor_133 rfl rfl ?_
                  refine gf_X1_1 ho (pc := 134) wd_192 dX1_valueFor_134 ?_
                  refine ro_iload_n (pc := 137) 3 dX1_valueFor_137 rfl rfl ?_
                  refine ro_iconst (v := 1) (pc := 138) dX1_valueFor_138 (by decide) ?_
                  refine ro_isub (pc := 139) dX1_valueFor_139 ?_
                  refine ro_iconst (v := 1) (pc := 140) dX1_valueFor_140 (by decide) ?_
                  refine ro_aload_n (pc := 141) 1 dX1_valueFor_141 rfl rfl ?_
                  refine gf_X1_1 ho (pc := 142) wd_192 dX1_valueFor_142 ?_
                  refine ro_iload_n (pc := 145) 3 dX1_valueFor_145 rfl rfl ?_
                  refine ro_iconst (v := 1) (pc := 146) dX1_valueFor_146 (by decide) ?_
                  refine ro_isub (pc := 147) dX1_valueFor_147 ?_
                  refine ro_iald (pc := 148) (n := 32) (isL_2 ho) (isL_c2 ho) dX1_valueFor_148 ?_
                  refine ro_isub (pc := 149) dX1_valueFor_149 ?_
                  refine ro_iast (pc := 150) (n := 32) (isL_2 ho) (isL_c2 ho) dX1_valueFor_150 ?_
                  refine ro_bnh (fun h15 => ?_)
                  refine ro_goto (tgt := 190) (pc := 151) dX1_valueFor_151 (by decide) ?_
                  refine ro_lv [1, 2, 3, 4] rfl ?_
                  exact hj9 (x5, x6, h15)
              · skip
                refine ro_lv [1, 3] rfl ?_
                exact hk1 (x5, h7)
            · skip
              refine ro_iinc (pc := 76) (v := x5 + (-1)) (lv' := [(2, .int (x5 + (-1))), (4, .int x8), (0, .ref (xa X o)), (1, .ref (xa X 36)), (3, .int x6)]) 3 dX1_valueFor_76 rfl rfl (by decide) rfl ?_
              refine ro_aload_n (pc := 79) 2 dX1_valueFor_79 rfl rfl ?_
              refine gf_X1_1 ho (pc := 80) wd_192 dX1_valueFor_80 ?_
              refine ro_iload_n (pc := 83) 0 dX1_valueFor_83 rfl rfl ?_
              refine ro_iald (pc := 84) (n := 32) (isL_2 ho) (isL_c2 ho) dX1_valueFor_84 ?_
              refine ro_if_ne (tgt := 190) (pc := 85) dX1_valueFor_85 (by decide) (fun _ => ?_) (fun _ => ?_)
              · skip
                refine ro_lv [2, 3, 0, 4] rfl ?_
                exact hj9 (x5 + (-1), x6, h7)
              · skip
                refine ro_sipush (v := (-1000)) (pc := 88) dX1_valueFor_88 (by decide) ?_
                refine ro_iload (pc := 91) 1 dX1_valueFor_91 rfl ?_
                refine ro_isub (pc := 93) dX1_valueFor_93 ?_
                refine ro_iload_n (pc := 94) 4 dX1_valueFor_94 rfl rfl ?_
                refine ro_icmp_le (tgt := 190) (pc := 95) dX1_valueFor_95 (by decide) (fun _ => ?_) (fun _ => ?_)
                · skip
                  refine ro_lv [2, 3, 0, 4] rfl ?_
                  exact hj9 (x5 + (-1), x6, h7)
                · skip
                  refine ro_sipush (v := (-1000)) (pc := 98) dX1_valueFor_98 (by decide) ?_
                  refine ro_iload (pc := 101) 1 dX1_valueFor_101 rfl ?_
                  refine ro_isub (pc := 103) dX1_valueFor_103 ?_
                  refine ro_iconst (v := 1) (pc := 104) dX1_valueFor_104 (by decide) ?_
                  refine ro_isub (pc := 105) dX1_valueFor_105 ?_
                  refine ro_bn (fun x16 => ?_)
                  refine ro_istore_n (pc := 106) (lv' := [(3, .int x16), (2, .int (x5 + (-1))), (4, .int x8), (0, .ref (xa X o)), (1, .ref (xa X 36))]) dX1_valueFor_106 rfl (by decide) rfl ?_
                  refine ro_goto (tgt := 190) (pc := 107) dX1_valueFor_107 (by decide) ?_
                  refine ro_lv [3, 4, 1, 0] rfl ?_
                  exact hj9 (x5 + (-1), x16, h7)
          · skip
            refine ro_iconst (v := 0) (pc := 66) dX1_valueFor_66 (by decide) ?_
            exact ro_iret (pc := 67) rfl rfl dX1_valueFor_67
        · skip
          refine ro_iload_n (pc := 27) 3 dX1_valueFor_27 rfl rfl ?_
          refine ro_bipush (v := 32) (pc := 28) dX1_valueFor_28 (by decide) ?_
          refine ro_icmp_ge (tgt := 190) (pc := 30) dX1_valueFor_30 (by decide) (fun _ => ?_) (fun _ => ?_)
          · skip
            refine ro_lv [1, 2, 3, 4] rfl ?_
            exact hj9 (x5, x6, h7)
          · skip
            refine ro_aload_n (pc := 33) 1 dX1_valueFor_33 rfl rfl ?_
            refine gf_X1_1 ho (pc := 34) wd_192 dX1_valueFor_34 ?_
            refine ro_iload_n (pc := 37) 3 dX1_valueFor_37 rfl rfl ?_
            refine ro_iload (pc := 38) 0 dX1_valueFor_38 rfl ?_
            refine ro_jn (pcj := 54) (lvs := fun (s : Int32) => [(0, .ref (xa X o)), (1, .ref (xa X 36)), (2, .int x5), (3, .int x6)]) (hs := fun (s : Int32) => h7) (sts := fun (s : Int32) => [.int s, .int x5, .ref (xa X (o + 2))]) (fun x18 => ?_) (fun j17 hj17 => ?_)
            · try dsimp only
              refine ro_iast (pc := 54) (n := 32) (isL_2 ho) (isL_c2 ho) dX1_valueFor_54 ?_
              refine ro_bnh (fun h19 => ?_)
              refine ro_iinc (pc := 55) (v := x5 + 1) (lv' := [(2, .int (x5 + 1)), (0, .ref (xa X o)), (1, .ref (xa X 36)), (3, .int x6)]) 2 dX1_valueFor_55 rfl rfl (by decide) rfl ?_
              refine ro_goto (tgt := 190) (pc := 58) dX1_valueFor_58 (by decide) ?_
              refine ro_lv [1, 2, 0, 3] rfl ?_
              exact hj9 (x5 + 1, x6, h19)
            · skip
              refine ro_if_lt (tgt := 48) (pc := 40) dX1_valueFor_40 (by decide) (fun _ => ?_) (fun _ => ?_)
              · skip
                refine ro_aload_n (pc := 48) 2 dX1_valueFor_48 rfl rfl ?_
                refine ro_iconst (v := (-1)) (pc := 49) dX1_valueFor_49 (by decide) ?_
                refine ro_iload (pc := 50) 0 dX1_valueFor_50 rfl ?_
                refine ro_isub (pc := 52) dX1_valueFor_52 ?_
                refine ro_iald (pc := 53) (n := 6) cl_36 cv_36 dX1_valueFor_53 ?_
                refine ro_lv [1, 2, 3, 4] rfl ?_
                exact hj17 (h7.1 36 ((-1) - x8).toNatClampNeg)
              · skip
                refine ro_iload (pc := 43) 0 dX1_valueFor_43 rfl ?_
                refine ro_goto (tgt := 54) (pc := 45) dX1_valueFor_45 (by decide) ?_
                refine ro_lv [1, 2, 3, 4] rfl ?_
                exact hj17 x8
theorem c_Law_valueFor (X : mu_X) (N : Nat) (h : mu_H) (o : Nat) (ho : isL o) : ∀ r, f_Law_valueFor N h o = some r → mI X m_Law_valueFor 3 [.ref (xa X o), .ref (xa X 36)] h r.1 r.2 := fun r hr => mI_of (by decide) rfl (Nat.le_of_ble_eq_true rfl) rfl (cb_Law_valueFor X N h o ho r hr)
set_option maxRecDepth 20000 in
theorem cb_Par_addHouse (X : mu_X) (N : Nat) (h : mu_H) (o : Nat) (ho : isP o) : aG X m_Par_addHouse (rmk 1) (fun _ => ax X) (fun _ _ _ => True) 0 0 (fun r : Int32 × mu_H => qI X r.1 r.2) (f_Par_addHouse N h o) 0 [(0, .ref (xa X o))] [] h := by
  unfold f_Par_addHouse
  refine ro_aload_n (pc := 0) 0 dX4_addHouse_0 rfl rfl ?_
  refine ro_dup (pc := 1) dX4_addHouse_1 rfl ?_
  refine gf_X4_3 ho (pc := 2) wd_147 dX4_addHouse_2 ?_
  refine ro_iconst (v := 1) (pc := 5) dX4_addHouse_5 (by decide) ?_
  refine ro_iadd (pc := 6) dX4_addHouse_6 ?_
  refine pf_X4_3 ho (pc := 7) wd_147 dX4_addHouse_7 ?_
  refine ro_bnh (fun h1 => ?_)
  refine ro_bipush (v := 10) (pc := 10) dX4_addHouse_10 (by decide) ?_
  refine ro_aload_n (pc := 12) 0 dX4_addHouse_12 rfl rfl ?_
  refine gf_X4_3 ho (pc := 13) wd_147 dX4_addHouse_13 ?_
  refine ro_iadd (pc := 16) dX4_addHouse_16 ?_
  refine ro_iconst (v := 1) (pc := 17) dX4_addHouse_17 (by decide) ?_
  refine ro_isub (pc := 18) dX4_addHouse_18 ?_
  exact ro_iret (pc := 19) rfl rfl dX4_addHouse_19
theorem c_Par_addHouse (X : mu_X) (N : Nat) (h : mu_H) (o : Nat) (ho : isP o) : ∀ r, f_Par_addHouse N h o = some r → mI X m_Par_addHouse 1 [.ref (xa X o)] h r.1 r.2 := fun r hr => mI_of (by decide) rfl (Nat.le_of_ble_eq_true rfl) rfl (cb_Par_addHouse X N h o ho r hr)
set_option maxRecDepth 20000 in
theorem cb_Par_addStretch (X : mu_X) (N : Nat) (h : mu_H) (o : Nat) (ho : isP o) : aG X m_Par_addStretch (rmk 1) (fun _ => ax X) (fun _ _ _ => True) 0 0 (fun r : Int32 × mu_H => qI X r.1 r.2) (f_Par_addStretch N h o) 0 [(0, .ref (xa X o))] [] h := by
  unfold f_Par_addStretch
  refine ro_aload_n (pc := 0) 0 dX4_addStretch_0 rfl rfl ?_
  refine ro_dup (pc := 1) dX4_addStretch_1 rfl ?_
  refine gf_X4_2 ho (pc := 2) wd_146 dX4_addStretch_2 ?_
  refine ro_iconst (v := 1) (pc := 5) dX4_addStretch_5 (by decide) ?_
  refine ro_iadd (pc := 6) dX4_addStretch_6 ?_
  refine pf_X4_2 ho (pc := 7) wd_146 dX4_addStretch_7 ?_
  refine ro_bnh (fun h1 => ?_)
  refine ro_iconst (v := 1) (pc := 10) dX4_addStretch_10 (by decide) ?_
  refine ro_aload_n (pc := 11) 0 dX4_addStretch_11 rfl rfl ?_
  refine gf_X4_2 ho (pc := 12) wd_146 dX4_addStretch_12 ?_
  refine ro_iadd (pc := 15) dX4_addStretch_15 ?_
  refine ro_iconst (v := 1) (pc := 16) dX4_addStretch_16 (by decide) ?_
  refine ro_isub (pc := 17) dX4_addStretch_17 ?_
  exact ro_iret (pc := 18) rfl rfl dX4_addStretch_18
theorem c_Par_addStretch (X : mu_X) (N : Nat) (h : mu_H) (o : Nat) (ho : isP o) : ∀ r, f_Par_addStretch N h o = some r → mI X m_Par_addStretch 1 [.ref (xa X o)] h r.1 r.2 := fun r hr => mI_of (by decide) rfl (Nat.le_of_ble_eq_true rfl) rfl (cb_Par_addStretch X N h o ho r hr)
set_option maxRecDepth 20000 in
theorem cb_Par_empty (X : mu_X) (N : Nat) (h : mu_H) (o : Nat) (ho : isP o) : aG X m_Par_empty (rmk 1) (fun _ => ax X) (fun _ _ _ => True) 0 0 (fun r : mu_H => qV X r) (f_Par_empty N h o) 0 [(0, .ref (xa X o))] [] h := by
  unfold f_Par_empty
  refine ro_aload_n (pc := 0) 0 dX4_empty_0 rfl rfl ?_
  refine ro_iconst (v := 0) (pc := 1) dX4_empty_1 (by decide) ?_
  refine pf_X4_2 ho (pc := 2) wd_146 dX4_empty_2 ?_
  refine ro_bnh (fun h1 => ?_)
  refine ro_aload_n (pc := 5) 0 dX4_empty_5 rfl rfl ?_
  refine ro_iconst (v := 0) (pc := 6) dX4_empty_6 (by decide) ?_
  refine pf_X4_3 ho (pc := 7) wd_147 dX4_empty_7 ?_
  refine ro_bnh (fun h2 => ?_)
  exact ro_vret (pc := 10) rfl rfl dX4_empty_10
theorem c_Par_empty (X : mu_X) (N : Nat) (h : mu_H) (o : Nat) (ho : isP o) : ∀ r, f_Par_empty N h o = some r → mV X m_Par_empty 1 [.ref (xa X o)] h r := fun r hr => mV_of (by decide) rfl (Nat.le_of_ble_eq_true rfl) rfl (cb_Par_empty X N h o ho r hr)
set_option maxRecDepth 20000 in
theorem cb_Par_hasHouse (X : mu_X) (N : Nat) (h : mu_H) (o : Nat) (ho : isP o) (a1 : Int32) : aG X m_Par_hasHouse (rmk 1) (fun _ => ax X) (fun _ _ _ => True) 0 0 (fun r : Int32 => qI X r h) (f_Par_hasHouse N h o a1) 0 [(0, .ref (xa X o)), (1, .int a1)] [] h := by
  unfold f_Par_hasHouse
  refine ro_iload_n (pc := 0) 1 dX4_hasHouse_0 rfl rfl ?_
  refine ro_if_lt (tgt := 16) (pc := 1) dX4_hasHouse_1 (by decide) (fun _ => ?_) (fun _ => ?_)
  · skip
    refine ro_iconst (v := 0) (pc := 16) dX4_hasHouse_16 (by decide) ?_
    exact ro_zret (pc := 17) rfl rfl rfl dX4_hasHouse_17
  · skip
    refine ro_iload_n (pc := 4) 1 dX4_hasHouse_4 rfl rfl ?_
    refine ro_aload_n (pc := 5) 0 dX4_hasHouse_5 rfl rfl ?_
    refine gf_X4_3 ho (pc := 6) wd_147 dX4_hasHouse_6 ?_
    refine ro_icmp_ge (tgt := 16) (pc := 9) dX4_hasHouse_9 (by decide) (fun _ => ?_) (fun _ => ?_)
    · skip
      refine ro_iconst (v := 0) (pc := 16) dX4_hasHouse_16 (by decide) ?_
      exact ro_zret (pc := 17) rfl rfl rfl dX4_hasHouse_17
    · skip
      refine ro_iconst (v := 1) (pc := 12) dX4_hasHouse_12 (by decide) ?_
      refine ro_goto (tgt := 17) (pc := 13) dX4_hasHouse_13 (by decide) ?_
      exact ro_zret (pc := 17) rfl rfl rfl dX4_hasHouse_17
theorem c_Par_hasHouse (X : mu_X) (N : Nat) (h : mu_H) (o : Nat) (ho : isP o) (a1 : Int32) : ∀ r, f_Par_hasHouse N h o a1 = some r → mI X m_Par_hasHouse 1 [.ref (xa X o), .int a1] h r h := fun r hr => mI_of (by decide) rfl (Nat.le_of_ble_eq_true rfl) rfl (cb_Par_hasHouse X N h o ho a1 r hr)
set_option maxRecDepth 20000 in
theorem cb_Par_ofStretch (X : mu_X) (N : Nat) (h : mu_H) (o : Nat) (ho : isP o) (a1 : Int32) (a2 : Int32) : aG X m_Par_ofStretch (rmk 1) (fun _ => ax X) (fun _ _ _ => True) 0 0 (fun r : Int32 => qI X r h) (f_Par_ofStretch N h o a1 a2) 0 [(0, .ref (xa X o)), (1, .int a1), (2, .int a2)] [] h := by
  unfold f_Par_ofStretch
  refine ro_aload_n (pc := 0) 0 dX4_ofStretch_0 rfl rfl ?_
  refine gf_X4_0 ho (pc := 1) wd_144 dX4_ofStretch_1 ?_
  refine ro_iconst (v := 1) (pc := 4) dX4_ofStretch_4 (by decide) ?_
  refine ro_iload_n (pc := 5) 1 dX4_ofStretch_5 rfl rfl ?_
  refine ro_iadd (pc := 6) dX4_ofStretch_6 ?_
  refine ro_iconst (v := 5) (pc := 7) dX4_ofStretch_7 (by decide) ?_
  refine ro_imul (pc := 8) dX4_ofStretch_8 ?_
  refine ro_iload_n (pc := 9) 2 dX4_ofStretch_9 rfl rfl ?_
  refine ro_iadd (pc := 10) dX4_ofStretch_10 ?_
  refine ro_iald (pc := 11) (n := 80) (isP_1 ho) (isP_c1 ho) dX4_ofStretch_11 ?_
  exact ro_iret (pc := 12) rfl rfl dX4_ofStretch_12
theorem c_Par_ofStretch (X : mu_X) (N : Nat) (h : mu_H) (o : Nat) (ho : isP o) (a1 : Int32) (a2 : Int32) : ∀ r, f_Par_ofStretch N h o a1 a2 = some r → mI X m_Par_ofStretch 1 [.ref (xa X o), .int a1, .int a2] h r h := fun r hr => mI_of (by decide) rfl (Nat.le_of_ble_eq_true rfl) rfl (cb_Par_ofStretch X N h o ho a1 a2 r hr)
set_option maxRecDepth 20000 in
theorem cb_Par_hasLoop (X : mu_X) (N : Nat) (h : mu_H) (o : Nat) (ho : isP o) : aG X m_Par_hasLoop (rmk 2) (fun _ => ax X) (fun _ _ _ => True) 0 0 (fun r : Int32 => qI X r h) (f_Par_hasLoop N h o) 0 [(0, .ref (xa X o))] [] h := by
  unfold f_Par_hasLoop
  refine ro_iconst (v := 0) (pc := 0) dX4_hasLoop_0 (by decide) ?_
  refine ro_istore_n (pc := 1) (lv' := [(1, .int 0), (0, .ref (xa X o))]) dX4_hasLoop_1 rfl (by decide) rfl ?_
  refine ro_lv [1, 0] rfl ?_
  refine ro_lp (pc := 2) (lvs := fun (s : Int32) => [(0, .ref (xa X o)), (1, .int s)]) (hs := fun (s : Int32) => h) (fun rec1 hrec1 x2 => ?_) N 0
  unfold f_Par_hasLoop_L2; try dsimp only
  refine ro_iload_n (pc := 2) 1 dX4_hasLoop_2 rfl rfl ?_
  refine ro_aload_n (pc := 3) 0 dX4_hasLoop_3 rfl rfl ?_
  refine gf_X4_2 ho (pc := 4) wd_146 dX4_hasLoop_4 ?_
  refine ro_icmp_ge (tgt := 33) (pc := 7) dX4_hasLoop_7 (by decide) (fun _ => ?_) (fun _ => ?_)
  · skip
    refine ro_iconst (v := 0) (pc := 33) dX4_hasLoop_33 (by decide) ?_
    exact ro_zret (pc := 34) rfl rfl rfl dX4_hasLoop_34
  · skip
    refine ro_aload_n (pc := 10) 0 dX4_hasLoop_10 rfl rfl ?_
    refine ro_iload_n (pc := 11) 1 dX4_hasLoop_11 rfl rfl ?_
    refine ro_iconst (v := 0) (pc := 12) dX4_hasLoop_12 (by decide) ?_
    refine ro_cvP (pc := 13) (kc := 1) (avs := [.int x2, .int 0]) (st := []) ok_Par_ofStretch wd_493 (isP_0 ho) (isP_c0 ho) rfl ⟨by decide, by decide⟩ ⟨Nat.zero_le _, Nat.zero_le _⟩ (c_Par_ofStretch X N h o ho x2 0) rfl rfl (Nat.le_of_ble_eq_true rfl) dX4_hasLoop_13 (fun x3 => ?_)
    refine ro_aload_n (pc := 16) 0 dX4_hasLoop_16 rfl rfl ?_
    refine ro_iload_n (pc := 17) 1 dX4_hasLoop_17 rfl rfl ?_
    refine ro_iconst (v := 1) (pc := 18) dX4_hasLoop_18 (by decide) ?_
    refine ro_cvP (pc := 19) (kc := 1) (avs := [.int x2, .int 1]) (st := [.int x3]) ok_Par_ofStretch wd_493 (isP_0 ho) (isP_c0 ho) rfl ⟨by decide, by decide⟩ ⟨Nat.zero_le _, Nat.zero_le _⟩ (c_Par_ofStretch X N h o ho x2 1) rfl rfl (Nat.le_of_ble_eq_true rfl) dX4_hasLoop_19 (fun x4 => ?_)
    refine ro_icmp_ne (tgt := 27) (pc := 22) dX4_hasLoop_22 (by decide) (fun _ => ?_) (fun _ => ?_)
    · skip
      refine ro_iinc (pc := 27) (v := x2 + 1) (lv' := [(1, .int (x2 + 1)), (0, .ref (xa X o))]) 1 dX4_hasLoop_27 rfl rfl (by decide) rfl ?_
      refine ro_goto (tgt := 2) (pc := 30) dX4_hasLoop_30 (by decide) ?_
      refine ro_lv [1, 0] rfl ?_
      exact hrec1 (x2 + 1)
    · skip
      refine ro_iconst (v := 1) (pc := 25) dX4_hasLoop_25 (by decide) ?_
      exact ro_zret (pc := 26) rfl rfl rfl dX4_hasLoop_26
theorem c_Par_hasLoop (X : mu_X) (N : Nat) (h : mu_H) (o : Nat) (ho : isP o) : ∀ r, f_Par_hasLoop N h o = some r → mI X m_Par_hasLoop 2 [.ref (xa X o)] h r h := fun r hr => mI_of (by decide) rfl (Nat.le_of_ble_eq_true rfl) rfl (cb_Par_hasLoop X N h o ho r hr)
set_option maxRecDepth 20000 in
theorem cb_Par_hasStretch (X : mu_X) (N : Nat) (h : mu_H) (o : Nat) (ho : isP o) (a1 : Int32) : aG X m_Par_hasStretch (rmk 1) (fun _ => ax X) (fun _ _ _ => True) 0 0 (fun r : Int32 => qI X r h) (f_Par_hasStretch N h o a1) 0 [(0, .ref (xa X o)), (1, .int a1)] [] h := by
  unfold f_Par_hasStretch
  refine ro_iload_n (pc := 0) 1 dX4_hasStretch_0 rfl rfl ?_
  refine ro_if_lt (tgt := 16) (pc := 1) dX4_hasStretch_1 (by decide) (fun _ => ?_) (fun _ => ?_)
  · skip
    refine ro_iconst (v := 0) (pc := 16) dX4_hasStretch_16 (by decide) ?_
    exact ro_zret (pc := 17) rfl rfl rfl dX4_hasStretch_17
  · skip
    refine ro_iload_n (pc := 4) 1 dX4_hasStretch_4 rfl rfl ?_
    refine ro_aload_n (pc := 5) 0 dX4_hasStretch_5 rfl rfl ?_
    refine gf_X4_2 ho (pc := 6) wd_146 dX4_hasStretch_6 ?_
    refine ro_icmp_ge (tgt := 16) (pc := 9) dX4_hasStretch_9 (by decide) (fun _ => ?_) (fun _ => ?_)
    · skip
      refine ro_iconst (v := 0) (pc := 16) dX4_hasStretch_16 (by decide) ?_
      exact ro_zret (pc := 17) rfl rfl rfl dX4_hasStretch_17
    · skip
      refine ro_iconst (v := 1) (pc := 12) dX4_hasStretch_12 (by decide) ?_
      refine ro_goto (tgt := 17) (pc := 13) dX4_hasStretch_13 (by decide) ?_
      exact ro_zret (pc := 17) rfl rfl rfl dX4_hasStretch_17
theorem c_Par_hasStretch (X : mu_X) (N : Nat) (h : mu_H) (o : Nat) (ho : isP o) (a1 : Int32) : ∀ r, f_Par_hasStretch N h o a1 = some r → mI X m_Par_hasStretch 1 [.ref (xa X o), .int a1] h r h := fun r hr => mI_of (by decide) rfl (Nat.le_of_ble_eq_true rfl) rfl (cb_Par_hasStretch X N h o ho a1 r hr)
set_option maxRecDepth 20000 in
theorem cb_Par_houses (X : mu_X) (N : Nat) (h : mu_H) (o : Nat) (ho : isP o) : aG X m_Par_houses (rmk 1) (fun _ => ax X) (fun _ _ _ => True) 0 0 (fun r : Int32 => qI X r h) (f_Par_houses N h o) 0 [(0, .ref (xa X o))] [] h := by
  unfold f_Par_houses
  refine ro_aload_n (pc := 0) 0 dX4_houses_0 rfl rfl ?_
  refine gf_X4_3 ho (pc := 1) wd_147 dX4_houses_1 ?_
  exact ro_iret (pc := 4) rfl rfl dX4_houses_4
theorem c_Par_houses (X : mu_X) (N : Nat) (h : mu_H) (o : Nat) (ho : isP o) : ∀ r, f_Par_houses N h o = some r → mI X m_Par_houses 1 [.ref (xa X o)] h r h := fun r hr => mI_of (by decide) rfl (Nat.le_of_ble_eq_true rfl) rfl (cb_Par_houses X N h o ho r hr)
set_option maxRecDepth 20000 in
theorem cb_Par_isNone (X : mu_X) (N : Nat) (h : mu_H) (o : Nat) (ho : isP o) : aG X m_Par_isNone (rmk 1) (fun _ => ax X) (fun _ _ _ => True) 0 0 (fun r : Int32 => qI X r h) (f_Par_isNone N h o) 0 [(0, .ref (xa X o))] [] h := by
  unfold f_Par_isNone
  refine ro_aload_n (pc := 0) 0 dX4_isNone_0 rfl rfl ?_
  refine gf_X4_2 ho (pc := 1) wd_146 dX4_isNone_1 ?_
  refine ro_if_ne (tgt := 11) (pc := 4) dX4_isNone_4 (by decide) (fun _ => ?_) (fun _ => ?_)
  · skip
    refine ro_iconst (v := 0) (pc := 11) dX4_isNone_11 (by decide) ?_
    exact ro_zret (pc := 12) rfl rfl rfl dX4_isNone_12
  · skip
    refine ro_iconst (v := 1) (pc := 7) dX4_isNone_7 (by decide) ?_
    refine ro_goto (tgt := 12) (pc := 8) dX4_isNone_8 (by decide) ?_
    exact ro_zret (pc := 12) rfl rfl rfl dX4_isNone_12
theorem c_Par_isNone (X : mu_X) (N : Nat) (h : mu_H) (o : Nat) (ho : isP o) : ∀ r, f_Par_isNone N h o = some r → mI X m_Par_isNone 1 [.ref (xa X o)] h r h := fun r hr => mI_of (by decide) rfl (Nat.le_of_ble_eq_true rfl) rfl (cb_Par_isNone X N h o ho r hr)
set_option maxRecDepth 20000 in
theorem cb_Par_shortenBy (X : mu_X) (N : Nat) (h : mu_H) (o : Nat) (ho : isP o) (a1 : Int32) : aG X m_Par_shortenBy (rmk 1) (fun _ => ax X) (fun _ _ _ => True) 0 0 (fun r : mu_H => qV X r) (f_Par_shortenBy N h o a1) 0 [(0, .ref (xa X o)), (1, .int a1)] [] h := by
  unfold f_Par_shortenBy
  refine ro_iconst (v := 0) (pc := 0) dX4_shortenBy_0 (by decide) ?_
  refine ro_istore_n (pc := 1) (lv' := [(2, .int 0), (0, .ref (xa X o)), (1, .int a1)]) dX4_shortenBy_1 rfl (by decide) rfl ?_
  refine ro_lv [1, 2, 0] rfl ?_
  refine ro_lp (pc := 2) (lvs := fun (s : Int32 × mu_H) => [(0, .ref (xa X o)), (1, .int a1), (2, .int s.1)]) (hs := fun (s : Int32 × mu_H) => s.2) (fun rec1 hrec1 s => ?_) N (0, h)
  obtain ⟨x2, h3⟩ := s; unfold f_Par_shortenBy_L2; try dsimp only
  refine ro_iload_n (pc := 2) 2 dX4_shortenBy_2 rfl rfl ?_
  refine ro_bipush (v := 8) (pc := 3) dX4_shortenBy_3 (by decide) ?_
  refine ro_icmp_ge (tgt := 82) (pc := 5) dX4_shortenBy_5 (by decide) (fun _ => ?_) (fun _ => ?_)
  · skip
    exact ro_vret (pc := 82) rfl rfl dX4_shortenBy_82
  · skip
    refine ro_iconst (v := 0) (pc := 8) dX4_shortenBy_8 (by decide) ?_
    refine ro_istore_n (pc := 9) (lv' := [(3, .int 0), (0, .ref (xa X o)), (1, .int a1), (2, .int x2)]) dX4_shortenBy_9 rfl (by decide) rfl ?_
    refine ro_jn (pcj := 76) (lvs := fun (s : mu_H) => [(0, .ref (xa X o)), (1, .int a1), (2, .int x2)]) (hs := fun (s : mu_H) => s) (sts := fun (s : mu_H) => []) (fun h5 => ?_) (fun k4 hk4 => ?_)
    · try dsimp only
      refine ro_iinc (pc := 76) (v := x2 + 1) (lv' := [(2, .int (x2 + 1)), (0, .ref (xa X o)), (1, .int a1)]) 2 dX4_shortenBy_76 rfl rfl (by decide) rfl ?_
      refine ro_goto (tgt := 2) (pc := 79) dX4_shortenBy_79 (by decide) ?_
      refine ro_lv [1, 2, 0] rfl ?_
      exact hrec1 (x2 + 1, h5)
    · skip
      refine ro_lv [1, 2, 3, 0] rfl ?_
      refine ro_lp (pc := 10) (lvs := fun (s : Int32 × mu_H) => [(0, .ref (xa X o)), (1, .int a1), (2, .int x2), (3, .int s.1)]) (hs := fun (s : Int32 × mu_H) => s.2) (fun rec6 hrec6 s => ?_) N (0, h3)
      obtain ⟨x7, h8⟩ := s; unfold f_Par_shortenBy_L10; try dsimp only
      refine ro_iload_n (pc := 10) 3 dX4_shortenBy_10 rfl rfl ?_
      refine ro_bipush (v := 8) (pc := 11) dX4_shortenBy_11 (by decide) ?_
      refine ro_icmp_ge (tgt := 76) (pc := 13) dX4_shortenBy_13 (by decide) (fun _ => ?_) (fun _ => ?_)
      · skip
        refine ro_lv [0, 1, 2] rfl ?_
        exact hk4 h8
      · skip
        refine ro_aload_n (pc := 16) 0 dX4_shortenBy_16 rfl rfl ?_
        refine gf_X4_1 ho (pc := 17) wd_145 dX4_shortenBy_17 ?_
        refine ro_iload_n (pc := 20) 2 dX4_shortenBy_20 rfl rfl ?_
        refine ro_bipush (v := 8) (pc := 21) dX4_shortenBy_21 (by decide) ?_
        refine ro_imul (pc := 23) dX4_shortenBy_23 ?_
        refine ro_iload_n (pc := 24) 1 dX4_shortenBy_24 rfl rfl ?_
        refine ro_iadd (pc := 25) dX4_shortenBy_25 ?_
        refine ro_iald (pc := 26) (n := 64) (isP_2 ho) (isP_c2 ho) dX4_shortenBy_26 ?_
        refine ro_aload_n (pc := 27) 0 dX4_shortenBy_27 rfl rfl ?_
        refine gf_X4_1 ho (pc := 28) wd_145 dX4_shortenBy_28 ?_
        refine ro_iload_n (pc := 31) 1 dX4_shortenBy_31 rfl rfl ?_
        refine ro_bipush (v := 8) (pc := 32) dX4_shortenBy_32 (by decide) ?_
        refine ro_imul (pc := 34) dX4_shortenBy_34 ?_
        refine ro_iload_n (pc := 35) 3 dX4_shortenBy_35 rfl rfl ?_
        refine ro_iadd (pc := 36) dX4_shortenBy_36 ?_
        refine ro_iald (pc := 37) (n := 64) (isP_2 ho) (isP_c2 ho) dX4_shortenBy_37 ?_
        refine ro_iadd (pc := 38) dX4_shortenBy_38 ?_
        refine ro_bn (fun x9 => ?_)
        refine ro_istore (pc := 39) (lv' := [(4, .int x9), (0, .ref (xa X o)), (1, .int a1), (2, .int x2), (3, .int x7)]) dX4_shortenBy_39 (by decide) rfl ?_
        refine ro_iload (pc := 41) 0 dX4_shortenBy_41 rfl ?_
        refine ro_aload_n (pc := 43) 1 dX4_shortenBy_43 rfl rfl ?_
        refine gf_X4_1 ho (pc := 44) wd_145 dX4_shortenBy_44 ?_
        refine ro_iload_n (pc := 47) 3 dX4_shortenBy_47 rfl rfl ?_
        refine ro_bipush (v := 8) (pc := 48) dX4_shortenBy_48 (by decide) ?_
        refine ro_imul (pc := 50) dX4_shortenBy_50 ?_
        refine ro_iload_n (pc := 51) 4 dX4_shortenBy_51 rfl rfl ?_
        refine ro_iadd (pc := 52) dX4_shortenBy_52 ?_
        refine ro_iald (pc := 53) (n := 64) (isP_2 ho) (isP_c2 ho) dX4_shortenBy_53 ?_
        refine ro_jn (pcj := 70) (lvs := fun (s : mu_H) => [(0, .ref (xa X o)), (1, .int a1), (2, .int x2), (3, .int x7)]) (hs := fun (s : mu_H) => s) (sts := fun (s : mu_H) => []) (fun h11 => ?_) (fun j10 hj10 => ?_)
        · try dsimp only
          refine ro_iinc (pc := 70) (v := x7 + 1) (lv' := [(3, .int (x7 + 1)), (0, .ref (xa X o)), (1, .int a1), (2, .int x2)]) 3 dX4_shortenBy_70 rfl rfl (by decide) rfl ?_
          refine ro_goto (tgt := 10) (pc := 73) dX4_shortenBy_73 (by decide) ?_
          refine ro_lv [1, 2, 3, 0] rfl ?_
          exact hrec6 (x7 + 1, h11)
        · skip
          refine ro_icmp_ge (tgt := 70) (pc := 54) dX4_shortenBy_54 (by decide) (fun _ => ?_) (fun _ => ?_)
          · skip
            refine ro_lv [1, 2, 3, 4] rfl ?_
            exact hj10 h8
          · skip
            refine ro_aload_n (pc := 57) 1 dX4_shortenBy_57 rfl rfl ?_
            refine gf_X4_1 ho (pc := 58) wd_145 dX4_shortenBy_58 ?_
            refine ro_iload_n (pc := 61) 3 dX4_shortenBy_61 rfl rfl ?_
            refine ro_bipush (v := 8) (pc := 62) dX4_shortenBy_62 (by decide) ?_
            refine ro_imul (pc := 64) dX4_shortenBy_64 ?_
            refine ro_iload_n (pc := 65) 4 dX4_shortenBy_65 rfl rfl ?_
            refine ro_iadd (pc := 66) dX4_shortenBy_66 ?_
            refine ro_iload (pc := 67) 0 dX4_shortenBy_67 rfl ?_
            refine ro_iast (pc := 69) (n := 64) (isP_2 ho) (isP_c2 ho) dX4_shortenBy_69 ?_
            refine ro_bnh (fun h12 => ?_)
            refine ro_lv [1, 2, 3, 4] rfl ?_
            exact hj10 h12
theorem c_Par_shortenBy (X : mu_X) (N : Nat) (h : mu_H) (o : Nat) (ho : isP o) (a1 : Int32) : ∀ r, f_Par_shortenBy N h o a1 = some r → mV X m_Par_shortenBy 1 [.ref (xa X o), .int a1] h r := fun r hr => mV_of (by decide) rfl (Nat.le_of_ble_eq_true rfl) rfl (cb_Par_shortenBy X N h o ho a1 r hr)
set_option maxRecDepth 20000 in
theorem cb_Par_measure (X : mu_X) (N : Nat) (h : mu_H) (o : Nat) (ho : isP o) : aG X m_Par_measure (rmk 2) (fun _ => ax X) (fun _ _ _ => True) 0 0 (fun r : mu_H => qV X r) (f_Par_measure N h o) 0 [(0, .ref (xa X o))] [] h := by
  unfold f_Par_measure
  refine ro_aload_n (pc := 0) 0 dX4_measure_0 rfl rfl ?_
  refine gf_X4_1 ho (pc := 1) wd_145 dX4_measure_1 ?_
  refine ro_sipush (v := 1000) (pc := 4) dX4_measure_4 (by decide) ?_
  refine ro_csV (pc := 7) (kc := 1) (avs := [.ref (xa X (o + 2)), .int 1000]) (st := []) ok_Arr_fill wd_588 ⟨by decide, by decide⟩ ⟨Nat.zero_le _, Nat.zero_le _⟩ (c_Arr_fill X N h (o + 2) 64 (isP_2 ho) (isP_c2 ho) 1000) rfl rfl (Nat.le_of_ble_eq_true rfl) dX4_measure_7 (fun h1 => ?_)
  refine ro_iconst (v := 0) (pc := 10) dX4_measure_10 (by decide) ?_
  refine ro_istore_n (pc := 11) (lv' := [(1, .int 0), (0, .ref (xa X o))]) dX4_measure_11 rfl (by decide) rfl ?_
  refine ro_jn (pcj := 36) (lvs := fun (s : mu_H) => [(0, .ref (xa X o))]) (hs := fun (s : mu_H) => s) (sts := fun (s : mu_H) => []) (fun h3 => ?_) (fun k2 hk2 => ?_)
  · try dsimp only
    refine ro_iconst (v := 0) (pc := 36) dX4_measure_36 (by decide) ?_
    refine ro_istore_n (pc := 37) (lv' := [(1, .int 0), (0, .ref (xa X o))]) dX4_measure_37 rfl (by decide) rfl ?_
    refine ro_jn (pcj := 90) (lvs := fun (s : mu_H) => [(0, .ref (xa X o))]) (hs := fun (s : mu_H) => s) (sts := fun (s : mu_H) => []) (fun h5 => ?_) (fun k4 hk4 => ?_)
    · try dsimp only
      refine ro_iconst (v := 0) (pc := 90) dX4_measure_90 (by decide) ?_
      refine ro_istore_n (pc := 91) (lv' := [(1, .int 0), (0, .ref (xa X o))]) dX4_measure_91 rfl (by decide) rfl ?_
      refine ro_lv [1, 0] rfl ?_
      refine ro_lp (pc := 92) (lvs := fun (s : Int32 × mu_H) => [(0, .ref (xa X o)), (1, .int s.1)]) (hs := fun (s : Int32 × mu_H) => s.2) (fun rec6 hrec6 s => ?_) N (0, h5)
      obtain ⟨x7, h8⟩ := s; unfold f_Par_measure_L92; try dsimp only
      refine ro_iload_n (pc := 92) 1 dX4_measure_92 rfl rfl ?_
      refine ro_bipush (v := 8) (pc := 93) dX4_measure_93 (by decide) ?_
      refine ro_icmp_ge (tgt := 109) (pc := 95) dX4_measure_95 (by decide) (fun _ => ?_) (fun _ => ?_)
      · skip
        exact ro_vret (pc := 109) rfl rfl dX4_measure_109
      · skip
        refine ro_aload_n (pc := 98) 0 dX4_measure_98 rfl rfl ?_
        refine ro_iload_n (pc := 99) 1 dX4_measure_99 rfl rfl ?_
        refine ro_cvV (pc := 100) (kc := 1) (avs := [.int x7]) (st := []) ok_Par_shortenBy wd_591 (isP_0 ho) (isP_c0 ho) rfl ⟨by decide, by decide⟩ ⟨Nat.zero_le _, Nat.zero_le _⟩ (c_Par_shortenBy X N h8 o ho x7) rfl rfl (Nat.le_of_ble_eq_true rfl) dX4_measure_100 (fun h9 => ?_)
        refine ro_iinc (pc := 103) (v := x7 + 1) (lv' := [(1, .int (x7 + 1)), (0, .ref (xa X o))]) 1 dX4_measure_103 rfl rfl (by decide) rfl ?_
        refine ro_goto (tgt := 92) (pc := 106) dX4_measure_106 (by decide) ?_
        refine ro_lv [1, 0] rfl ?_
        exact hrec6 (x7 + 1, h9)
    · skip
      refine ro_lv [1, 0] rfl ?_
      refine ro_lp (pc := 38) (lvs := fun (s : Int32 × mu_H) => [(0, .ref (xa X o)), (1, .int s.1)]) (hs := fun (s : Int32 × mu_H) => s.2) (fun rec10 hrec10 s => ?_) N (0, h3)
      obtain ⟨x11, h12⟩ := s; unfold f_Par_measure_L38; try dsimp only
      refine ro_iload_n (pc := 38) 1 dX4_measure_38 rfl rfl ?_
      refine ro_aload_n (pc := 39) 0 dX4_measure_39 rfl rfl ?_
      refine gf_X4_2 ho (pc := 40) wd_146 dX4_measure_40 ?_
      refine ro_icmp_ge (tgt := 90) (pc := 43) dX4_measure_43 (by decide) (fun _ => ?_) (fun _ => ?_)
      · skip
        refine ro_lv [0] rfl ?_
        exact hk4 h12
      · skip
        refine ro_aload_n (pc := 46) 0 dX4_measure_46 rfl rfl ?_
        refine ro_iload_n (pc := 47) 1 dX4_measure_47 rfl rfl ?_
        refine ro_iconst (v := 0) (pc := 48) dX4_measure_48 (by decide) ?_
        refine ro_cvP (pc := 49) (kc := 1) (avs := [.int x11, .int 0]) (st := []) ok_Par_ofStretch wd_493 (isP_0 ho) (isP_c0 ho) rfl ⟨by decide, by decide⟩ ⟨Nat.zero_le _, Nat.zero_le _⟩ (c_Par_ofStretch X N h12 o ho x11 0) rfl rfl (Nat.le_of_ble_eq_true rfl) dX4_measure_49 (fun x13 => ?_)
        refine ro_istore_n (pc := 52) (lv' := [(2, .int x13), (0, .ref (xa X o)), (1, .int x11)]) dX4_measure_52 rfl (by decide) rfl ?_
        refine ro_aload_n (pc := 53) 1 dX4_measure_53 rfl rfl ?_
        refine ro_iload_n (pc := 54) 2 dX4_measure_54 rfl rfl ?_
        refine ro_iconst (v := 1) (pc := 55) dX4_measure_55 (by decide) ?_
        refine ro_cvP (pc := 56) (kc := 1) (avs := [.int x11, .int 1]) (st := []) ok_Par_ofStretch wd_493 (isP_0 ho) (isP_c0 ho) rfl ⟨by decide, by decide⟩ ⟨Nat.zero_le _, Nat.zero_le _⟩ (c_Par_ofStretch X N h12 o ho x11 1) rfl rfl (Nat.le_of_ble_eq_true rfl) dX4_measure_56 (fun x14 => ?_)
        refine ro_istore_n (pc := 59) (lv' := [(3, .int x14), (2, .int x13), (0, .ref (xa X o)), (1, .int x11)]) dX4_measure_59 rfl (by decide) rfl ?_
        refine ro_aload_n (pc := 60) 2 dX4_measure_60 rfl rfl ?_
        refine gf_X4_1 ho (pc := 61) wd_145 dX4_measure_61 ?_
        refine ro_iload_n (pc := 64) 1 dX4_measure_64 rfl rfl ?_
        refine ro_bipush (v := 8) (pc := 65) dX4_measure_65 (by decide) ?_
        refine ro_imul (pc := 67) dX4_measure_67 ?_
        refine ro_iload_n (pc := 68) 0 dX4_measure_68 rfl rfl ?_
        refine ro_iadd (pc := 69) dX4_measure_69 ?_
        refine ro_iconst (v := 1) (pc := 70) dX4_measure_70 (by decide) ?_
        refine ro_iast (pc := 71) (n := 64) (isP_2 ho) (isP_c2 ho) dX4_measure_71 ?_
        refine ro_bnh (fun h15 => ?_)
        refine ro_aload_n (pc := 72) 2 dX4_measure_72 rfl rfl ?_
        refine gf_X4_1 ho (pc := 73) wd_145 dX4_measure_73 ?_
        refine ro_iload_n (pc := 76) 0 dX4_measure_76 rfl rfl ?_
        refine ro_bipush (v := 8) (pc := 77) dX4_measure_77 (by decide) ?_
        refine ro_imul (pc := 79) dX4_measure_79 ?_
        refine ro_iload_n (pc := 80) 1 dX4_measure_80 rfl rfl ?_
        refine ro_iadd (pc := 81) dX4_measure_81 ?_
        refine ro_iconst (v := 1) (pc := 82) dX4_measure_82 (by decide) ?_
        refine ro_iast (pc := 83) (n := 64) (isP_2 ho) (isP_c2 ho) dX4_measure_83 ?_
        refine ro_bnh (fun h16 => ?_)
        refine ro_iinc (pc := 84) (v := x11 + 1) (lv' := [(1, .int (x11 + 1)), (3, .int x14), (2, .int x13), (0, .ref (xa X o))]) 3 dX4_measure_84 rfl rfl (by decide) rfl ?_
        refine ro_goto (tgt := 38) (pc := 87) dX4_measure_87 (by decide) ?_
        refine ro_lv [3, 0] rfl ?_
        exact hrec10 (x11 + 1, h16)
  · skip
    refine ro_lv [1, 0] rfl ?_
    refine ro_lp (pc := 12) (lvs := fun (s : Int32 × mu_H) => [(0, .ref (xa X o)), (1, .int s.1)]) (hs := fun (s : Int32 × mu_H) => s.2) (fun rec17 hrec17 s => ?_) N (0, h1)
    obtain ⟨x18, h19⟩ := s; unfold f_Par_measure_L12; try dsimp only
    refine ro_iload_n (pc := 12) 1 dX4_measure_12 rfl rfl ?_
    refine ro_bipush (v := 8) (pc := 13) dX4_measure_13 (by decide) ?_
    refine ro_icmp_ge (tgt := 36) (pc := 15) dX4_measure_15 (by decide) (fun _ => ?_) (fun _ => ?_)
    · skip
      refine ro_lv [0] rfl ?_
      exact hk2 h19
    · skip
      refine ro_aload_n (pc := 18) 0 dX4_measure_18 rfl rfl ?_
      refine gf_X4_1 ho (pc := 19) wd_145 dX4_measure_19 ?_
      refine ro_iload_n (pc := 22) 1 dX4_measure_22 rfl rfl ?_
      refine ro_bipush (v := 8) (pc := 23) dX4_measure_23 (by decide) ?_
      refine ro_imul (pc := 25) dX4_measure_25 ?_
      refine ro_iload_n (pc := 26) 1 dX4_measure_26 rfl rfl ?_
      refine ro_iadd (pc := 27) dX4_measure_27 ?_
      refine ro_iconst (v := 0) (pc := 28) dX4_measure_28 (by decide) ?_
      refine ro_iast (pc := 29) (n := 64) (isP_2 ho) (isP_c2 ho) dX4_measure_29 ?_
      refine ro_bnh (fun h20 => ?_)
      refine ro_iinc (pc := 30) (v := x18 + 1) (lv' := [(1, .int (x18 + 1)), (0, .ref (xa X o))]) 1 dX4_measure_30 rfl rfl (by decide) rfl ?_
      refine ro_goto (tgt := 12) (pc := 33) dX4_measure_33 (by decide) ?_
      refine ro_lv [1, 0] rfl ?_
      exact hrec17 (x18 + 1, h20)
theorem c_Par_measure (X : mu_X) (N : Nat) (h : mu_H) (o : Nat) (ho : isP o) : ∀ r, f_Par_measure N h o = some r → mV X m_Par_measure 2 [.ref (xa X o)] h r := fun r hr => mV_of (by decide) rfl (Nat.le_of_ble_eq_true rfl) rfl (cb_Par_measure X N h o ho r hr)
set_option maxRecDepth 20000 in
theorem cb_Par_ofHouse (X : mu_X) (N : Nat) (h : mu_H) (o : Nat) (ho : isP o) (a1 : Int32) (a2 : Int32) : aG X m_Par_ofHouse (rmk 1) (fun _ => ax X) (fun _ _ _ => True) 0 0 (fun r : Int32 => qI X r h) (f_Par_ofHouse N h o a1 a2) 0 [(0, .ref (xa X o)), (1, .int a1), (2, .int a2)] [] h := by
  unfold f_Par_ofHouse
  refine ro_aload_n (pc := 0) 0 dX4_ofHouse_0 rfl rfl ?_
  refine gf_X4_0 ho (pc := 1) wd_144 dX4_ofHouse_1 ?_
  refine ro_bipush (v := 10) (pc := 4) dX4_ofHouse_4 (by decide) ?_
  refine ro_iload_n (pc := 6) 1 dX4_ofHouse_6 rfl rfl ?_
  refine ro_iadd (pc := 7) dX4_ofHouse_7 ?_
  refine ro_iconst (v := 5) (pc := 8) dX4_ofHouse_8 (by decide) ?_
  refine ro_imul (pc := 9) dX4_ofHouse_9 ?_
  refine ro_iload_n (pc := 10) 2 dX4_ofHouse_10 rfl rfl ?_
  refine ro_iadd (pc := 11) dX4_ofHouse_11 ?_
  refine ro_iald (pc := 12) (n := 80) (isP_1 ho) (isP_c1 ho) dX4_ofHouse_12 ?_
  exact ro_iret (pc := 13) rfl rfl dX4_ofHouse_13
theorem c_Par_ofHouse (X : mu_X) (N : Nat) (h : mu_H) (o : Nat) (ho : isP o) (a1 : Int32) (a2 : Int32) : ∀ r, f_Par_ofHouse N h o a1 a2 = some r → mI X m_Par_ofHouse 1 [.ref (xa X o), .int a1, .int a2] h r h := fun r hr => mI_of (by decide) rfl (Nat.le_of_ble_eq_true rfl) rfl (cb_Par_ofHouse X N h o ho a1 a2 r hr)
set_option maxRecDepth 20000 in
theorem cb_Par_ofRules (X : mu_X) (N : Nat) (h : mu_H) (o : Nat) (ho : isP o) (a1 : Int32) : aG X m_Par_ofRules (rmk 1) (fun _ => ax X) (fun _ _ _ => True) 0 0 (fun r : Int32 => qI X r h) (f_Par_ofRules N h o a1) 0 [(0, .ref (xa X o)), (1, .int a1)] [] h := by
  unfold f_Par_ofRules
  refine ro_aload_n (pc := 0) 0 dX4_ofRules_0 rfl rfl ?_
  refine gf_X4_0 ho (pc := 1) wd_144 dX4_ofRules_1 ?_
  refine ro_iload_n (pc := 4) 1 dX4_ofRules_4 rfl rfl ?_
  refine ro_iald (pc := 5) (n := 80) (isP_1 ho) (isP_c1 ho) dX4_ofRules_5 ?_
  exact ro_iret (pc := 6) rfl rfl dX4_ofRules_6
theorem c_Par_ofRules (X : mu_X) (N : Nat) (h : mu_H) (o : Nat) (ho : isP o) (a1 : Int32) : ∀ r, f_Par_ofRules N h o a1 = some r → mI X m_Par_ofRules 1 [.ref (xa X o), .int a1] h r h := fun r hr => mI_of (by decide) rfl (Nat.le_of_ble_eq_true rfl) rfl (cb_Par_ofRules X N h o ho a1 r hr)
set_option maxRecDepth 20000 in
theorem cb_Par_set (X : mu_X) (N : Nat) (h : mu_H) (o : Nat) (ho : isP o) (a1 : Int32) (a2 : Int32) (a3 : Int32) : aG X m_Par_set (rmk 1) (fun _ => ax X) (fun _ _ _ => True) 0 0 (fun r : mu_H => qV X r) (f_Par_set N h o a1 a2 a3) 0 [(0, .ref (xa X o)), (1, .int a1), (2, .int a2), (3, .int a3)] [] h := by
  unfold f_Par_set
  refine ro_iload_n (pc := 0) 1 dX4_set_0 rfl rfl ?_
  refine ro_if_lt (tgt := 30) (pc := 1) dX4_set_1 (by decide) (fun _ => ?_) (fun _ => ?_)
  · skip
    exact ro_vret (pc := 30) rfl rfl dX4_set_30
  · skip
    refine ro_iload_n (pc := 4) 1 dX4_set_4 rfl rfl ?_
    refine ro_bipush (v := 16) (pc := 5) dX4_set_5 (by decide) ?_
    refine ro_icmp_ge (tgt := 30) (pc := 7) dX4_set_7 (by decide) (fun _ => ?_) (fun _ => ?_)
    · skip
      exact ro_vret (pc := 30) rfl rfl dX4_set_30
    · skip
      refine ro_iload_n (pc := 10) 2 dX4_set_10 rfl rfl ?_
      refine ro_if_lt (tgt := 30) (pc := 11) dX4_set_11 (by decide) (fun _ => ?_) (fun _ => ?_)
      · skip
        exact ro_vret (pc := 30) rfl rfl dX4_set_30
      · skip
        refine ro_iload_n (pc := 14) 2 dX4_set_14 rfl rfl ?_
        refine ro_iconst (v := 5) (pc := 15) dX4_set_15 (by decide) ?_
        refine ro_icmp_ge (tgt := 30) (pc := 16) dX4_set_16 (by decide) (fun _ => ?_) (fun _ => ?_)
        · skip
          exact ro_vret (pc := 30) rfl rfl dX4_set_30
        · skip
          refine ro_aload_n (pc := 19) 0 dX4_set_19 rfl rfl ?_
          refine gf_X4_0 ho (pc := 20) wd_144 dX4_set_20 ?_
          refine ro_iload_n (pc := 23) 1 dX4_set_23 rfl rfl ?_
          refine ro_iconst (v := 5) (pc := 24) dX4_set_24 (by decide) ?_
          refine ro_imul (pc := 25) dX4_set_25 ?_
          refine ro_iload_n (pc := 26) 2 dX4_set_26 rfl rfl ?_
          refine ro_iadd (pc := 27) dX4_set_27 ?_
          refine ro_iload_n (pc := 28) 3 dX4_set_28 rfl rfl ?_
          refine ro_iast (pc := 29) (n := 80) (isP_1 ho) (isP_c1 ho) dX4_set_29 ?_
          refine ro_bnh (fun h1 => ?_)
          exact ro_vret (pc := 30) rfl rfl dX4_set_30
theorem c_Par_set (X : mu_X) (N : Nat) (h : mu_H) (o : Nat) (ho : isP o) (a1 : Int32) (a2 : Int32) (a3 : Int32) : ∀ r, f_Par_set N h o a1 a2 a3 = some r → mV X m_Par_set 1 [.ref (xa X o), .int a1, .int a2, .int a3] h r := fun r hr => mV_of (by decide) rfl (Nat.le_of_ble_eq_true rfl) rfl (cb_Par_set X N h o ho a1 a2 a3 r hr)
set_option maxRecDepth 20000 in
theorem cb_Par_stepsTo (X : mu_X) (N : Nat) (h : mu_H) (o : Nat) (ho : isP o) (a1 : Int32) (a2 : Int32) : aG X m_Par_stepsTo (rmk 2) (fun _ => ax X) (fun _ _ _ => True) 0 0 (fun r : Int32 => qI X r h) (f_Par_stepsTo N h o a1 a2) 0 [(0, .ref (xa X o)), (1, .int a1), (2, .int a2)] [] h := by
  unfold f_Par_stepsTo
  refine ro_aload_n (pc := 0) 0 dX4_stepsTo_0 rfl rfl ?_
  refine ro_iload_n (pc := 1) 1 dX4_stepsTo_1 rfl rfl ?_
  refine ro_iconst (v := 0) (pc := 2) dX4_stepsTo_2 (by decide) ?_
  refine ro_cvP (pc := 3) (kc := 1) (avs := [.int a1, .int 0]) (st := []) ok_Par_ofHouse wd_679 (isP_0 ho) (isP_c0 ho) rfl ⟨by decide, by decide⟩ ⟨Nat.zero_le _, Nat.zero_le _⟩ (c_Par_ofHouse X N h o ho a1 0) rfl rfl (Nat.le_of_ble_eq_true rfl) dX4_stepsTo_3 (fun x1 => ?_)
  refine ro_bipush (v := 8) (pc := 6) dX4_stepsTo_6 (by decide) ?_
  refine ro_imul (pc := 8) dX4_stepsTo_8 ?_
  refine ro_bn (fun x2 => ?_)
  refine ro_istore_n (pc := 9) (lv' := [(3, .int x2), (0, .ref (xa X o)), (1, .int a1), (2, .int a2)]) dX4_stepsTo_9 rfl (by decide) rfl ?_
  refine ro_aload_n (pc := 10) 1 dX4_stepsTo_10 rfl rfl ?_
  refine gf_X4_1 ho (pc := 11) wd_145 dX4_stepsTo_11 ?_
  refine ro_iload_n (pc := 14) 0 dX4_stepsTo_14 rfl rfl ?_
  refine ro_aload_n (pc := 15) 1 dX4_stepsTo_15 rfl rfl ?_
  refine ro_iload_n (pc := 16) 3 dX4_stepsTo_16 rfl rfl ?_
  refine ro_iconst (v := 0) (pc := 17) dX4_stepsTo_17 (by decide) ?_
  refine ro_cvP (pc := 18) (kc := 1) (avs := [.int a2, .int 0]) (st := [.int x2, .ref (xa X (o + 2))]) ok_Par_ofStretch wd_493 (isP_0 ho) (isP_c0 ho) rfl ⟨by decide, by decide⟩ ⟨Nat.zero_le _, Nat.zero_le _⟩ (c_Par_ofStretch X N h o ho a2 0) rfl rfl (Nat.le_of_ble_eq_true rfl) dX4_stepsTo_18 (fun x3 => ?_)
  refine ro_iadd (pc := 21) dX4_stepsTo_21 ?_
  refine ro_iald (pc := 22) (n := 64) (isP_2 ho) (isP_c2 ho) dX4_stepsTo_22 ?_
  refine ro_bn (fun x4 => ?_)
  refine ro_istore (pc := 23) (lv' := [(4, .int x4), (3, .int x2), (0, .ref (xa X o)), (1, .int a1), (2, .int a2)]) dX4_stepsTo_23 (by decide) rfl ?_
  refine ro_aload_n (pc := 25) 2 dX4_stepsTo_25 rfl rfl ?_
  refine gf_X4_1 ho (pc := 26) wd_145 dX4_stepsTo_26 ?_
  refine ro_iload_n (pc := 29) 1 dX4_stepsTo_29 rfl rfl ?_
  refine ro_aload_n (pc := 30) 2 dX4_stepsTo_30 rfl rfl ?_
  refine ro_iload_n (pc := 31) 4 dX4_stepsTo_31 rfl rfl ?_
  refine ro_iconst (v := 1) (pc := 32) dX4_stepsTo_32 (by decide) ?_
  refine ro_cvP (pc := 33) (kc := 1) (avs := [.int a2, .int 1]) (st := [.int x2, .ref (xa X (o + 2))]) ok_Par_ofStretch wd_493 (isP_0 ho) (isP_c0 ho) rfl ⟨by decide, by decide⟩ ⟨Nat.zero_le _, Nat.zero_le _⟩ (c_Par_ofStretch X N h o ho a2 1) rfl rfl (Nat.le_of_ble_eq_true rfl) dX4_stepsTo_33 (fun x5 => ?_)
  refine ro_iadd (pc := 36) dX4_stepsTo_36 ?_
  refine ro_iald (pc := 37) (n := 64) (isP_2 ho) (isP_c2 ho) dX4_stepsTo_37 ?_
  refine ro_bn (fun x6 => ?_)
  refine ro_istore (pc := 38) (lv' := [(5, .int x6), (4, .int x4), (3, .int x2), (0, .ref (xa X o)), (1, .int a1), (2, .int a2)]) dX4_stepsTo_38 (by decide) rfl ?_
  refine ro_iload (pc := 40) 1 dX4_stepsTo_40 rfl ?_
  refine ro_iload (pc := 42) 0 dX4_stepsTo_42 rfl ?_
  refine ro_jn (pcj := 54) (lvs := fun (s : Int32) => []) (hs := fun (s : Int32) => h) (sts := fun (s : Int32) => [.int s]) (fun x8 => ?_) (fun j7 hj7 => ?_)
  · try dsimp only
    refine ro_istore (pc := 54) (lv' := [(6, .int x8)]) dX4_stepsTo_54 (by decide) rfl ?_
    refine ro_iload (pc := 56) 0 dX4_stepsTo_56 rfl ?_
    refine ro_sipush (v := 1000) (pc := 58) dX4_stepsTo_58 (by decide) ?_
    refine ro_icmp_lt (tgt := 68) (pc := 61) dX4_stepsTo_61 (by decide) (fun _ => ?_) (fun _ => ?_)
    · skip
      refine ro_iload (pc := 68) 0 dX4_stepsTo_68 rfl ?_
      exact ro_iret (pc := 70) rfl rfl dX4_stepsTo_70
    · skip
      refine ro_iconst (v := (-1)) (pc := 64) dX4_stepsTo_64 (by decide) ?_
      refine ro_goto (tgt := 70) (pc := 65) dX4_stepsTo_65 (by decide) ?_
      exact ro_iret (pc := 70) rfl rfl dX4_stepsTo_70
  · skip
    refine ro_icmp_ge (tgt := 52) (pc := 44) dX4_stepsTo_44 (by decide) (fun _ => ?_) (fun _ => ?_)
    · skip
      refine ro_iload (pc := 52) 0 dX4_stepsTo_52 rfl ?_
      refine ro_lv [] rfl ?_
      exact hj7 x6
    · skip
      refine ro_iload (pc := 47) 1 dX4_stepsTo_47 rfl ?_
      refine ro_goto (tgt := 54) (pc := 49) dX4_stepsTo_49 (by decide) ?_
      refine ro_lv [] rfl ?_
      exact hj7 x4
theorem c_Par_stepsTo (X : mu_X) (N : Nat) (h : mu_H) (o : Nat) (ho : isP o) (a1 : Int32) (a2 : Int32) : ∀ r, f_Par_stepsTo N h o a1 a2 = some r → mI X m_Par_stepsTo 2 [.ref (xa X o), .int a1, .int a2] h r h := fun r hr => mI_of (by decide) rfl (Nat.le_of_ble_eq_true rfl) rfl (cb_Par_stepsTo X N h o ho a1 a2 r hr)
set_option maxRecDepth 20000 in
theorem cb_Par_stretches (X : mu_X) (N : Nat) (h : mu_H) (o : Nat) (ho : isP o) : aG X m_Par_stretches (rmk 1) (fun _ => ax X) (fun _ _ _ => True) 0 0 (fun r : Int32 => qI X r h) (f_Par_stretches N h o) 0 [(0, .ref (xa X o))] [] h := by
  unfold f_Par_stretches
  refine ro_aload_n (pc := 0) 0 dX4_stretches_0 rfl rfl ?_
  refine gf_X4_2 ho (pc := 1) wd_146 dX4_stretches_1 ?_
  exact ro_iret (pc := 4) rfl rfl dX4_stretches_4
theorem c_Par_stretches (X : mu_X) (N : Nat) (h : mu_H) (o : Nat) (ho : isP o) : ∀ r, f_Par_stretches N h o = some r → mI X m_Par_stretches 1 [.ref (xa X o)] h r h := fun r hr => mI_of (by decide) rfl (Nat.le_of_ble_eq_true rfl) rfl (cb_Par_stretches X N h o ho r hr)
set_option maxRecDepth 20000 in
theorem cb_Par_take (X : mu_X) (N : Nat) (h : mu_H) (o : Nat) (ho : isP o) (p1 : Nat) (hp1 : isP p1) : aG X m_Par_take (rmk 3) (fun _ => ax X) (fun _ _ _ => True) 0 0 (fun r : mu_H => qV X r) (f_Par_take N h o p1) 0 [(0, .ref (xa X o)), (1, .ref (xa X p1))] [] h := by
  unfold f_Par_take
  refine ro_aload_n (pc := 0) 1 dX4_take_0 rfl rfl ?_
  refine gf_X4_0 hp1 (pc := 1) wd_144 dX4_take_1 ?_
  refine ro_iconst (v := 0) (pc := 4) dX4_take_4 (by decide) ?_
  refine ro_aload_n (pc := 5) 0 dX4_take_5 rfl rfl ?_
  refine gf_X4_0 ho (pc := 6) wd_144 dX4_take_6 ?_
  refine ro_iconst (v := 0) (pc := 9) dX4_take_9 (by decide) ?_
  refine ro_aload_n (pc := 10) 0 dX4_take_10 rfl rfl ?_
  refine gf_X4_0 ho (pc := 11) wd_144 dX4_take_11 ?_
  refine ro_alen (pc := 14) (n := 80) (v := 80) (isP_1 ho) (fun f g => ⟨_, (isP_c1 ho) f g⟩) rfl rfl dX4_take_14 ?_
  refine ro_acopy (pc := 15) (st := []) (i0 := (p1 + 1)) (n0 := 80) (i1 := (o + 1)) (n1 := 80) (isP_1 hp1) (isP_c1 hp1) (isP_1 ho) (isP_c1 ho) wd_581 (by decide) (Nat.le_of_ble_eq_true rfl) dX4_take_15 ?_
  refine ro_bnh (fun h1 => ?_)
  refine ro_aload_n (pc := 18) 0 dX4_take_18 rfl rfl ?_
  refine ro_aload_n (pc := 19) 1 dX4_take_19 rfl rfl ?_
  refine gf_X4_2 hp1 (pc := 20) wd_146 dX4_take_20 ?_
  refine pf_X4_2 ho (pc := 23) wd_146 dX4_take_23 ?_
  refine ro_bnh (fun h2 => ?_)
  refine ro_aload_n (pc := 26) 0 dX4_take_26 rfl rfl ?_
  refine ro_aload_n (pc := 27) 1 dX4_take_27 rfl rfl ?_
  refine gf_X4_3 hp1 (pc := 28) wd_147 dX4_take_28 ?_
  refine pf_X4_3 ho (pc := 31) wd_147 dX4_take_31 ?_
  refine ro_bnh (fun h3 => ?_)
  refine ro_aload_n (pc := 34) 0 dX4_take_34 rfl rfl ?_
  refine ro_cvV (pc := 35) (kc := 2) (avs := []) (st := []) ok_Par_measure wd_584 (isP_0 ho) (isP_c0 ho) rfl ⟨by decide, by decide⟩ ⟨Nat.zero_le _, Nat.zero_le _⟩ (c_Par_measure X N h3 o ho) rfl rfl (Nat.le_of_ble_eq_true rfl) dX4_take_35 (fun h4 => ?_)
  exact ro_vret (pc := 38) rfl rfl dX4_take_38
theorem c_Par_take (X : mu_X) (N : Nat) (h : mu_H) (o : Nat) (ho : isP o) (p1 : Nat) (hp1 : isP p1) : ∀ r, f_Par_take N h o p1 = some r → mV X m_Par_take 3 [.ref (xa X o), .ref (xa X p1)] h r := fun r hr => mV_of (by decide) rfl (Nat.le_of_ble_eq_true rfl) rfl (cb_Par_take X N h o ho p1 hp1 r hr)
set_option maxRecDepth 20000 in
theorem cb_Par_touches (X : mu_X) (N : Nat) (h : mu_H) (o : Nat) (ho : isP o) (a1 : Int32) (a2 : Int32) : aG X m_Par_touches (rmk 2) (fun _ => ax X) (fun _ _ _ => True) 0 0 (fun r : Int32 => qI X r h) (f_Par_touches N h o a1 a2) 0 [(0, .ref (xa X o)), (1, .int a1), (2, .int a2)] [] h := by
  unfold f_Par_touches
  refine ro_aload_n (pc := 0) 0 dX4_touches_0 rfl rfl ?_
  refine ro_iload_n (pc := 1) 1 dX4_touches_1 rfl rfl ?_
  refine ro_iconst (v := 0) (pc := 2) dX4_touches_2 (by decide) ?_
  refine ro_cvP (pc := 3) (kc := 1) (avs := [.int a1, .int 0]) (st := []) ok_Par_ofStretch wd_493 (isP_0 ho) (isP_c0 ho) rfl ⟨by decide, by decide⟩ ⟨Nat.zero_le _, Nat.zero_le _⟩ (c_Par_ofStretch X N h o ho a1 0) rfl rfl (Nat.le_of_ble_eq_true rfl) dX4_touches_3 (fun x1 => ?_)
  refine ro_iload_n (pc := 6) 2 dX4_touches_6 rfl rfl ?_
  refine ro_icmp_eq (tgt := 20) (pc := 7) dX4_touches_7 (by decide) (fun _ => ?_) (fun _ => ?_)
  · skip
    refine ro_iconst (v := 1) (pc := 20) dX4_touches_20 (by decide) ?_
    refine ro_goto (tgt := 25) (pc := 21) dX4_touches_21 (by decide) ?_
    exact ro_zret (pc := 25) rfl rfl rfl dX4_touches_25
  · skip
    refine ro_aload_n (pc := 10) 0 dX4_touches_10 rfl rfl ?_
    refine ro_iload_n (pc := 11) 1 dX4_touches_11 rfl rfl ?_
    refine ro_iconst (v := 1) (pc := 12) dX4_touches_12 (by decide) ?_
    refine ro_cvP (pc := 13) (kc := 1) (avs := [.int a1, .int 1]) (st := []) ok_Par_ofStretch wd_493 (isP_0 ho) (isP_c0 ho) rfl ⟨by decide, by decide⟩ ⟨Nat.zero_le _, Nat.zero_le _⟩ (c_Par_ofStretch X N h o ho a1 1) rfl rfl (Nat.le_of_ble_eq_true rfl) dX4_touches_13 (fun x2 => ?_)
    refine ro_iload_n (pc := 16) 2 dX4_touches_16 rfl rfl ?_
    refine ro_icmp_ne (tgt := 24) (pc := 17) dX4_touches_17 (by decide) (fun _ => ?_) (fun _ => ?_)
    · skip
      refine ro_iconst (v := 0) (pc := 24) dX4_touches_24 (by decide) ?_
      exact ro_zret (pc := 25) rfl rfl rfl dX4_touches_25
    · skip
      refine ro_iconst (v := 1) (pc := 20) dX4_touches_20 (by decide) ?_
      refine ro_goto (tgt := 25) (pc := 21) dX4_touches_21 (by decide) ?_
      exact ro_zret (pc := 25) rfl rfl rfl dX4_touches_25
theorem c_Par_touches (X : mu_X) (N : Nat) (h : mu_H) (o : Nat) (ho : isP o) (a1 : Int32) (a2 : Int32) : ∀ r, f_Par_touches N h o a1 a2 = some r → mI X m_Par_touches 2 [.ref (xa X o), .int a1, .int a2] h r h := fun r hr => mI_of (by decide) rfl (Nat.le_of_ble_eq_true rfl) rfl (cb_Par_touches X N h o ho a1 a2 r hr)
set_option maxRecDepth 20000 in
theorem cb_Sta_readFrom (X : mu_X) (N : Nat) (h : mu_H) (o : Nat) (ho : isT o) (a2 : Int32) : aG X m_Sta_readFrom (rmk 1) (fun _ => ax X) (fun _ _ _ => True) 0 0 (fun r : mu_H => qV X r) (f_Sta_readFrom N h o a2) 0 [(0, .ref (xa X o)), (1, .ref (xa X 21)), (2, .int a2)] [] h := by
  unfold f_Sta_readFrom
  refine ro_iload_n (pc := 0) 2 dX9_readFrom_0 rfl rfl ?_
  refine ro_if_lt (tgt := 25) (pc := 1) dX9_readFrom_1 (by decide) (fun _ => ?_) (fun _ => ?_)
  · skip
    exact ro_vret (pc := 25) rfl rfl dX9_readFrom_25
  · skip
    refine ro_iload_n (pc := 4) 2 dX9_readFrom_4 rfl rfl ?_
    refine ro_bipush (v := 34) (pc := 5) dX9_readFrom_5 (by decide) ?_
    refine ro_iadd (pc := 7) dX9_readFrom_7 ?_
    refine ro_aload_n (pc := 8) 1 dX9_readFrom_8 rfl rfl ?_
    refine ro_alen (pc := 9) (n := 1360) (v := 1360) cl_21 (fun f g => ⟨_, cv_21 f g⟩) rfl rfl dX9_readFrom_9 ?_
    refine ro_icmp_gt (tgt := 25) (pc := 10) dX9_readFrom_10 (by decide) (fun _ => ?_) (fun _ => ?_)
    · skip
      exact ro_vret (pc := 25) rfl rfl dX9_readFrom_25
    · skip
      refine ro_aload_n (pc := 13) 1 dX9_readFrom_13 rfl rfl ?_
      refine ro_iload_n (pc := 14) 2 dX9_readFrom_14 rfl rfl ?_
      refine ro_aload_n (pc := 15) 0 dX9_readFrom_15 rfl rfl ?_
      refine gf_X9_0 ho (pc := 16) wd_217 dX9_readFrom_16 ?_
      refine ro_iconst (v := 0) (pc := 19) dX9_readFrom_19 (by decide) ?_
      refine ro_bipush (v := 34) (pc := 20) dX9_readFrom_20 (by decide) ?_
      refine ro_acopy (pc := 22) (st := []) (i0 := 21) (n0 := 1360) (i1 := (o + 1)) (n1 := 34) cl_21 cv_21 (isT_1 ho) (isT_c1 ho) wd_748 (by decide) (Nat.le_of_ble_eq_true rfl) dX9_readFrom_22 ?_
      refine ro_bnh (fun h1 => ?_)
      exact ro_vret (pc := 25) rfl rfl dX9_readFrom_25
theorem c_Sta_readFrom (X : mu_X) (N : Nat) (h : mu_H) (o : Nat) (ho : isT o) (a2 : Int32) : ∀ r, f_Sta_readFrom N h o a2 = some r → mV X m_Sta_readFrom 1 [.ref (xa X o), .ref (xa X 21), .int a2] h r := fun r hr => mV_of (by decide) rfl (Nat.le_of_ble_eq_true rfl) rfl (cb_Sta_readFrom X N h o ho a2 r hr)
set_option maxRecDepth 20000 in
theorem cb_Pas_bringBack (X : mu_X) (N : Nat) (h : mu_H) (p1 : Nat) (hp1 : isT p1) : aG X m_Pas_bringBack (rmk 2) (fun _ => ax X) (fun _ _ _ => True) 0 0 (fun r : Int32 × mu_H => qI X r.1 r.2) (f_Pas_bringBack N h p1) 0 [(0, .ref (xa X 20)), (1, .ref (xa X p1))] [] h := by
  unfold f_Pas_bringBack
  refine ro_aload_n (pc := 0) 0 dX6_bringBack_0 rfl rfl ?_
  refine gf_X6_1 (pc := 1) wd_231 dX6_bringBack_1 ?_
  refine ro_if_ne (tgt := 9) (pc := 4) dX6_bringBack_4 (by decide) (fun _ => ?_) (fun _ => ?_)
  · skip
    refine ro_aload_n (pc := 9) 0 dX6_bringBack_9 rfl rfl ?_
    refine ro_dup (pc := 10) dX6_bringBack_10 rfl ?_
    refine gf_X6_1 (pc := 11) wd_231 dX6_bringBack_11 ?_
    refine ro_iconst (v := 1) (pc := 14) dX6_bringBack_14 (by decide) ?_
    refine ro_isub (pc := 15) dX6_bringBack_15 ?_
    refine pf_X6_1 (pc := 16) wd_231 dX6_bringBack_16 ?_
    refine ro_bnh (fun h1 => ?_)
    refine ro_aload_n (pc := 19) 0 dX6_bringBack_19 rfl rfl ?_
    refine ro_aload_n (pc := 20) 0 dX6_bringBack_20 rfl rfl ?_
    refine gf_X6_2 (pc := 21) wd_232 dX6_bringBack_21 ?_
    refine ro_bipush (v := 40) (pc := 24) dX6_bringBack_24 (by decide) ?_
    refine ro_iadd (pc := 26) dX6_bringBack_26 ?_
    refine ro_iconst (v := 1) (pc := 27) dX6_bringBack_27 (by decide) ?_
    refine ro_isub (pc := 28) dX6_bringBack_28 ?_
    refine ro_bipush (v := 40) (pc := 29) dX6_bringBack_29 (by decide) ?_
    refine ro_irem (pc := 31) dX6_bringBack_31 (by decide) ?_
    refine pf_X6_2 (pc := 32) wd_232 dX6_bringBack_32 ?_
    refine ro_bnh (fun h2 => ?_)
    refine ro_aload_n (pc := 35) 1 dX6_bringBack_35 rfl rfl ?_
    refine ro_aload_n (pc := 36) 0 dX6_bringBack_36 rfl rfl ?_
    refine gf_X6_0 (pc := 37) wd_230 dX6_bringBack_37 ?_
    refine ro_aload_n (pc := 40) 0 dX6_bringBack_40 rfl rfl ?_
    refine gf_X6_2 (pc := 41) wd_232 dX6_bringBack_41 ?_
    refine ro_bipush (v := 34) (pc := 44) dX6_bringBack_44 (by decide) ?_
    refine ro_imul (pc := 46) dX6_bringBack_46 ?_
    refine ro_cvV (pc := 47) (kc := 1) (avs := [.ref (xa X 21), .int ((h2.1 20 2) * 34)]) (st := []) ok_Sta_readFrom wd_879 (isT_0 hp1) (isT_c0 hp1) rfl ⟨by decide, by decide⟩ ⟨Nat.zero_le _, Nat.zero_le _⟩ (c_Sta_readFrom X N h2 p1 hp1 ((h2.1 20 2) * 34)) rfl rfl (Nat.le_of_ble_eq_true rfl) dX6_bringBack_47 (fun h3 => ?_)
    refine ro_iconst (v := 1) (pc := 50) dX6_bringBack_50 (by decide) ?_
    exact ro_zret (pc := 51) rfl rfl rfl dX6_bringBack_51
  · skip
    refine ro_iconst (v := 0) (pc := 7) dX6_bringBack_7 (by decide) ?_
    exact ro_zret (pc := 8) rfl rfl rfl dX6_bringBack_8
theorem c_Pas_bringBack (X : mu_X) (N : Nat) (h : mu_H) (p1 : Nat) (hp1 : isT p1) : ∀ r, f_Pas_bringBack N h p1 = some r → mI X m_Pas_bringBack 2 [.ref (xa X 20), .ref (xa X p1)] h r.1 r.2 := fun r hr => mI_of (by decide) rfl (Nat.le_of_ble_eq_true rfl) rfl (cb_Pas_bringBack X N h p1 hp1 r hr)
set_option maxRecDepth 20000 in
theorem cb_Pas_forget (X : mu_X) (N : Nat) (h : mu_H) : aG X m_Pas_forget (rmk 1) (fun _ => ax X) (fun _ _ _ => True) 0 0 (fun r : mu_H => qV X r) (f_Pas_forget N h) 0 [(0, .ref (xa X 20))] [] h := by
  unfold f_Pas_forget
  refine ro_aload_n (pc := 0) 0 dX6_forget_0 rfl rfl ?_
  refine ro_iconst (v := 0) (pc := 1) dX6_forget_1 (by decide) ?_
  refine pf_X6_1 (pc := 2) wd_231 dX6_forget_2 ?_
  refine ro_bnh (fun h1 => ?_)
  exact ro_vret (pc := 5) rfl rfl dX6_forget_5
theorem c_Pas_forget (X : mu_X) (N : Nat) (h : mu_H) : ∀ r, f_Pas_forget N h = some r → mV X m_Pas_forget 1 [.ref (xa X 20)] h r := fun r hr => mV_of (by decide) rfl (Nat.le_of_ble_eq_true rfl) rfl (cb_Pas_forget X N h r hr)
set_option maxRecDepth 20000 in
theorem cb_Sta_writeTo (X : mu_X) (N : Nat) (h : mu_H) (o : Nat) (ho : isT o) (a2 : Int32) : aG X m_Sta_writeTo (rmk 1) (fun _ => ax X) (fun _ _ _ => True) 0 0 (fun r : mu_H => qV X r) (f_Sta_writeTo N h o a2) 0 [(0, .ref (xa X o)), (1, .ref (xa X 21)), (2, .int a2)] [] h := by
  unfold f_Sta_writeTo
  refine ro_iload_n (pc := 0) 2 dX9_writeTo_0 rfl rfl ?_
  refine ro_if_lt (tgt := 25) (pc := 1) dX9_writeTo_1 (by decide) (fun _ => ?_) (fun _ => ?_)
  · skip
    exact ro_vret (pc := 25) rfl rfl dX9_writeTo_25
  · skip
    refine ro_iload_n (pc := 4) 2 dX9_writeTo_4 rfl rfl ?_
    refine ro_bipush (v := 34) (pc := 5) dX9_writeTo_5 (by decide) ?_
    refine ro_iadd (pc := 7) dX9_writeTo_7 ?_
    refine ro_aload_n (pc := 8) 1 dX9_writeTo_8 rfl rfl ?_
    refine ro_alen (pc := 9) (n := 1360) (v := 1360) cl_21 (fun f g => ⟨_, cv_21 f g⟩) rfl rfl dX9_writeTo_9 ?_
    refine ro_icmp_gt (tgt := 25) (pc := 10) dX9_writeTo_10 (by decide) (fun _ => ?_) (fun _ => ?_)
    · skip
      exact ro_vret (pc := 25) rfl rfl dX9_writeTo_25
    · skip
      refine ro_aload_n (pc := 13) 0 dX9_writeTo_13 rfl rfl ?_
      refine gf_X9_0 ho (pc := 14) wd_217 dX9_writeTo_14 ?_
      refine ro_iconst (v := 0) (pc := 17) dX9_writeTo_17 (by decide) ?_
      refine ro_aload_n (pc := 18) 1 dX9_writeTo_18 rfl rfl ?_
      refine ro_iload_n (pc := 19) 2 dX9_writeTo_19 rfl rfl ?_
      refine ro_bipush (v := 34) (pc := 20) dX9_writeTo_20 (by decide) ?_
      refine ro_acopy (pc := 22) (st := []) (i0 := (o + 1)) (n0 := 34) (i1 := 21) (n1 := 1360) (isT_1 ho) (isT_c1 ho) cl_21 cv_21 wd_748 (by decide) (Nat.le_of_ble_eq_true rfl) dX9_writeTo_22 ?_
      refine ro_bnh (fun h1 => ?_)
      exact ro_vret (pc := 25) rfl rfl dX9_writeTo_25
theorem c_Sta_writeTo (X : mu_X) (N : Nat) (h : mu_H) (o : Nat) (ho : isT o) (a2 : Int32) : ∀ r, f_Sta_writeTo N h o a2 = some r → mV X m_Sta_writeTo 1 [.ref (xa X o), .ref (xa X 21), .int a2] h r := fun r hr => mV_of (by decide) rfl (Nat.le_of_ble_eq_true rfl) rfl (cb_Sta_writeTo X N h o ho a2 r hr)
set_option maxRecDepth 20000 in
theorem cb_Pas_keep (X : mu_X) (N : Nat) (h : mu_H) (p1 : Nat) (hp1 : isT p1) : aG X m_Pas_keep (rmk 2) (fun _ => ax X) (fun _ _ _ => True) 0 0 (fun r : mu_H => qV X r) (f_Pas_keep N h p1) 0 [(0, .ref (xa X 20)), (1, .ref (xa X p1))] [] h := by
  unfold f_Pas_keep
  refine ro_aload_n (pc := 0) 1 dX6_keep_0 rfl rfl ?_
  refine ro_aload_n (pc := 1) 0 dX6_keep_1 rfl rfl ?_
  refine gf_X6_0 (pc := 2) wd_230 dX6_keep_2 ?_
  refine ro_aload_n (pc := 5) 0 dX6_keep_5 rfl rfl ?_
  refine gf_X6_2 (pc := 6) wd_232 dX6_keep_6 ?_
  refine ro_bipush (v := 34) (pc := 9) dX6_keep_9 (by decide) ?_
  refine ro_imul (pc := 11) dX6_keep_11 ?_
  refine ro_cvV (pc := 12) (kc := 1) (avs := [.ref (xa X 21), .int ((h.1 20 2) * 34)]) (st := []) ok_Sta_writeTo wd_744 (isT_0 hp1) (isT_c0 hp1) rfl ⟨by decide, by decide⟩ ⟨Nat.zero_le _, Nat.zero_le _⟩ (c_Sta_writeTo X N h p1 hp1 ((h.1 20 2) * 34)) rfl rfl (Nat.le_of_ble_eq_true rfl) dX6_keep_12 (fun h1 => ?_)
  refine ro_aload_n (pc := 15) 0 dX6_keep_15 rfl rfl ?_
  refine ro_aload_n (pc := 16) 0 dX6_keep_16 rfl rfl ?_
  refine gf_X6_2 (pc := 17) wd_232 dX6_keep_17 ?_
  refine ro_iconst (v := 1) (pc := 20) dX6_keep_20 (by decide) ?_
  refine ro_iadd (pc := 21) dX6_keep_21 ?_
  refine ro_bipush (v := 40) (pc := 22) dX6_keep_22 (by decide) ?_
  refine ro_irem (pc := 24) dX6_keep_24 (by decide) ?_
  refine pf_X6_2 (pc := 25) wd_232 dX6_keep_25 ?_
  refine ro_bnh (fun h2 => ?_)
  refine ro_aload_n (pc := 28) 0 dX6_keep_28 rfl rfl ?_
  refine gf_X6_1 (pc := 29) wd_231 dX6_keep_29 ?_
  refine ro_bipush (v := 40) (pc := 32) dX6_keep_32 (by decide) ?_
  refine ro_icmp_ge (tgt := 47) (pc := 34) dX6_keep_34 (by decide) (fun _ => ?_) (fun _ => ?_)
  · skip
    exact ro_vret (pc := 47) rfl rfl dX6_keep_47
  · skip
    refine ro_aload_n (pc := 37) 0 dX6_keep_37 rfl rfl ?_
    refine ro_dup (pc := 38) dX6_keep_38 rfl ?_
    refine gf_X6_1 (pc := 39) wd_231 dX6_keep_39 ?_
    refine ro_iconst (v := 1) (pc := 42) dX6_keep_42 (by decide) ?_
    refine ro_iadd (pc := 43) dX6_keep_43 ?_
    refine pf_X6_1 (pc := 44) wd_231 dX6_keep_44 ?_
    refine ro_bnh (fun h3 => ?_)
    exact ro_vret (pc := 47) rfl rfl dX6_keep_47
theorem c_Pas_keep (X : mu_X) (N : Nat) (h : mu_H) (p1 : Nat) (hp1 : isT p1) : ∀ r, f_Pas_keep N h p1 = some r → mV X m_Pas_keep 2 [.ref (xa X 20), .ref (xa X p1)] h r := fun r hr => mV_of (by decide) rfl (Nat.le_of_ble_eq_true rfl) rfl (cb_Pas_keep X N h p1 hp1 r hr)
set_option maxRecDepth 20000 in
theorem cb_Pas_size (X : mu_X) (N : Nat) (h : mu_H) : aG X m_Pas_size (rmk 1) (fun _ => ax X) (fun _ _ _ => True) 0 0 (fun r : Int32 => qI X r h) (f_Pas_size N h) 0 [(0, .ref (xa X 20))] [] h := by
  unfold f_Pas_size
  refine ro_aload_n (pc := 0) 0 dX6_size_0 rfl rfl ?_
  refine gf_X6_1 (pc := 1) wd_231 dX6_size_1 ?_
  exact ro_iret (pc := 4) rfl rfl dX6_size_4
theorem c_Pas_size (X : mu_X) (N : Nat) (h : mu_H) : ∀ r, f_Pas_size N h = some r → mI X m_Pas_size 1 [.ref (xa X 20)] h r h := fun r hr => mI_of (by decide) rfl (Nat.le_of_ble_eq_true rfl) rfl (cb_Pas_size X N h r hr)
set_option maxRecDepth 20000 in
theorem cb_Sta_addToBox (X : mu_X) (N : Nat) (h : mu_H) (o : Nat) (ho : isT o) (a1 : Int32) : aG X m_Sta_addToBox (rmk 1) (fun _ => ax X) (fun _ _ _ => True) 0 0 (fun r : mu_H => qV X r) (f_Sta_addToBox N h o a1) 0 [(0, .ref (xa X o)), (1, .int a1)] [] h := by
  unfold f_Sta_addToBox
  refine ro_aload_n (pc := 0) 0 dX9_addToBox_0 rfl rfl ?_
  refine gf_X9_0 ho (pc := 1) wd_217 dX9_addToBox_1 ?_
  refine ro_bipush (v := 30) (pc := 4) dX9_addToBox_4 (by decide) ?_
  refine ro_dup2_11 (pc := 6) dX9_addToBox_6 rfl rfl ?_
  refine ro_iald (pc := 7) (n := 34) (isT_1 ho) (isT_c1 ho) dX9_addToBox_7 ?_
  refine ro_iload_n (pc := 8) 1 dX9_addToBox_8 rfl rfl ?_
  refine ro_iadd (pc := 9) dX9_addToBox_9 ?_
  refine ro_iast (pc := 10) (n := 34) (isT_1 ho) (isT_c1 ho) dX9_addToBox_10 ?_
  refine ro_bnh (fun h1 => ?_)
  exact ro_vret (pc := 11) rfl rfl dX9_addToBox_11
theorem c_Sta_addToBox (X : mu_X) (N : Nat) (h : mu_H) (o : Nat) (ho : isT o) (a1 : Int32) : ∀ r, f_Sta_addToBox N h o a1 = some r → mV X m_Sta_addToBox 1 [.ref (xa X o), .int a1] h r := fun r hr => mV_of (by decide) rfl (Nat.le_of_ble_eq_true rfl) rfl (cb_Sta_addToBox X N h o ho a1 r hr)
set_option maxRecDepth 20000 in
theorem cb_Sta_sum (X : mu_X) (N : Nat) (h : mu_H) (o : Nat) (ho : isT o) (a1 : Int32) (a2 : Int32) : aG X m_Sta_sum (rmk 1) (fun _ => ax X) (fun _ _ _ => True) 0 0 (fun r : Int32 => qI X r h) (f_Sta_sum N h o a1 a2) 0 [(0, .ref (xa X o)), (1, .int a1), (2, .int a2)] [] h := by
  unfold f_Sta_sum
  refine ro_iconst (v := 0) (pc := 0) dX9_sum_0 (by decide) ?_
  refine ro_istore_n (pc := 1) (lv' := [(3, .int 0), (0, .ref (xa X o)), (1, .int a1), (2, .int a2)]) dX9_sum_1 rfl (by decide) rfl ?_
  refine ro_iconst (v := 0) (pc := 2) dX9_sum_2 (by decide) ?_
  refine ro_istore (pc := 3) (lv' := [(4, .int 0), (3, .int 0), (0, .ref (xa X o)), (1, .int a1), (2, .int a2)]) dX9_sum_3 (by decide) rfl ?_
  refine ro_lv [2, 3, 4, 1, 0] rfl ?_
  refine ro_lp (pc := 5) (lvs := fun (s : Int32 × Int32) => [(0, .ref (xa X o)), (1, .int a1), (2, .int a2), (3, .int s.1), (4, .int s.2)]) (hs := fun (s : Int32 × Int32) => h) (fun rec1 hrec1 s => ?_) N (0, 0)
  obtain ⟨x2, x3⟩ := s; unfold f_Sta_sum_L5; try dsimp only
  refine ro_iload (pc := 5) 4 dX9_sum_5 rfl ?_
  refine ro_iload_n (pc := 7) 2 dX9_sum_7 rfl rfl ?_
  refine ro_icmp_ge (tgt := 29) (pc := 8) dX9_sum_8 (by decide) (fun _ => ?_) (fun _ => ?_)
  · skip
    refine ro_iload_n (pc := 29) 3 dX9_sum_29 rfl rfl ?_
    exact ro_iret (pc := 30) rfl rfl dX9_sum_30
  · skip
    refine ro_iload_n (pc := 11) 3 dX9_sum_11 rfl rfl ?_
    refine ro_aload_n (pc := 12) 0 dX9_sum_12 rfl rfl ?_
    refine gf_X9_0 ho (pc := 13) wd_217 dX9_sum_13 ?_
    refine ro_iload_n (pc := 16) 1 dX9_sum_16 rfl rfl ?_
    refine ro_iload (pc := 17) 4 dX9_sum_17 rfl ?_
    refine ro_iadd (pc := 19) dX9_sum_19 ?_
    refine ro_iald (pc := 20) (n := 34) (isT_1 ho) (isT_c1 ho) dX9_sum_20 ?_
    refine ro_iadd (pc := 21) dX9_sum_21 ?_
    refine ro_bn (fun x4 => ?_)
    refine ro_istore_n (pc := 22) (lv' := [(3, .int x4), (0, .ref (xa X o)), (1, .int a1), (2, .int a2), (4, .int x3)]) dX9_sum_22 rfl (by decide) rfl ?_
    refine ro_iinc (pc := 23) (v := x3 + 1) (lv' := [(4, .int (x3 + 1)), (3, .int x4), (0, .ref (xa X o)), (1, .int a1), (2, .int a2)]) 4 dX9_sum_23 rfl rfl (by decide) rfl ?_
    refine ro_goto (tgt := 5) (pc := 26) dX9_sum_26 (by decide) ?_
    refine ro_lv [2, 3, 4, 1, 0] rfl ?_
    exact hrec1 (x4, x3 + 1)
theorem c_Sta_sum (X : mu_X) (N : Nat) (h : mu_H) (o : Nat) (ho : isT o) (a1 : Int32) (a2 : Int32) : ∀ r, f_Sta_sum N h o a1 a2 = some r → mI X m_Sta_sum 1 [.ref (xa X o), .int a1, .int a2] h r h := fun r hr => mI_of (by decide) rfl (Nat.le_of_ble_eq_true rfl) rfl (cb_Sta_sum X N h o ho a1 a2 r hr)
set_option maxRecDepth 20000 in
theorem cb_Sta_allDebt (X : mu_X) (N : Nat) (h : mu_H) (o : Nat) (ho : isT o) : aG X m_Sta_allDebt (rmk 2) (fun _ => ax X) (fun _ _ _ => True) 0 0 (fun r : Int32 => qI X r h) (f_Sta_allDebt N h o) 0 [(0, .ref (xa X o))] [] h := by
  unfold f_Sta_allDebt
  refine ro_aload_n (pc := 0) 0 dX9_allDebt_0 rfl rfl ?_
  refine ro_bipush (v := 24) (pc := 1) dX9_allDebt_1 (by decide) ?_
  refine ro_bipush (v := 6) (pc := 3) dX9_allDebt_3 (by decide) ?_
  refine ro_cvP (pc := 5) (kc := 1) (avs := [.int 24, .int 6]) (st := []) ok_Sta_sum wd_839 (isT_0 ho) (isT_c0 ho) rfl ⟨by decide, by decide⟩ ⟨Nat.zero_le _, Nat.zero_le _⟩ (c_Sta_sum X N h o ho 24 6) rfl rfl (Nat.le_of_ble_eq_true rfl) dX9_allDebt_5 (fun x1 => ?_)
  exact ro_iret (pc := 8) rfl rfl dX9_allDebt_8
theorem c_Sta_allDebt (X : mu_X) (N : Nat) (h : mu_H) (o : Nat) (ho : isT o) : ∀ r, f_Sta_allDebt N h o = some r → mI X m_Sta_allDebt 2 [.ref (xa X o)] h r h := fun r hr => mI_of (by decide) rfl (Nat.le_of_ble_eq_true rfl) rfl (cb_Sta_allDebt X N h o ho r hr)
set_option maxRecDepth 20000 in
theorem cb_Sta_allOwed (X : mu_X) (N : Nat) (h : mu_H) (o : Nat) (ho : isT o) : aG X m_Sta_allOwed (rmk 2) (fun _ => ax X) (fun _ _ _ => True) 0 0 (fun r : Int32 => qI X r h) (f_Sta_allOwed N h o) 0 [(0, .ref (xa X o))] [] h := by
  unfold f_Sta_allOwed
  refine ro_aload_n (pc := 0) 0 dX9_allOwed_0 rfl rfl ?_
  refine ro_bipush (v := 18) (pc := 1) dX9_allOwed_1 (by decide) ?_
  refine ro_bipush (v := 6) (pc := 3) dX9_allOwed_3 (by decide) ?_
  refine ro_cvP (pc := 5) (kc := 1) (avs := [.int 18, .int 6]) (st := []) ok_Sta_sum wd_839 (isT_0 ho) (isT_c0 ho) rfl ⟨by decide, by decide⟩ ⟨Nat.zero_le _, Nat.zero_le _⟩ (c_Sta_sum X N h o ho 18 6) rfl rfl (Nat.le_of_ble_eq_true rfl) dX9_allOwed_5 (fun x1 => ?_)
  exact ro_iret (pc := 8) rfl rfl dX9_allOwed_8
theorem c_Sta_allOwed (X : mu_X) (N : Nat) (h : mu_H) (o : Nat) (ho : isT o) : ∀ r, f_Sta_allOwed N h o = some r → mI X m_Sta_allOwed 2 [.ref (xa X o)] h r h := fun r hr => mI_of (by decide) rfl (Nat.le_of_ble_eq_true rfl) rfl (cb_Sta_allOwed X N h o ho r hr)
set_option maxRecDepth 20000 in
theorem cb_Sta_allWear (X : mu_X) (N : Nat) (h : mu_H) (o : Nat) (ho : isT o) : aG X m_Sta_allWear (rmk 2) (fun _ => ax X) (fun _ _ _ => True) 0 0 (fun r : Int32 => qI X r h) (f_Sta_allWear N h o) 0 [(0, .ref (xa X o))] [] h := by
  unfold f_Sta_allWear
  refine ro_aload_n (pc := 0) 0 dX9_allWear_0 rfl rfl ?_
  refine ro_iconst (v := 0) (pc := 1) dX9_allWear_1 (by decide) ?_
  refine ro_bipush (v := 9) (pc := 2) dX9_allWear_2 (by decide) ?_
  refine ro_cvP (pc := 4) (kc := 1) (avs := [.int 0, .int 9]) (st := []) ok_Sta_sum wd_839 (isT_0 ho) (isT_c0 ho) rfl ⟨by decide, by decide⟩ ⟨Nat.zero_le _, Nat.zero_le _⟩ (c_Sta_sum X N h o ho 0 9) rfl rfl (Nat.le_of_ble_eq_true rfl) dX9_allWear_4 (fun x1 => ?_)
  exact ro_iret (pc := 7) rfl rfl dX9_allWear_7
theorem c_Sta_allWear (X : mu_X) (N : Nat) (h : mu_H) (o : Nat) (ho : isT o) : ∀ r, f_Sta_allWear N h o = some r → mI X m_Sta_allWear 2 [.ref (xa X o)] h r h := fun r hr => mI_of (by decide) rfl (Nat.le_of_ble_eq_true rfl) rfl (cb_Sta_allWear X N h o ho r hr)
set_option maxRecDepth 20000 in
theorem cb_Sta_wear (X : mu_X) (N : Nat) (h : mu_H) (o : Nat) (ho : isT o) (a1 : Int32) : aG X m_Sta_wear (rmk 1) (fun _ => ax X) (fun _ _ _ => True) 0 0 (fun r : Int32 => qI X r h) (f_Sta_wear N h o a1) 0 [(0, .ref (xa X o)), (1, .int a1)] [] h := by
  unfold f_Sta_wear
  refine ro_aload_n (pc := 0) 0 dX9_wear_0 rfl rfl ?_
  refine gf_X9_0 ho (pc := 1) wd_217 dX9_wear_1 ?_
  refine ro_iconst (v := 0) (pc := 4) dX9_wear_4 (by decide) ?_
  refine ro_iload_n (pc := 5) 1 dX9_wear_5 rfl rfl ?_
  refine ro_iadd (pc := 6) dX9_wear_6 ?_
  refine ro_iald (pc := 7) (n := 34) (isT_1 ho) (isT_c1 ho) dX9_wear_7 ?_
  exact ro_iret (pc := 8) rfl rfl dX9_wear_8
theorem c_Sta_wear (X : mu_X) (N : Nat) (h : mu_H) (o : Nat) (ho : isT o) (a1 : Int32) : ∀ r, f_Sta_wear N h o a1 = some r → mI X m_Sta_wear 1 [.ref (xa X o), .int a1] h r h := fun r hr => mI_of (by decide) rfl (Nat.le_of_ble_eq_true rfl) rfl (cb_Sta_wear X N h o ho a1 r hr)
set_option maxRecDepth 20000 in
theorem cb_Sta_bad (X : mu_X) (N : Nat) (h : mu_H) (o : Nat) (ho : isT o) : aG X m_Sta_bad (rmk 2) (fun _ => ax X) (fun _ _ _ => True) 0 0 (fun r : Int32 => qI X r h) (f_Sta_bad N h o) 0 [(0, .ref (xa X o))] [] h := by
  unfold f_Sta_bad
  refine ro_iconst (v := 0) (pc := 0) dX9_bad_0 (by decide) ?_
  refine ro_istore_n (pc := 1) (lv' := [(1, .int 0), (0, .ref (xa X o))]) dX9_bad_1 rfl (by decide) rfl ?_
  refine ro_iconst (v := 0) (pc := 2) dX9_bad_2 (by decide) ?_
  refine ro_istore_n (pc := 3) (lv' := [(2, .int 0), (1, .int 0), (0, .ref (xa X o))]) dX9_bad_3 rfl (by decide) rfl ?_
  refine ro_lv [2, 1, 0] rfl ?_
  refine ro_lp (pc := 4) (lvs := fun (s : Int32 × Int32) => [(0, .ref (xa X o)), (1, .int s.1), (2, .int s.2)]) (hs := fun (s : Int32 × Int32) => h) (fun rec1 hrec1 s => ?_) N (0, 0)
  obtain ⟨x2, x3⟩ := s; unfold f_Sta_bad_L4; try dsimp only
  refine ro_iload_n (pc := 4) 2 dX9_bad_4 rfl rfl ?_
  refine ro_bipush (v := 9) (pc := 5) dX9_bad_5 (by decide) ?_
  refine ro_icmp_ge (tgt := 29) (pc := 7) dX9_bad_7 (by decide) (fun _ => ?_) (fun _ => ?_)
  · skip
    refine ro_iload_n (pc := 29) 1 dX9_bad_29 rfl rfl ?_
    exact ro_iret (pc := 30) rfl rfl dX9_bad_30
  · skip
    refine ro_aload_n (pc := 10) 0 dX9_bad_10 rfl rfl ?_
    refine ro_iload_n (pc := 11) 2 dX9_bad_11 rfl rfl ?_
    refine ro_cvP (pc := 12) (kc := 1) (avs := [.int x3]) (st := []) ok_Sta_wear wd_847 (isT_0 ho) (isT_c0 ho) rfl ⟨by decide, by decide⟩ ⟨Nat.zero_le _, Nat.zero_le _⟩ (c_Sta_wear X N h o ho x3) rfl rfl (Nat.le_of_ble_eq_true rfl) dX9_bad_12 (fun x4 => ?_)
    refine ro_bipush (v := 60) (pc := 15) dX9_bad_15 (by decide) ?_
    refine ro_jn (pcj := 23) (lvs := fun (s : Int32) => [(0, .ref (xa X o)), (1, .int s), (2, .int x3)]) (hs := fun (s : Int32) => h) (sts := fun (s : Int32) => []) (fun x6 => ?_) (fun j5 hj5 => ?_)
    · try dsimp only
      refine ro_iinc (pc := 23) (v := x3 + 1) (lv' := [(2, .int (x3 + 1)), (0, .ref (xa X o)), (1, .int x6)]) 2 dX9_bad_23 rfl rfl (by decide) rfl ?_
      refine ro_goto (tgt := 4) (pc := 26) dX9_bad_26 (by decide) ?_
      refine ro_lv [1, 2, 0] rfl ?_
      exact hrec1 (x6, x3 + 1)
    · skip
      refine ro_icmp_lt (tgt := 23) (pc := 17) dX9_bad_17 (by decide) (fun _ => ?_) (fun _ => ?_)
      · skip
        exact hj5 x2
      · skip
        refine ro_iinc (pc := 20) (v := x2 + 1) (lv' := [(1, .int (x2 + 1)), (0, .ref (xa X o)), (2, .int x3)]) 1 dX9_bad_20 rfl rfl (by decide) rfl ?_
        refine ro_lv [1, 0, 2] rfl ?_
        exact hj5 (x2 + 1)
theorem c_Sta_bad (X : mu_X) (N : Nat) (h : mu_H) (o : Nat) (ho : isT o) : ∀ r, f_Sta_bad N h o = some r → mI X m_Sta_bad 2 [.ref (xa X o)] h r h := fun r hr => mI_of (by decide) rfl (Nat.le_of_ble_eq_true rfl) rfl (cb_Sta_bad X N h o ho r hr)
set_option maxRecDepth 20000 in
theorem cb_Sta_begin (X : mu_X) (N : Nat) (h : mu_H) (o : Nat) (ho : isT o) (p1 : Nat) (hp1 : isP p1) : aG X m_Sta_begin (rmk 2) (fun _ => ax X) (fun _ _ _ => True) 0 0 (fun r : mu_H => qV X r) (f_Sta_begin N h o p1) 0 [(0, .ref (xa X o)), (1, .ref (xa X p1))] [] h := by
  unfold f_Sta_begin
  refine ro_aload_n (pc := 0) 0 dX9_begin_0 rfl rfl ?_
  refine gf_X9_0 ho (pc := 1) wd_217 dX9_begin_1 ?_
  refine ro_iconst (v := 0) (pc := 4) dX9_begin_4 (by decide) ?_
  refine ro_csV (pc := 5) (kc := 1) (avs := [.ref (xa X (o + 1)), .int 0]) (st := []) ok_Arr_fill wd_599 ⟨by decide, by decide⟩ ⟨Nat.zero_le _, Nat.zero_le _⟩ (c_Arr_fill X N h (o + 1) 34 (isT_1 ho) (isT_c1 ho) 0) rfl rfl (Nat.le_of_ble_eq_true rfl) dX9_begin_5 (fun h1 => ?_)
  refine ro_iconst (v := 0) (pc := 8) dX9_begin_8 (by decide) ?_
  refine ro_istore_n (pc := 9) (lv' := [(2, .int 0), (0, .ref (xa X o)), (1, .ref (xa X p1))]) dX9_begin_9 rfl (by decide) rfl ?_
  refine ro_jn (pcj := 53) (lvs := fun (s : mu_H) => [(0, .ref (xa X o)), (1, .ref (xa X p1))]) (hs := fun (s : mu_H) => s) (sts := fun (s : mu_H) => []) (fun h3 => ?_) (fun k2 hk2 => ?_)
  · try dsimp only
    refine ro_iconst (v := 0) (pc := 53) dX9_begin_53 (by decide) ?_
    refine ro_istore_n (pc := 54) (lv' := [(2, .int 0), (0, .ref (xa X o)), (1, .ref (xa X p1))]) dX9_begin_54 rfl (by decide) rfl ?_
    refine ro_lv [1, 2, 0] rfl ?_
    refine ro_lp (pc := 55) (lvs := fun (s : Int32 × mu_H) => [(0, .ref (xa X o)), (1, .ref (xa X p1)), (2, .int s.1)]) (hs := fun (s : Int32 × mu_H) => s.2) (fun rec4 hrec4 s => ?_) N (0, h3)
    obtain ⟨x5, h6⟩ := s; unfold f_Sta_begin_L55; try dsimp only
    refine ro_iload_n (pc := 55) 2 dX9_begin_55 rfl rfl ?_
    refine ro_aload_n (pc := 56) 1 dX9_begin_56 rfl rfl ?_
    refine ro_cvP (pc := 57) (kc := 1) (avs := []) (st := [.int x5]) ok_Par_houses wd_602 (isP_0 hp1) (isP_c0 hp1) rfl ⟨by decide, by decide⟩ ⟨Nat.zero_le _, Nat.zero_le _⟩ (c_Par_houses X N h6 p1 hp1) rfl rfl (Nat.le_of_ble_eq_true rfl) dX9_begin_57 (fun x7 => ?_)
    refine ro_icmp_ge (tgt := 83) (pc := 60) dX9_begin_60 (by decide) (fun _ => ?_) (fun _ => ?_)
    · skip
      exact ro_vret (pc := 83) rfl rfl dX9_begin_83
    · skip
      refine ro_aload_n (pc := 63) 0 dX9_begin_63 rfl rfl ?_
      refine gf_X9_0 ho (pc := 64) wd_217 dX9_begin_64 ?_
      refine ro_bipush (v := 18) (pc := 67) dX9_begin_67 (by decide) ?_
      refine ro_iload_n (pc := 69) 2 dX9_begin_69 rfl rfl ?_
      refine ro_iadd (pc := 70) dX9_begin_70 ?_
      refine ro_aload_n (pc := 71) 1 dX9_begin_71 rfl rfl ?_
      refine ro_iconst (v := 0) (pc := 72) dX9_begin_72 (by decide) ?_
      refine ro_cvP (pc := 73) (kc := 1) (avs := [.int 0]) (st := [.int (18 + x5), .ref (xa X (o + 1))]) ok_Par_ofRules wd_603 (isP_0 hp1) (isP_c0 hp1) rfl ⟨by decide, by decide⟩ ⟨Nat.zero_le _, Nat.zero_le _⟩ (c_Par_ofRules X N h6 p1 hp1 0) rfl rfl (Nat.le_of_ble_eq_true rfl) dX9_begin_73 (fun x8 => ?_)
      refine ro_iast (pc := 76) (n := 34) (isT_1 ho) (isT_c1 ho) dX9_begin_76 ?_
      refine ro_bnh (fun h9 => ?_)
      refine ro_iinc (pc := 77) (v := x5 + 1) (lv' := [(2, .int (x5 + 1)), (0, .ref (xa X o)), (1, .ref (xa X p1))]) 2 dX9_begin_77 rfl rfl (by decide) rfl ?_
      refine ro_goto (tgt := 55) (pc := 80) dX9_begin_80 (by decide) ?_
      refine ro_lv [1, 2, 0] rfl ?_
      exact hrec4 (x5 + 1, h9)
  · skip
    refine ro_lv [1, 2, 0] rfl ?_
    refine ro_lp (pc := 10) (lvs := fun (s : Int32 × mu_H) => [(0, .ref (xa X o)), (1, .ref (xa X p1)), (2, .int s.1)]) (hs := fun (s : Int32 × mu_H) => s.2) (fun rec10 hrec10 s => ?_) N (0, h1)
    obtain ⟨x11, h12⟩ := s; unfold f_Sta_begin_L10; try dsimp only
    refine ro_iload_n (pc := 10) 2 dX9_begin_10 rfl rfl ?_
    refine ro_aload_n (pc := 11) 1 dX9_begin_11 rfl rfl ?_
    refine ro_cvP (pc := 12) (kc := 1) (avs := []) (st := [.int x11]) ok_Par_stretches wd_600 (isP_0 hp1) (isP_c0 hp1) rfl ⟨by decide, by decide⟩ ⟨Nat.zero_le _, Nat.zero_le _⟩ (c_Par_stretches X N h12 p1 hp1) rfl rfl (Nat.le_of_ble_eq_true rfl) dX9_begin_12 (fun x13 => ?_)
    refine ro_icmp_ge (tgt := 53) (pc := 15) dX9_begin_15 (by decide) (fun _ => ?_) (fun _ => ?_)
    · skip
      refine ro_lv [0, 1] rfl ?_
      exact hk2 h12
    · skip
      refine ro_aload_n (pc := 18) 0 dX9_begin_18 rfl rfl ?_
      refine gf_X9_0 ho (pc := 19) wd_217 dX9_begin_19 ?_
      refine ro_iconst (v := 0) (pc := 22) dX9_begin_22 (by decide) ?_
      refine ro_iload_n (pc := 23) 2 dX9_begin_23 rfl rfl ?_
      refine ro_iadd (pc := 24) dX9_begin_24 ?_
      refine ro_aload_n (pc := 25) 1 dX9_begin_25 rfl rfl ?_
      refine ro_iload_n (pc := 26) 2 dX9_begin_26 rfl rfl ?_
      refine ro_iconst (v := 2) (pc := 27) dX9_begin_27 (by decide) ?_
      refine ro_cvP (pc := 28) (kc := 1) (avs := [.int x11, .int 2]) (st := [.int (0 + x11), .ref (xa X (o + 1))]) ok_Par_ofStretch wd_601 (isP_0 hp1) (isP_c0 hp1) rfl ⟨by decide, by decide⟩ ⟨Nat.zero_le _, Nat.zero_le _⟩ (c_Par_ofStretch X N h12 p1 hp1 x11 2) rfl rfl (Nat.le_of_ble_eq_true rfl) dX9_begin_28 (fun x14 => ?_)
      refine ro_iast (pc := 31) (n := 34) (isT_1 ho) (isT_c1 ho) dX9_begin_31 ?_
      refine ro_bnh (fun h15 => ?_)
      refine ro_aload_n (pc := 32) 0 dX9_begin_32 rfl rfl ?_
      refine gf_X9_0 ho (pc := 33) wd_217 dX9_begin_33 ?_
      refine ro_bipush (v := 9) (pc := 36) dX9_begin_36 (by decide) ?_
      refine ro_iload_n (pc := 38) 2 dX9_begin_38 rfl rfl ?_
      refine ro_iadd (pc := 39) dX9_begin_39 ?_
      refine ro_aload_n (pc := 40) 1 dX9_begin_40 rfl rfl ?_
      refine ro_iload_n (pc := 41) 2 dX9_begin_41 rfl rfl ?_
      refine ro_iconst (v := 3) (pc := 42) dX9_begin_42 (by decide) ?_
      refine ro_cvP (pc := 43) (kc := 1) (avs := [.int x11, .int 3]) (st := [.int (9 + x11), .ref (xa X (o + 1))]) ok_Par_ofStretch wd_601 (isP_0 hp1) (isP_c0 hp1) rfl ⟨by decide, by decide⟩ ⟨Nat.zero_le _, Nat.zero_le _⟩ (c_Par_ofStretch X N h15 p1 hp1 x11 3) rfl rfl (Nat.le_of_ble_eq_true rfl) dX9_begin_43 (fun x16 => ?_)
      refine ro_iast (pc := 46) (n := 34) (isT_1 ho) (isT_c1 ho) dX9_begin_46 ?_
      refine ro_bnh (fun h17 => ?_)
      refine ro_iinc (pc := 47) (v := x11 + 1) (lv' := [(2, .int (x11 + 1)), (0, .ref (xa X o)), (1, .ref (xa X p1))]) 2 dX9_begin_47 rfl rfl (by decide) rfl ?_
      refine ro_goto (tgt := 10) (pc := 50) dX9_begin_50 (by decide) ?_
      refine ro_lv [1, 2, 0] rfl ?_
      exact hrec10 (x11 + 1, h17)
theorem c_Sta_begin (X : mu_X) (N : Nat) (h : mu_H) (o : Nat) (ho : isT o) (p1 : Nat) (hp1 : isP p1) : ∀ r, f_Sta_begin N h o p1 = some r → mV X m_Sta_begin 2 [.ref (xa X o), .ref (xa X p1)] h r := fun r hr => mV_of (by decide) rfl (Nat.le_of_ble_eq_true rfl) rfl (cb_Sta_begin X N h o ho p1 hp1 r hr)
set_option maxRecDepth 20000 in
theorem cb_Sta_box (X : mu_X) (N : Nat) (h : mu_H) (o : Nat) (ho : isT o) : aG X m_Sta_box (rmk 1) (fun _ => ax X) (fun _ _ _ => True) 0 0 (fun r : Int32 => qI X r h) (f_Sta_box N h o) 0 [(0, .ref (xa X o))] [] h := by
  unfold f_Sta_box
  refine ro_aload_n (pc := 0) 0 dX9_box_0 rfl rfl ?_
  refine gf_X9_0 ho (pc := 1) wd_217 dX9_box_1 ?_
  refine ro_bipush (v := 30) (pc := 4) dX9_box_4 (by decide) ?_
  refine ro_iald (pc := 6) (n := 34) (isT_1 ho) (isT_c1 ho) dX9_box_6 ?_
  exact ro_iret (pc := 7) rfl rfl dX9_box_7
theorem c_Sta_box (X : mu_X) (N : Nat) (h : mu_H) (o : Nat) (ho : isT o) : ∀ r, f_Sta_box N h o = some r → mI X m_Sta_box 1 [.ref (xa X o)] h r h := fun r hr => mI_of (by decide) rfl (Nat.le_of_ble_eq_true rfl) rfl (cb_Sta_box X N h o ho r hr)
set_option maxRecDepth 20000 in
theorem cb_Sta_countWork (X : mu_X) (N : Nat) (h : mu_H) (o : Nat) (ho : isT o) : aG X m_Sta_countWork (rmk 1) (fun _ => ax X) (fun _ _ _ => True) 0 0 (fun r : mu_H => qV X r) (f_Sta_countWork N h o) 0 [(0, .ref (xa X o))] [] h := by
  unfold f_Sta_countWork
  refine ro_aload_n (pc := 0) 0 dX9_countWork_0 rfl rfl ?_
  refine gf_X9_0 ho (pc := 1) wd_217 dX9_countWork_1 ?_
  refine ro_bipush (v := 32) (pc := 4) dX9_countWork_4 (by decide) ?_
  refine ro_dup2_11 (pc := 6) dX9_countWork_6 rfl rfl ?_
  refine ro_iald (pc := 7) (n := 34) (isT_1 ho) (isT_c1 ho) dX9_countWork_7 ?_
  refine ro_iconst (v := 1) (pc := 8) dX9_countWork_8 (by decide) ?_
  refine ro_iadd (pc := 9) dX9_countWork_9 ?_
  refine ro_iast (pc := 10) (n := 34) (isT_1 ho) (isT_c1 ho) dX9_countWork_10 ?_
  refine ro_bnh (fun h1 => ?_)
  exact ro_vret (pc := 11) rfl rfl dX9_countWork_11
theorem c_Sta_countWork (X : mu_X) (N : Nat) (h : mu_H) (o : Nat) (ho : isT o) : ∀ r, f_Sta_countWork N h o = some r → mV X m_Sta_countWork 1 [.ref (xa X o)] h r := fun r hr => mV_of (by decide) rfl (Nat.le_of_ble_eq_true rfl) rfl (cb_Sta_countWork X N h o ho r hr)
set_option maxRecDepth 20000 in
theorem cb_Sta_debt (X : mu_X) (N : Nat) (h : mu_H) (o : Nat) (ho : isT o) (a1 : Int32) : aG X m_Sta_debt (rmk 1) (fun _ => ax X) (fun _ _ _ => True) 0 0 (fun r : Int32 => qI X r h) (f_Sta_debt N h o a1) 0 [(0, .ref (xa X o)), (1, .int a1)] [] h := by
  unfold f_Sta_debt
  refine ro_aload_n (pc := 0) 0 dX9_debt_0 rfl rfl ?_
  refine gf_X9_0 ho (pc := 1) wd_217 dX9_debt_1 ?_
  refine ro_bipush (v := 24) (pc := 4) dX9_debt_4 (by decide) ?_
  refine ro_iload_n (pc := 6) 1 dX9_debt_6 rfl rfl ?_
  refine ro_iadd (pc := 7) dX9_debt_7 ?_
  refine ro_iald (pc := 8) (n := 34) (isT_1 ho) (isT_c1 ho) dX9_debt_8 ?_
  exact ro_iret (pc := 9) rfl rfl dX9_debt_9
theorem c_Sta_debt (X : mu_X) (N : Nat) (h : mu_H) (o : Nat) (ho : isT o) (a1 : Int32) : ∀ r, f_Sta_debt N h o a1 = some r → mI X m_Sta_debt 1 [.ref (xa X o), .int a1] h r h := fun r hr => mI_of (by decide) rfl (Nat.le_of_ble_eq_true rfl) rfl (cb_Sta_debt X N h o ho a1 r hr)
set_option maxRecDepth 20000 in
theorem cb_Sta_isWinter (X : mu_X) (N : Nat) (h : mu_H) (o : Nat) (ho : isT o) : aG X m_Sta_isWinter (rmk 1) (fun _ => ax X) (fun _ _ _ => True) 0 0 (fun r : Int32 => qI X r h) (f_Sta_isWinter N h o) 0 [(0, .ref (xa X o))] [] h := by
  unfold f_Sta_isWinter
  refine ro_aload_n (pc := 0) 0 dX9_isWinter_0 rfl rfl ?_
  refine gf_X9_0 ho (pc := 1) wd_217 dX9_isWinter_1 ?_
  refine ro_bipush (v := 31) (pc := 4) dX9_isWinter_4 (by decide) ?_
  refine ro_iald (pc := 6) (n := 34) (isT_1 ho) (isT_c1 ho) dX9_isWinter_6 ?_
  refine ro_iconst (v := 4) (pc := 7) dX9_isWinter_7 (by decide) ?_
  refine ro_irem (pc := 8) dX9_isWinter_8 (by decide) ?_
  refine ro_iconst (v := 3) (pc := 9) dX9_isWinter_9 (by decide) ?_
  refine ro_icmp_ne (tgt := 17) (pc := 10) dX9_isWinter_10 (by decide) (fun _ => ?_) (fun _ => ?_)
  · skip
    refine ro_iconst (v := 0) (pc := 17) dX9_isWinter_17 (by decide) ?_
    exact ro_zret (pc := 18) rfl rfl rfl dX9_isWinter_18
  · skip
    refine ro_iconst (v := 1) (pc := 13) dX9_isWinter_13 (by decide) ?_
    refine ro_goto (tgt := 18) (pc := 14) dX9_isWinter_14 (by decide) ?_
    exact ro_zret (pc := 18) rfl rfl rfl dX9_isWinter_18
theorem c_Sta_isWinter (X : mu_X) (N : Nat) (h : mu_H) (o : Nat) (ho : isT o) : ∀ r, f_Sta_isWinter N h o = some r → mI X m_Sta_isWinter 1 [.ref (xa X o)] h r h := fun r hr => mI_of (by decide) rfl (Nat.le_of_ble_eq_true rfl) rfl (cb_Sta_isWinter X N h o ho r hr)
set_option maxRecDepth 20000 in
theorem cb_Sta_logLength (X : mu_X) (N : Nat) (h : mu_H) (o : Nat) (ho : isT o) : aG X m_Sta_logLength (rmk 1) (fun _ => ax X) (fun _ _ _ => True) 0 0 (fun r : Int32 => qI X r h) (f_Sta_logLength N h o) 0 [(0, .ref (xa X o))] [] h := by
  unfold f_Sta_logLength
  refine ro_aload_n (pc := 0) 0 dX9_logLength_0 rfl rfl ?_
  refine gf_X9_0 ho (pc := 1) wd_217 dX9_logLength_1 ?_
  refine ro_bipush (v := 33) (pc := 4) dX9_logLength_4 (by decide) ?_
  refine ro_iald (pc := 6) (n := 34) (isT_1 ho) (isT_c1 ho) dX9_logLength_6 ?_
  refine ro_bipush (v := 60) (pc := 7) dX9_logLength_7 (by decide) ?_
  refine ro_icmp_ge (tgt := 22) (pc := 9) dX9_logLength_9 (by decide) (fun _ => ?_) (fun _ => ?_)
  · skip
    refine ro_bipush (v := 60) (pc := 22) dX9_logLength_22 (by decide) ?_
    exact ro_iret (pc := 24) rfl rfl dX9_logLength_24
  · skip
    refine ro_aload_n (pc := 12) 0 dX9_logLength_12 rfl rfl ?_
    refine gf_X9_0 ho (pc := 13) wd_217 dX9_logLength_13 ?_
    refine ro_bipush (v := 33) (pc := 16) dX9_logLength_16 (by decide) ?_
    refine ro_iald (pc := 18) (n := 34) (isT_1 ho) (isT_c1 ho) dX9_logLength_18 ?_
    refine ro_goto (tgt := 24) (pc := 19) dX9_logLength_19 (by decide) ?_
    exact ro_iret (pc := 24) rfl rfl dX9_logLength_24
theorem c_Sta_logLength (X : mu_X) (N : Nat) (h : mu_H) (o : Nat) (ho : isT o) : ∀ r, f_Sta_logLength N h o = some r → mI X m_Sta_logLength 1 [.ref (xa X o)] h r h := fun r hr => mI_of (by decide) rfl (Nat.le_of_ble_eq_true rfl) rfl (cb_Sta_logLength X N h o ho r hr)
set_option maxRecDepth 20000 in
theorem cb_Sta_logged (X : mu_X) (N : Nat) (h : mu_H) (o : Nat) (ho : isT o) (a1 : Int32) (a2 : Int32) : aG X m_Sta_logged (rmk 2) (fun _ => ax X) (fun _ _ _ => True) 0 0 (fun r : Int32 => qI X r h) (f_Sta_logged N h o a1 a2) 0 [(0, .ref (xa X o)), (1, .int a1), (2, .int a2)] [] h := by
  unfold f_Sta_logged
  refine ro_iload_n (pc := 0) 1 dX9_logged_0 rfl rfl ?_
  refine ro_if_lt (tgt := 21) (pc := 1) dX9_logged_1 (by decide) (fun _ => ?_) (fun _ => ?_)
  · skip
    refine ro_iconst (v := (-1)) (pc := 21) dX9_logged_21 (by decide) ?_
    exact ro_iret (pc := 22) rfl rfl dX9_logged_22
  · skip
    refine ro_iload_n (pc := 4) 1 dX9_logged_4 rfl rfl ?_
    refine ro_aload_n (pc := 5) 0 dX9_logged_5 rfl rfl ?_
    refine ro_cvP (pc := 6) (kc := 1) (avs := []) (st := [.int a1]) ok_Sta_logLength wd_895 (isT_0 ho) (isT_c0 ho) rfl ⟨by decide, by decide⟩ ⟨Nat.zero_le _, Nat.zero_le _⟩ (c_Sta_logLength X N h o ho) rfl rfl (Nat.le_of_ble_eq_true rfl) dX9_logged_6 (fun x1 => ?_)
    refine ro_icmp_ge (tgt := 21) (pc := 9) dX9_logged_9 (by decide) (fun _ => ?_) (fun _ => ?_)
    · skip
      refine ro_iconst (v := (-1)) (pc := 21) dX9_logged_21 (by decide) ?_
      exact ro_iret (pc := 22) rfl rfl dX9_logged_22
    · skip
      refine ro_iload_n (pc := 12) 2 dX9_logged_12 rfl rfl ?_
      refine ro_if_lt (tgt := 21) (pc := 13) dX9_logged_13 (by decide) (fun _ => ?_) (fun _ => ?_)
      · skip
        refine ro_iconst (v := (-1)) (pc := 21) dX9_logged_21 (by decide) ?_
        exact ro_iret (pc := 22) rfl rfl dX9_logged_22
      · skip
        refine ro_iload_n (pc := 16) 2 dX9_logged_16 rfl rfl ?_
        refine ro_iconst (v := 3) (pc := 17) dX9_logged_17 (by decide) ?_
        refine ro_icmp_lt (tgt := 23) (pc := 18) dX9_logged_18 (by decide) (fun _ => ?_) (fun _ => ?_)
        · skip
          refine ro_aload_n (pc := 23) 0 dX9_logged_23 rfl rfl ?_
          refine gf_X9_1 ho (pc := 24) wd_218 dX9_logged_24 ?_
          refine ro_aload_n (pc := 27) 0 dX9_logged_27 rfl rfl ?_
          refine gf_X9_0 ho (pc := 28) wd_217 dX9_logged_28 ?_
          refine ro_bipush (v := 33) (pc := 31) dX9_logged_31 (by decide) ?_
          refine ro_iald (pc := 33) (n := 34) (isT_1 ho) (isT_c1 ho) dX9_logged_33 ?_
          refine ro_iconst (v := 1) (pc := 34) dX9_logged_34 (by decide) ?_
          refine ro_isub (pc := 35) dX9_logged_35 ?_
          refine ro_iload_n (pc := 36) 1 dX9_logged_36 rfl rfl ?_
          refine ro_isub (pc := 37) dX9_logged_37 ?_
          refine ro_bipush (v := 100) (pc := 38) dX9_logged_38 (by decide) ?_
          refine ro_irem (pc := 40) dX9_logged_40 (by decide) ?_
          refine ro_iconst (v := 3) (pc := 41) dX9_logged_41 (by decide) ?_
          refine ro_imul (pc := 42) dX9_logged_42 ?_
          refine ro_iload_n (pc := 43) 2 dX9_logged_43 rfl rfl ?_
          refine ro_iadd (pc := 44) dX9_logged_44 ?_
          refine ro_iald (pc := 45) (n := 300) (isT_2 ho) (isT_c2 ho) dX9_logged_45 ?_
          exact ro_iret (pc := 46) rfl rfl dX9_logged_46
        · skip
          refine ro_iconst (v := (-1)) (pc := 21) dX9_logged_21 (by decide) ?_
          exact ro_iret (pc := 22) rfl rfl dX9_logged_22
theorem c_Sta_logged (X : mu_X) (N : Nat) (h : mu_H) (o : Nat) (ho : isT o) (a1 : Int32) (a2 : Int32) : ∀ r, f_Sta_logged N h o a1 a2 = some r → mI X m_Sta_logged 2 [.ref (xa X o), .int a1, .int a2] h r h := fun r hr => mI_of (by decide) rfl (Nat.le_of_ble_eq_true rfl) rfl (cb_Sta_logged X N h o ho a1 a2 r hr)
set_option maxRecDepth 20000 in
theorem cb_Sta_nextSeason (X : mu_X) (N : Nat) (h : mu_H) (o : Nat) (ho : isT o) : aG X m_Sta_nextSeason (rmk 1) (fun _ => ax X) (fun _ _ _ => True) 0 0 (fun r : mu_H => qV X r) (f_Sta_nextSeason N h o) 0 [(0, .ref (xa X o))] [] h := by
  unfold f_Sta_nextSeason
  refine ro_aload_n (pc := 0) 0 dX9_nextSeason_0 rfl rfl ?_
  refine gf_X9_0 ho (pc := 1) wd_217 dX9_nextSeason_1 ?_
  refine ro_bipush (v := 31) (pc := 4) dX9_nextSeason_4 (by decide) ?_
  refine ro_dup2_11 (pc := 6) dX9_nextSeason_6 rfl rfl ?_
  refine ro_iald (pc := 7) (n := 34) (isT_1 ho) (isT_c1 ho) dX9_nextSeason_7 ?_
  refine ro_iconst (v := 1) (pc := 8) dX9_nextSeason_8 (by decide) ?_
  refine ro_iadd (pc := 9) dX9_nextSeason_9 ?_
  refine ro_iast (pc := 10) (n := 34) (isT_1 ho) (isT_c1 ho) dX9_nextSeason_10 ?_
  refine ro_bnh (fun h1 => ?_)
  exact ro_vret (pc := 11) rfl rfl dX9_nextSeason_11
theorem c_Sta_nextSeason (X : mu_X) (N : Nat) (h : mu_H) (o : Nat) (ho : isT o) : ∀ r, f_Sta_nextSeason N h o = some r → mV X m_Sta_nextSeason 1 [.ref (xa X o)] h r := fun r hr => mV_of (by decide) rfl (Nat.le_of_ble_eq_true rfl) rfl (cb_Sta_nextSeason X N h o ho r hr)
set_option maxRecDepth 20000 in
theorem cb_Sta_owed (X : mu_X) (N : Nat) (h : mu_H) (o : Nat) (ho : isT o) (a1 : Int32) : aG X m_Sta_owed (rmk 1) (fun _ => ax X) (fun _ _ _ => True) 0 0 (fun r : Int32 => qI X r h) (f_Sta_owed N h o a1) 0 [(0, .ref (xa X o)), (1, .int a1)] [] h := by
  unfold f_Sta_owed
  refine ro_aload_n (pc := 0) 0 dX9_owed_0 rfl rfl ?_
  refine gf_X9_0 ho (pc := 1) wd_217 dX9_owed_1 ?_
  refine ro_bipush (v := 18) (pc := 4) dX9_owed_4 (by decide) ?_
  refine ro_iload_n (pc := 6) 1 dX9_owed_6 rfl rfl ?_
  refine ro_iadd (pc := 7) dX9_owed_7 ?_
  refine ro_iald (pc := 8) (n := 34) (isT_1 ho) (isT_c1 ho) dX9_owed_8 ?_
  exact ro_iret (pc := 9) rfl rfl dX9_owed_9
theorem c_Sta_owed (X : mu_X) (N : Nat) (h : mu_H) (o : Nat) (ho : isT o) (a1 : Int32) : ∀ r, f_Sta_owed N h o a1 = some r → mI X m_Sta_owed 1 [.ref (xa X o), .int a1] h r h := fun r hr => mI_of (by decide) rfl (Nat.le_of_ble_eq_true rfl) rfl (cb_Sta_owed X N h o ho a1 r hr)
set_option maxRecDepth 20000 in
theorem cb_Sta_season (X : mu_X) (N : Nat) (h : mu_H) (o : Nat) (ho : isT o) : aG X m_Sta_season (rmk 1) (fun _ => ax X) (fun _ _ _ => True) 0 0 (fun r : Int32 => qI X r h) (f_Sta_season N h o) 0 [(0, .ref (xa X o))] [] h := by
  unfold f_Sta_season
  refine ro_aload_n (pc := 0) 0 dX9_season_0 rfl rfl ?_
  refine gf_X9_0 ho (pc := 1) wd_217 dX9_season_1 ?_
  refine ro_bipush (v := 31) (pc := 4) dX9_season_4 (by decide) ?_
  refine ro_iald (pc := 6) (n := 34) (isT_1 ho) (isT_c1 ho) dX9_season_6 ?_
  exact ro_iret (pc := 7) rfl rfl dX9_season_7
theorem c_Sta_season (X : mu_X) (N : Nat) (h : mu_H) (o : Nat) (ho : isT o) : ∀ r, f_Sta_season N h o = some r → mI X m_Sta_season 1 [.ref (xa X o)] h r h := fun r hr => mI_of (by decide) rfl (Nat.le_of_ble_eq_true rfl) rfl (cb_Sta_season X N h o ho r hr)
set_option maxRecDepth 20000 in
theorem cb_Sta_setDebt (X : mu_X) (N : Nat) (h : mu_H) (o : Nat) (ho : isT o) (a1 : Int32) (a2 : Int32) : aG X m_Sta_setDebt (rmk 1) (fun _ => ax X) (fun _ _ _ => True) 0 0 (fun r : mu_H => qV X r) (f_Sta_setDebt N h o a1 a2) 0 [(0, .ref (xa X o)), (1, .int a1), (2, .int a2)] [] h := by
  unfold f_Sta_setDebt
  refine ro_aload_n (pc := 0) 0 dX9_setDebt_0 rfl rfl ?_
  refine gf_X9_0 ho (pc := 1) wd_217 dX9_setDebt_1 ?_
  refine ro_bipush (v := 24) (pc := 4) dX9_setDebt_4 (by decide) ?_
  refine ro_iload_n (pc := 6) 1 dX9_setDebt_6 rfl rfl ?_
  refine ro_iadd (pc := 7) dX9_setDebt_7 ?_
  refine ro_iload_n (pc := 8) 2 dX9_setDebt_8 rfl rfl ?_
  refine ro_iast (pc := 9) (n := 34) (isT_1 ho) (isT_c1 ho) dX9_setDebt_9 ?_
  refine ro_bnh (fun h1 => ?_)
  exact ro_vret (pc := 10) rfl rfl dX9_setDebt_10
theorem c_Sta_setDebt (X : mu_X) (N : Nat) (h : mu_H) (o : Nat) (ho : isT o) (a1 : Int32) (a2 : Int32) : ∀ r, f_Sta_setDebt N h o a1 a2 = some r → mV X m_Sta_setDebt 1 [.ref (xa X o), .int a1, .int a2] h r := fun r hr => mV_of (by decide) rfl (Nat.le_of_ble_eq_true rfl) rfl (cb_Sta_setDebt X N h o ho a1 a2 r hr)
set_option maxRecDepth 20000 in
theorem cb_Sta_setOwed (X : mu_X) (N : Nat) (h : mu_H) (o : Nat) (ho : isT o) (a1 : Int32) (a2 : Int32) : aG X m_Sta_setOwed (rmk 1) (fun _ => ax X) (fun _ _ _ => True) 0 0 (fun r : mu_H => qV X r) (f_Sta_setOwed N h o a1 a2) 0 [(0, .ref (xa X o)), (1, .int a1), (2, .int a2)] [] h := by
  unfold f_Sta_setOwed
  refine ro_aload_n (pc := 0) 0 dX9_setOwed_0 rfl rfl ?_
  refine gf_X9_0 ho (pc := 1) wd_217 dX9_setOwed_1 ?_
  refine ro_bipush (v := 18) (pc := 4) dX9_setOwed_4 (by decide) ?_
  refine ro_iload_n (pc := 6) 1 dX9_setOwed_6 rfl rfl ?_
  refine ro_iadd (pc := 7) dX9_setOwed_7 ?_
  refine ro_iload_n (pc := 8) 2 dX9_setOwed_8 rfl rfl ?_
  refine ro_iast (pc := 9) (n := 34) (isT_1 ho) (isT_c1 ho) dX9_setOwed_9 ?_
  refine ro_bnh (fun h1 => ?_)
  exact ro_vret (pc := 10) rfl rfl dX9_setOwed_10
theorem c_Sta_setOwed (X : mu_X) (N : Nat) (h : mu_H) (o : Nat) (ho : isT o) (a1 : Int32) (a2 : Int32) : ∀ r, f_Sta_setOwed N h o a1 a2 = some r → mV X m_Sta_setOwed 1 [.ref (xa X o), .int a1, .int a2] h r := fun r hr => mV_of (by decide) rfl (Nat.le_of_ble_eq_true rfl) rfl (cb_Sta_setOwed X N h o ho a1 a2 r hr)
set_option maxRecDepth 20000 in
theorem cb_Sta_setWear (X : mu_X) (N : Nat) (h : mu_H) (o : Nat) (ho : isT o) (a1 : Int32) (a2 : Int32) : aG X m_Sta_setWear (rmk 1) (fun _ => ax X) (fun _ _ _ => True) 0 0 (fun r : mu_H => qV X r) (f_Sta_setWear N h o a1 a2) 0 [(0, .ref (xa X o)), (1, .int a1), (2, .int a2)] [] h := by
  unfold f_Sta_setWear
  refine ro_aload_n (pc := 0) 0 dX9_setWear_0 rfl rfl ?_
  refine gf_X9_0 ho (pc := 1) wd_217 dX9_setWear_1 ?_
  refine ro_iconst (v := 0) (pc := 4) dX9_setWear_4 (by decide) ?_
  refine ro_iload_n (pc := 5) 1 dX9_setWear_5 rfl rfl ?_
  refine ro_iadd (pc := 6) dX9_setWear_6 ?_
  refine ro_iload_n (pc := 7) 2 dX9_setWear_7 rfl rfl ?_
  refine ro_iast (pc := 8) (n := 34) (isT_1 ho) (isT_c1 ho) dX9_setWear_8 ?_
  refine ro_bnh (fun h1 => ?_)
  exact ro_vret (pc := 9) rfl rfl dX9_setWear_9
theorem c_Sta_setWear (X : mu_X) (N : Nat) (h : mu_H) (o : Nat) (ho : isT o) (a1 : Int32) (a2 : Int32) : ∀ r, f_Sta_setWear N h o a1 a2 = some r → mV X m_Sta_setWear 1 [.ref (xa X o), .int a1, .int a2] h r := fun r hr => mV_of (by decide) rfl (Nat.le_of_ble_eq_true rfl) rfl (cb_Sta_setWear X N h o ho a1 a2 r hr)
set_option maxRecDepth 20000 in
theorem cb_Sta_setWet (X : mu_X) (N : Nat) (h : mu_H) (o : Nat) (ho : isT o) (a1 : Int32) (a2 : Int32) : aG X m_Sta_setWet (rmk 1) (fun _ => ax X) (fun _ _ _ => True) 0 0 (fun r : mu_H => qV X r) (f_Sta_setWet N h o a1 a2) 0 [(0, .ref (xa X o)), (1, .int a1), (2, .int a2)] [] h := by
  unfold f_Sta_setWet
  refine ro_aload_n (pc := 0) 0 dX9_setWet_0 rfl rfl ?_
  refine gf_X9_0 ho (pc := 1) wd_217 dX9_setWet_1 ?_
  refine ro_bipush (v := 9) (pc := 4) dX9_setWet_4 (by decide) ?_
  refine ro_iload_n (pc := 6) 1 dX9_setWet_6 rfl rfl ?_
  refine ro_iadd (pc := 7) dX9_setWet_7 ?_
  refine ro_iload_n (pc := 8) 2 dX9_setWet_8 rfl rfl ?_
  refine ro_iast (pc := 9) (n := 34) (isT_1 ho) (isT_c1 ho) dX9_setWet_9 ?_
  refine ro_bnh (fun h1 => ?_)
  exact ro_vret (pc := 10) rfl rfl dX9_setWet_10
theorem c_Sta_setWet (X : mu_X) (N : Nat) (h : mu_H) (o : Nat) (ho : isT o) (a1 : Int32) (a2 : Int32) : ∀ r, f_Sta_setWet N h o a1 a2 = some r → mV X m_Sta_setWet 1 [.ref (xa X o), .int a1, .int a2] h r := fun r hr => mV_of (by decide) rfl (Nat.le_of_ble_eq_true rfl) rfl (cb_Sta_setWet X N h o ho a1 a2 r hr)
set_option maxRecDepth 20000 in
theorem cb_Sta_takeAll (X : mu_X) (N : Nat) (h : mu_H) (o : Nat) (ho : isT o) (p1 : Nat) (hp1 : isT p1) : aG X m_Sta_takeAll (rmk 1) (fun _ => ax X) (fun _ _ _ => True) 0 0 (fun r : mu_H => qV X r) (f_Sta_takeAll N h o p1) 0 [(0, .ref (xa X o)), (1, .ref (xa X p1))] [] h := by
  unfold f_Sta_takeAll
  refine ro_aload_n (pc := 0) 1 dX9_takeAll_0 rfl rfl ?_
  refine gf_X9_0 hp1 (pc := 1) wd_217 dX9_takeAll_1 ?_
  refine ro_iconst (v := 0) (pc := 4) dX9_takeAll_4 (by decide) ?_
  refine ro_aload_n (pc := 5) 0 dX9_takeAll_5 rfl rfl ?_
  refine gf_X9_0 ho (pc := 6) wd_217 dX9_takeAll_6 ?_
  refine ro_iconst (v := 0) (pc := 9) dX9_takeAll_9 (by decide) ?_
  refine ro_bipush (v := 34) (pc := 10) dX9_takeAll_10 (by decide) ?_
  refine ro_acopy (pc := 12) (st := []) (i0 := (p1 + 1)) (n0 := 34) (i1 := (o + 1)) (n1 := 34) (isT_1 hp1) (isT_c1 hp1) (isT_1 ho) (isT_c1 ho) wd_748 (by decide) (Nat.le_of_ble_eq_true rfl) dX9_takeAll_12 ?_
  refine ro_bnh (fun h1 => ?_)
  refine ro_aload_n (pc := 15) 1 dX9_takeAll_15 rfl rfl ?_
  refine gf_X9_1 hp1 (pc := 16) wd_218 dX9_takeAll_16 ?_
  refine ro_iconst (v := 0) (pc := 19) dX9_takeAll_19 (by decide) ?_
  refine ro_aload_n (pc := 20) 0 dX9_takeAll_20 rfl rfl ?_
  refine gf_X9_1 ho (pc := 21) wd_218 dX9_takeAll_21 ?_
  refine ro_iconst (v := 0) (pc := 24) dX9_takeAll_24 (by decide) ?_
  refine ro_aload_n (pc := 25) 0 dX9_takeAll_25 rfl rfl ?_
  refine gf_X9_1 ho (pc := 26) wd_218 dX9_takeAll_26 ?_
  refine ro_alen (pc := 29) (n := 300) (v := 300) (isT_2 ho) (fun f g => ⟨_, (isT_c2 ho) f g⟩) rfl rfl dX9_takeAll_29 ?_
  refine ro_acopy (pc := 30) (st := []) (i0 := (p1 + 2)) (n0 := 300) (i1 := (o + 2)) (n1 := 300) (isT_2 hp1) (isT_c2 hp1) (isT_2 ho) (isT_c2 ho) wd_748 (by decide) (Nat.le_of_ble_eq_true rfl) dX9_takeAll_30 ?_
  refine ro_bnh (fun h2 => ?_)
  exact ro_vret (pc := 33) rfl rfl dX9_takeAll_33
theorem c_Sta_takeAll (X : mu_X) (N : Nat) (h : mu_H) (o : Nat) (ho : isT o) (p1 : Nat) (hp1 : isT p1) : ∀ r, f_Sta_takeAll N h o p1 = some r → mV X m_Sta_takeAll 1 [.ref (xa X o), .ref (xa X p1)] h r := fun r hr => mV_of (by decide) rfl (Nat.le_of_ble_eq_true rfl) rfl (cb_Sta_takeAll X N h o ho p1 hp1 r hr)
set_option maxRecDepth 20000 in
theorem cb_Sta_wet (X : mu_X) (N : Nat) (h : mu_H) (o : Nat) (ho : isT o) (a1 : Int32) : aG X m_Sta_wet (rmk 1) (fun _ => ax X) (fun _ _ _ => True) 0 0 (fun r : Int32 => qI X r h) (f_Sta_wet N h o a1) 0 [(0, .ref (xa X o)), (1, .int a1)] [] h := by
  unfold f_Sta_wet
  refine ro_aload_n (pc := 0) 0 dX9_wet_0 rfl rfl ?_
  refine gf_X9_0 ho (pc := 1) wd_217 dX9_wet_1 ?_
  refine ro_bipush (v := 9) (pc := 4) dX9_wet_4 (by decide) ?_
  refine ro_iload_n (pc := 6) 1 dX9_wet_6 rfl rfl ?_
  refine ro_iadd (pc := 7) dX9_wet_7 ?_
  refine ro_iald (pc := 8) (n := 34) (isT_1 ho) (isT_c1 ho) dX9_wet_8 ?_
  exact ro_iret (pc := 9) rfl rfl dX9_wet_9
theorem c_Sta_wet (X : mu_X) (N : Nat) (h : mu_H) (o : Nat) (ho : isT o) (a1 : Int32) : ∀ r, f_Sta_wet N h o a1 = some r → mI X m_Sta_wet 1 [.ref (xa X o), .int a1] h r h := fun r hr => mI_of (by decide) rfl (Nat.le_of_ble_eq_true rfl) rfl (cb_Sta_wet X N h o ho a1 r hr)
set_option maxRecDepth 20000 in
theorem cb_Sta_worked (X : mu_X) (N : Nat) (h : mu_H) (o : Nat) (ho : isT o) : aG X m_Sta_worked (rmk 1) (fun _ => ax X) (fun _ _ _ => True) 0 0 (fun r : Int32 => qI X r h) (f_Sta_worked N h o) 0 [(0, .ref (xa X o))] [] h := by
  unfold f_Sta_worked
  refine ro_aload_n (pc := 0) 0 dX9_worked_0 rfl rfl ?_
  refine gf_X9_0 ho (pc := 1) wd_217 dX9_worked_1 ?_
  refine ro_bipush (v := 32) (pc := 4) dX9_worked_4 (by decide) ?_
  refine ro_iald (pc := 6) (n := 34) (isT_1 ho) (isT_c1 ho) dX9_worked_6 ?_
  exact ro_iret (pc := 7) rfl rfl dX9_worked_7
theorem c_Sta_worked (X : mu_X) (N : Nat) (h : mu_H) (o : Nat) (ho : isT o) : ∀ r, f_Sta_worked N h o = some r → mI X m_Sta_worked 1 [.ref (xa X o)] h r h := fun r hr => mI_of (by decide) rfl (Nat.le_of_ble_eq_true rfl) rfl (cb_Sta_worked X N h o ho r hr)
set_option maxRecDepth 20000 in
theorem cb_Sta_writeLog (X : mu_X) (N : Nat) (h : mu_H) (o : Nat) (ho : isT o) : aG X m_Sta_writeLog (rmk 3) (fun _ => ax X) (fun _ _ _ => True) 0 0 (fun r : mu_H => qV X r) (f_Sta_writeLog N h o) 0 [(0, .ref (xa X o))] [] h := by
  unfold f_Sta_writeLog
  refine ro_aload_n (pc := 0) 0 dX9_writeLog_0 rfl rfl ?_
  refine gf_X9_0 ho (pc := 1) wd_217 dX9_writeLog_1 ?_
  refine ro_bipush (v := 33) (pc := 4) dX9_writeLog_4 (by decide) ?_
  refine ro_iald (pc := 6) (n := 34) (isT_1 ho) (isT_c1 ho) dX9_writeLog_6 ?_
  refine ro_bipush (v := 100) (pc := 7) dX9_writeLog_7 (by decide) ?_
  refine ro_irem (pc := 9) dX9_writeLog_9 (by decide) ?_
  refine ro_iconst (v := 3) (pc := 10) dX9_writeLog_10 (by decide) ?_
  refine ro_imul (pc := 11) dX9_writeLog_11 ?_
  refine ro_bn (fun x1 => ?_)
  refine ro_istore_n (pc := 12) (lv' := [(1, .int x1), (0, .ref (xa X o))]) dX9_writeLog_12 rfl (by decide) rfl ?_
  refine ro_aload_n (pc := 13) 1 dX9_writeLog_13 rfl rfl ?_
  refine gf_X9_1 ho (pc := 14) wd_218 dX9_writeLog_14 ?_
  refine ro_iload_n (pc := 17) 0 dX9_writeLog_17 rfl rfl ?_
  refine ro_aload_n (pc := 18) 1 dX9_writeLog_18 rfl rfl ?_
  refine ro_cvP (pc := 19) (kc := 2) (avs := []) (st := [.int x1, .ref (xa X (o + 2))]) ok_Sta_allWear wd_835 (isT_0 ho) (isT_c0 ho) rfl ⟨by decide, by decide⟩ ⟨Nat.zero_le _, Nat.zero_le _⟩ (c_Sta_allWear X N h o ho) rfl rfl (Nat.le_of_ble_eq_true rfl) dX9_writeLog_19 (fun x2 => ?_)
  refine ro_iast (pc := 22) (n := 300) (isT_2 ho) (isT_c2 ho) dX9_writeLog_22 ?_
  refine ro_bnh (fun h3 => ?_)
  refine ro_aload_n (pc := 23) 1 dX9_writeLog_23 rfl rfl ?_
  refine gf_X9_1 ho (pc := 24) wd_218 dX9_writeLog_24 ?_
  refine ro_iload_n (pc := 27) 0 dX9_writeLog_27 rfl rfl ?_
  refine ro_iconst (v := 1) (pc := 28) dX9_writeLog_28 (by decide) ?_
  refine ro_iadd (pc := 29) dX9_writeLog_29 ?_
  refine ro_aload_n (pc := 30) 1 dX9_writeLog_30 rfl rfl ?_
  refine ro_cvP (pc := 31) (kc := 2) (avs := []) (st := [.int (x1 + 1), .ref (xa X (o + 2))]) ok_Sta_bad wd_843 (isT_0 ho) (isT_c0 ho) rfl ⟨by decide, by decide⟩ ⟨Nat.zero_le _, Nat.zero_le _⟩ (c_Sta_bad X N h3 o ho) rfl rfl (Nat.le_of_ble_eq_true rfl) dX9_writeLog_31 (fun x4 => ?_)
  refine ro_iast (pc := 34) (n := 300) (isT_2 ho) (isT_c2 ho) dX9_writeLog_34 ?_
  refine ro_bnh (fun h5 => ?_)
  refine ro_aload_n (pc := 35) 1 dX9_writeLog_35 rfl rfl ?_
  refine gf_X9_1 ho (pc := 36) wd_218 dX9_writeLog_36 ?_
  refine ro_iload_n (pc := 39) 0 dX9_writeLog_39 rfl rfl ?_
  refine ro_iconst (v := 2) (pc := 40) dX9_writeLog_40 (by decide) ?_
  refine ro_iadd (pc := 41) dX9_writeLog_41 ?_
  refine ro_aload_n (pc := 42) 1 dX9_writeLog_42 rfl rfl ?_
  refine gf_X9_0 ho (pc := 43) wd_217 dX9_writeLog_43 ?_
  refine ro_bipush (v := 32) (pc := 46) dX9_writeLog_46 (by decide) ?_
  refine ro_iald (pc := 48) (n := 34) (isT_1 ho) (isT_c1 ho) dX9_writeLog_48 ?_
  refine ro_iast (pc := 49) (n := 300) (isT_2 ho) (isT_c2 ho) dX9_writeLog_49 ?_
  refine ro_bnh (fun h6 => ?_)
  refine ro_aload_n (pc := 50) 1 dX9_writeLog_50 rfl rfl ?_
  refine gf_X9_0 ho (pc := 51) wd_217 dX9_writeLog_51 ?_
  refine ro_bipush (v := 33) (pc := 54) dX9_writeLog_54 (by decide) ?_
  refine ro_dup2_11 (pc := 56) dX9_writeLog_56 rfl rfl ?_
  refine ro_iald (pc := 57) (n := 34) (isT_1 ho) (isT_c1 ho) dX9_writeLog_57 ?_
  refine ro_iconst (v := 1) (pc := 58) dX9_writeLog_58 (by decide) ?_
  refine ro_iadd (pc := 59) dX9_writeLog_59 ?_
  refine ro_iast (pc := 60) (n := 34) (isT_1 ho) (isT_c1 ho) dX9_writeLog_60 ?_
  refine ro_bnh (fun h7 => ?_)
  refine ro_aload_n (pc := 61) 1 dX9_writeLog_61 rfl rfl ?_
  refine gf_X9_0 ho (pc := 62) wd_217 dX9_writeLog_62 ?_
  refine ro_bipush (v := 32) (pc := 65) dX9_writeLog_65 (by decide) ?_
  refine ro_iconst (v := 0) (pc := 67) dX9_writeLog_67 (by decide) ?_
  refine ro_iast (pc := 68) (n := 34) (isT_1 ho) (isT_c1 ho) dX9_writeLog_68 ?_
  refine ro_bnh (fun h8 => ?_)
  exact ro_vret (pc := 69) rfl rfl dX9_writeLog_69
theorem c_Sta_writeLog (X : mu_X) (N : Nat) (h : mu_H) (o : Nat) (ho : isT o) : ∀ r, f_Sta_writeLog N h o = some r → mV X m_Sta_writeLog 3 [.ref (xa X o)] h r := fun r hr => mV_of (by decide) rfl (Nat.le_of_ble_eq_true rfl) rfl (cb_Sta_writeLog X N h o ho r hr)
