def m_Owe_back : mu_M := (RX11, yX11_back, cX11_back, 1, some .int)
theorem ok_Owe_back : mOKv m_Owe_back 0 := ⟨wd_1210, wd_1211, wd_95, wd_1212, by decide, by decide, by decide +kernel⟩
def m_Owe_best : mu_M := (RX11, yX11_best, cX11_best, 2, some .int)
theorem ok_Owe_best : mOKv m_Owe_best 1 := ⟨wd_1103, wd_1104, wd_95, wd_1105, by decide, by decide, by decide +kernel⟩
def m_Owe_buys : mu_M := (RX11, yX11_buys, cX11_buys, 1, some .int)
theorem ok_Owe_buys : mOKv m_Owe_buys 0 := ⟨wd_972, wd_973, wd_95, wd_974, by decide, by decide, by decide +kernel⟩
def m_Owe_count : mu_M := (RX11, yX11_count, cX11_count, 2, some .int)
theorem ok_Owe_count : mOKv m_Owe_count 1 := ⟨wd_1214, wd_1215, wd_95, wd_1216, by decide, by decide, by decide +kernel⟩
def m_Owe_cut : mu_M := (RX11, yX11_cut, cX11_cut, 1, some .int)
theorem ok_Owe_cut : mOKv m_Owe_cut 0 := ⟨wd_1182, wd_1183, wd_95, wd_1184, by decide, by decide, by decide +kernel⟩
def m_Owe_refuse : mu_M := (RX11, yX11_refuse, cX11_refuse, 2, some .int)
theorem ok_Owe_refuse : mOKv m_Owe_refuse 1 := ⟨wd_734, wd_19, wd_95, wd_735, by decide, by decide, by decide +kernel⟩
def m_Owe_ditch : mu_M := (RX11, yX11_ditch, cX11_ditch, 2, some .int)
theorem ok_Owe_ditch : mOKv m_Owe_ditch 1 := ⟨wd_784, wd_785, wd_95, wd_786, by decide, by decide, by decide +kernel⟩
def m_Owe_does : mu_M := (RX11, yX11_does, cX11_does, 4, some .int)
theorem ok_Owe_does : mOKv m_Owe_does 3 := ⟨wd_684, wd_685, wd_95, wd_686, by decide, by decide, by decide +kernel⟩
def m_Owe_end : mu_M := (RX11, yX11_end, cX11_end, 2, some .boolean)
theorem ok_Owe_end : mOKv m_Owe_end 1 := ⟨wd_400, wd_401, wd_95, wd_402, by decide, by decide, by decide +kernel⟩
def m_Owe_ends : mu_M := (RX11, yX11_ends, cX11_ends, 1, some .int)
theorem ok_Owe_ends : mOKv m_Owe_ends 0 := ⟨wd_1173, wd_1174, wd_95, wd_1175, by decide, by decide, by decide +kernel⟩
def m_Owe_fails : mu_M := (RX11, yX11_fails, cX11_fails, 3, some .int)
theorem ok_Owe_fails : mOKv m_Owe_fails 1 := ⟨wd_1127, wd_1128, wd_95, wd_1129, by decide, by decide, by decide +kernel⟩
def m_Owe_fault : mu_M := (RX11, yX11_fault, cX11_fault, 2, some .int)
theorem ok_Owe_fault : mOKv m_Owe_fault 1 := ⟨wd_408, wd_409, wd_95, wd_410, by decide, by decide, by decide +kernel⟩
def m_Owe_feed : mu_M := (RX11, yX11_feed, cX11_feed, 7, some .int)
theorem ok_Owe_feed : mOKv m_Owe_feed 5 := ⟨wd_385, wd_386, wd_95, wd_387, by decide, by decide, by decide +kernel⟩
def m_Owe_feigned : mu_M := (RX11, yX11_feigned, cX11_feigned, 3, some .int)
theorem ok_Owe_feigned : mOKv m_Owe_feigned 2 := ⟨wd_1068, wd_1069, wd_95, wd_1070, by decide, by decide, by decide +kernel⟩
def m_Owe_isPlayed : mu_M := (RX11, yX11_isPlayed, cX11_isPlayed, 1, some .boolean)
theorem ok_Owe_isPlayed : mOKs m_Owe_isPlayed 1 := ⟨wd_994, wd_95, wd_995, by decide, by decide, by decide +kernel⟩
def m_Owe_game : mu_M := (RX11, yX11_game, cX11_game, 7, some .int)
theorem ok_Owe_game : mOKv m_Owe_game 6 := ⟨wd_984, wd_985, wd_95, wd_986, by decide, by decide, by decide +kernel⟩
def m_Owe_haul : mu_M := (RX11, yX11_haul, cX11_haul, 3, some .int)
theorem ok_Owe_haul : mOKv m_Owe_haul 2 := ⟨wd_668, wd_669, wd_95, wd_670, by decide, by decide, by decide +kernel⟩
def m_Owe_honest : mu_M := (RX11, yX11_honest, cX11_honest, 2, some .int)
theorem ok_Owe_honest : mOKv m_Owe_honest 1 := ⟨wd_1095, wd_1096, wd_95, wd_1097, by decide, by decide, by decide +kernel⟩
def m_Owe_image : mu_M := (RX11, yX11_image, cX11_image, 1, some .int)
theorem ok_Owe_image : mOKv m_Owe_image 0 := ⟨wd_1202, wd_1203, wd_95, wd_1204, by decide, by decide, by decide +kernel⟩
def m_Owe_law : mu_M := (RX11, yX11_law, cX11_law, 2, some .boolean)
theorem ok_Owe_law : mOKv m_Owe_law 1 := ⟨wd_660, wd_661, wd_95, wd_662, by decide, by decide, by decide +kernel⟩
def m_Owe_least : mu_M := (RX11, yX11_least, cX11_least, 5, some .int)
theorem ok_Owe_least : mOKv m_Owe_least 3 := ⟨wd_900, wd_901, wd_95, wd_902, by decide, by decide, by decide +kernel⟩
def m_Owe_log : mu_M := (RX11, yX11_log, cX11_log, 3, some .int)
theorem ok_Owe_log : mOKv m_Owe_log 2 := ⟨wd_888, wd_889, wd_95, wd_890, by decide, by decide, by decide +kernel⟩
def m_Owe_neighbours : mu_M := (RX11, yX11_neighbours, cX11_neighbours, 2, some .int)
theorem ok_Owe_neighbours : mOKv m_Owe_neighbours 1 := ⟨wd_1194, wd_1195, wd_95, wd_1196, by decide, by decide, by decide +kernel⟩
def m_Owe_odds : mu_M := (RX11, yX11_odds, cX11_odds, 4, some .int)
theorem ok_Owe_odds : mOKv m_Owe_odds 3 := ⟨wd_1143, wd_1144, wd_95, wd_1145, by decide, by decide, by decide +kernel⟩
def m_Owe_pay : mu_M := (RX11, yX11_pay, cX11_pay, 3, some .int)
theorem ok_Owe_pay : mOKv m_Owe_pay 2 := ⟨wd_774, wd_775, wd_95, wd_776, by decide, by decide, by decide +kernel⟩
def m_Owe_rests : mu_M := (RX11, yX11_rests, cX11_rests, 5, some .int)
theorem ok_Owe_rests : mOKv m_Owe_rests 4 := ⟨wd_1013, wd_1014, wd_95, wd_1015, by decide, by decide, by decide +kernel⟩
def m_Owe_road : mu_M := (RX11, yX11_road, cX11_road, 2, some .int)
theorem ok_Owe_road : mOKv m_Owe_road 1 := ⟨wd_1029, wd_1030, wd_95, wd_1031, by decide, by decide, by decide +kernel⟩
def m_Owe_rule : mu_M := (RX11, yX11_rule, cX11_rule, 2, some .int)
theorem ok_Owe_rule : mOKv m_Owe_rule 1 := ⟨wd_634, wd_635, wd_95, wd_636, by decide, by decide, by decide +kernel⟩
def m_Owe_seasons : mu_M := (RX11, yX11_seasons, cX11_seasons, 3, some .int)
theorem ok_Owe_seasons : mOKv m_Owe_seasons 1 := ⟨wd_802, wd_803, wd_95, wd_804, by decide, by decide, by decide +kernel⟩
def m_Owe_seen : mu_M := (RX11, yX11_seen, cX11_seen, 3, some .int)
theorem ok_Owe_seen : mOKv m_Owe_seen 2 := ⟨wd_1055, wd_1056, wd_95, wd_1057, by decide, by decide, by decide +kernel⟩
def m_Owe_settle : mu_M := (RX11, yX11_settle, cX11_settle, 1, none)
theorem ok_Owe_settle : mOKv m_Owe_settle 0 := ⟨wd_571, wd_15, wd_95, wd_572, by decide, by decide, by decide +kernel⟩
def m_Owe_shares : mu_M := (RX11, yX11_shares, cX11_shares, 4, some .int)
theorem ok_Owe_shares : mOKv m_Owe_shares 2 := ⟨wd_1040, wd_1041, wd_95, wd_1042, by decide, by decide, by decide +kernel⟩
def m_Owe_status : mu_M := (RX11, yX11_status, cX11_status, 2, some .int)
theorem ok_Owe_status : mOKv m_Owe_status 1 := ⟨wd_868, wd_869, wd_95, wd_870, by decide, by decide, by decide +kernel⟩
def m_Owe_stretch : mu_M := (RX11, yX11_stretch, cX11_stretch, 3, some .int)
theorem ok_Owe_stretch : mOKv m_Owe_stretch 2 := ⟨wd_643, wd_644, wd_95, wd_645, by decide, by decide, by decide +kernel⟩
def m_Owe_text : mu_M := (RX11, yX11_text, cX11_text, 2, some .int)
theorem ok_Owe_text : mOKv m_Owe_text 1 := ⟨wd_566, wd_567, wd_95, wd_568, by decide, by decide, by decide +kernel⟩
def m_Owe_toll : mu_M := (RX11, yX11_toll, cX11_toll, 3, some .int)
theorem ok_Owe_toll : mOKv m_Owe_toll 2 := ⟨wd_1157, wd_1158, wd_95, wd_1159, by decide, by decide, by decide +kernel⟩
def m_Owe_undo : mu_M := (RX11, yX11_undo, cX11_undo, 1, some .int)
theorem ok_Owe_undo : mOKv m_Owe_undo 0 := ⟨wd_872, wd_873, wd_95, wd_874, by decide, by decide, by decide +kernel⟩
def m_Owe_way : mu_M := (RX11, yX11_way, cX11_way, 4, some .int)
theorem ok_Owe_way : mOKv m_Owe_way 3 := ⟨wd_934, wd_935, wd_95, wd_936, by decide, by decide, by decide +kernel⟩
def m_Owe_whose : mu_M := (RX11, yX11_whose, cX11_whose, 3, some .int)
theorem ok_Owe_whose : mOKv m_Owe_whose 2 := ⟨wd_1119, wd_1120, wd_95, wd_1121, by decide, by decide, by decide +kernel⟩
def m_Owe_work : mu_M := (RX11, yX11_work, cX11_work, 4, some .int)
theorem ok_Owe_work : mOKv m_Owe_work 3 := ⟨wd_729, wd_730, wd_95, wd_731, by decide, by decide, by decide +kernel⟩
def m_Owe_worst : mu_M := (RX11, yX11_worst, cX11_worst, 1, some .int)
theorem ok_Owe_worst : mOKv m_Owe_worst 0 := ⟨wd_1165, wd_1166, wd_95, wd_1167, by decide, by decide, by decide +kernel⟩
def m_Owe_worth : mu_M := (RX11, yX11_worth, cX11_worth, 2, some .int)
theorem ok_Owe_worth : mOKv m_Owe_worth 1 := ⟨wd_960, wd_961, wd_95, wd_962, by decide, by decide, by decide +kernel⟩
def m_Owe_years : mu_M := (RX11, yX11_years, cX11_years, 5, some .int)
theorem ok_Owe_years : mOKv m_Owe_years 2 := ⟨wd_849, wd_850, wd_95, wd_851, by decide, by decide, by decide +kernel⟩
def f_Owe_back (N : Nat) (h : mu_H) : Option (Int32 × mu_H) :=
  if h.1 0 6 = 0 then
    some ((-1), h)
  else
    (f_Sta_takeAll N h 14 17).bind fun h1 =>
    (f_Pas_forget N h1).bind fun h2 =>
    (f_Sta_season N h2 14).bind fun x3 =>
    some (x3, h2)
def f_Owe_best (N : Nat) (h : mu_H) (a1 : Int32) : Option Int32 :=
  (f_Sig_canAsk N h a1).bind fun x1 =>
  if x1 = 0 then
    some (-1)
  else
    (f_Sig_fitting N h a1).bind fun x2 =>
    if x2 = 0 then
      some (-1)
    else
      (f_Sig_toWatch N h a1).bind fun x3 =>
      some x3
def f_Owe_buys (N : Nat) (h : mu_H) : Option (Int32 × mu_H) :=
  (f_Par_isNone N h 3).bind fun x1 =>
  if x1 = 0 then
    bi (f_Lab_buyers N h) fun x2 h3 =>
    some (x2, h3)
  else
    some ((-1), h)
def f_Owe_count (N : Nat) (h : mu_H) (a1 : Int32) : Option Int32 :=
  if a1 = 0 then
    (f_Par_stretches N h 3).bind fun x1 =>
    some x1
  else if a1 = 1 then
    (f_Par_houses N h 3).bind fun x2 =>
    some x2
  else if a1 = 2 then
    (f_Lab_laws N h).bind fun x3 =>
    some x3
  else if a1 = 3 then
    (f_Tap_size N h).bind fun x4 =>
    some x4
  else if a1 = 4 then
    (f_Lab_holding N h).bind fun x5 =>
    some x5
  else if a1 = 5 then
    (f_Sta_season N h 14).bind fun x6 =>
    some x6
  else if a1 = 6 then
    (f_Sta_box N h 14).bind fun x7 =>
    some x7
  else if a1 = 7 then
    (f_Sta_allWear N h 14).bind fun x8 =>
    some x8
  else if a1 = 8 then
    (f_Sta_allOwed N h 14).bind fun x9 =>
    some x9
  else if a1 = 9 then
    (f_Sta_allDebt N h 14).bind fun x10 =>
    some x10
  else if a1 = 10 then
    (f_Sta_worked N h 14).bind fun x11 =>
    some x11
  else if a1 = 11 then
    (f_Sig_size N h).bind fun x12 =>
    some x12
  else if a1 = 12 then
    (f_Sta_logLength N h 14).bind fun x13 =>
    some x13
  else if a1 = 13 then
    (f_Pas_size N h).bind fun x14 =>
    some x14
  else 
    some (-1000000)
def f_Owe_cut (N : Nat) (h : mu_H) : Option Int32 :=
  (f_Par_isNone N h 3).bind fun x1 =>
  if x1 = 0 then
    (f_Roa_bridges N h).bind fun x2 =>
    some x2
  else
    some (-1)
def f_Owe_refuse (N : Nat) (h : mu_H) (a1 : Int32) : Option (Int32 × mu_H) :=
  if a1 < 0 then
    some ((-1), h)
  else
    if 5 ≤ a1 then
      some ((-1), h)
    else
      gd (ix a1 5) <|
      gd (ix a1 5) <|
      bn (ui h 50 a1.toNatClampNeg ((h.1 50 a1.toNatClampNeg) + 1)) fun h1 =>
      some ((-1), h1)
def f_Owe_ditch (N : Nat) (h : mu_H) (a1 : Int32) : Option (Int32 × mu_H) :=
  (f_Par_hasStretch N h 3 a1).bind fun x1 =>
  if x1 = 0 then
    bi (f_Owe_refuse N h 0) fun x11 h12 =>
    some (x11, h12)
  else
    (f_Sta_box N h 14).bind fun x2 =>
    jn (fun (_ : Unit) =>
      bi (f_Owe_refuse N h 3) fun x4 h5 =>
      some (x4, h5)) fun j3 =>
    if x2 < 2 then
      j3 ()
    else
      (f_Sta_wet N h 14 a1).bind fun x7 =>
      if 1 ≤ x7 then
        (f_Pas_keep N h 14).bind fun h8 =>
        (f_Lab_drain N h8 a1).bind fun h9 =>
        (f_Sta_wet N h9 14 a1).bind fun x10 =>
        some (x10, h9)
      else
        j3 ()
def f_Owe_does (N : Nat) (h : mu_H) (a1 : Int32) (a2 : Int32) (a3 : Int32) : Option (Int32 × mu_H) :=
  (f_Par_hasHouse N h 3 a1).bind fun x1 =>
  if x1 = 0 then
    some ((-1), h)
  else
    (f_Par_hasStretch N h 3 a2).bind fun x2 =>
    if x2 = 0 then
      some ((-1), h)
    else
      if a3 < 0 then
        some ((-1), h)
      else
        if a3 < 4 then
          (f_Lab_canWork N h a1 a2 a3).bind fun x3 =>
          if x3 = 0 then
            some ((-1), h)
          else
            (f_Sta_wear N h 14 a2).bind fun x4 =>
            bi (f_Lab_effect N h a1 a2 a3 x4) fun x5 h6 =>
            some (x5, h6)
        else
          some ((-1), h)
def f_Owe_end (N : Nat) (h : mu_H) (a1 : Int32) : Option (Int32 × mu_H) :=
  bi (f_Tap_shorten N h a1) fun x1 h2 =>
  gd (zb x1) (some (x1, h2))
def f_Owe_ends (N : Nat) (h : mu_H) : Option Int32 :=
  (f_Par_isNone N h 3).bind fun x1 =>
  if x1 = 0 then
    (f_Roa_deadEnds N h).bind fun x2 =>
    some x2
  else
    some (-1)
def f_Owe_fails (N : Nat) (h : mu_H) (a1 : Int32) : Option Int32 :=
  (f_Par_isNone N h 3).bind fun x1 =>
  if x1 = 0 then
    if a1 < 0 then
      some (-1)
    else
      if a1 ≤ 1 then
        (f_Out_firstToFail N h).bind fun x2 =>
        if x2 = (-1) then
          some (-1)
        else
          if a1 = 0 then
            some x2
          else
            (f_Out_seasonsTillFull N h x2).bind fun x3 =>
            some x3
      else
        some (-1)
  else
    some (-1)
def f_Owe_fault (N : Nat) (h : mu_H) (a1 : Int32) : Option (Int32 × mu_H) :=
  if a1 = 0 then
    bi (f_PRd_firstWrong N h) fun x4 h5 =>
    some (x4, h5)
  else
    if a1 = 1 then
      bi (f_LRd_firstWrong N h) fun x1 h2 =>
      some (x1, h2)
    else
      some ((-2), h)
def f_Owe_feed (N : Nat) (h : mu_H) (a1 : Int32) (a2 : Int32) (a3 : Int32) (a4 : Int32) (a5 : Int32) : Option (Int32 × mu_H) :=
  (f_Tap_signsIn N h a1).bind fun x1 =>
  (f_Tap_signsIn N h a2).bind fun x2 =>
  (f_Tap_signsIn N h a3).bind fun x3 =>
  (f_Tap_signsIn N h a4).bind fun x4 =>
  (f_Tap_signsIn N h a5).bind fun x5 =>
  bn ((((x1 + x2) + x3) + x4) + x5) fun x6 =>
  (f_Tap_size N h).bind fun x7 =>
  if x7 + x6 ≤ 240 then
    (f_Tap_add N h a1).bind fun h8 =>
    (f_Tap_add N h8 a2).bind fun h9 =>
    (f_Tap_add N h9 a3).bind fun h10 =>
    (f_Tap_add N h10 a4).bind fun h11 =>
    (f_Tap_add N h11 a5).bind fun h12 =>
    (f_Tap_size N h12).bind fun x13 =>
    some (x13, h12)
  else
    some ((-1), h)
def f_Owe_feigned (N : Nat) (h : mu_H) (a1 : Int32) (a2 : Int32) : Option Int32 :=
  (f_Sig_canAsk N h a1).bind fun x1 =>
  if x1 = 0 then
    some (-1)
  else
    if (-1) ≤ a2 then
      if a2 = (-1) then
        (f_Sig_fitting N h a1).bind fun x3 =>
        some x3
      else
        (f_Sig_fittingAt N h a1 a2).bind fun x2 =>
        some x2
    else
      some (-1)
def f_Owe_isPlayed (N : Nat) (h : mu_H) (a0 : Int32) : Option Int32 :=
  if a0 = 0 then
    some 1
  else
    if a0 = 1 then
      some 1
    else
      if a0 = 3 then
        some 1
      else
        some 0
def f_Owe_game (N : Nat) (h : mu_H) (a1 : Int32) (a2 : Int32) (a3 : Int32) (a4 : Int32) (a5 : Int32) (a6 : Int32) : Option (Int32 × mu_H) :=
  (f_Lab_canMeet N h a1 a2 a3).bind fun x1 =>
  jn (fun (_ : Unit) =>
    some ((-1000000), h)) fun j2 =>
  if x1 = 0 then
    j2 ()
  else
    (f_Owe_isPlayed N h a4).bind fun x3 =>
    if x3 = 0 then
      j2 ()
    else
      (f_Owe_isPlayed N h a5).bind fun x4 =>
      if x4 = 0 then
        j2 ()
      else
        if a6 < 0 then
          j2 ()
        else
          if a6 ≤ 1 then
            (f_Out_setUpGame N h a1 a2 a3).bind fun h5 =>
            if a6 = 0 then
              (f_Out_ones N h5 a4 a5).bind fun x7 =>
              some (x7, h5)
            else
              (f_Out_others N h5 a4 a5).bind fun x6 =>
              some (x6, h5)
          else
            j2 ()
def f_Owe_haul (N : Nat) (h : mu_H) (a1 : Int32) (a2 : Int32) : Option Int32 :=
  (f_Par_hasHouse N h 3 a1).bind fun x1 =>
  if x1 = 0 then
    some (-1)
  else
    (f_Par_hasStretch N h 3 a2).bind fun x2 =>
    if x2 = 0 then
      some (-1)
    else
      (f_Par_stepsTo N h 3 a1 a2).bind fun x3 =>
      some x3
def f_Owe_honest (N : Nat) (h : mu_H) (a1 : Int32) : Option Int32 :=
  (f_Sig_canAsk N h a1).bind fun x1 =>
  if x1 = 0 then
    some (-1)
  else
    (f_Sig_fitting N h a1).bind fun x2 =>
    if x2 = 0 then
      some (-1)
    else
      (f_Sig_inNone N h a1).bind fun x3 =>
      some x3
def f_Owe_image (N : Nat) (h : mu_H) : Option (Int32 × mu_H) :=
  (f_Par_isNone N h 3).bind fun x1 =>
  if x1 = 0 then
    (f_Sta_takeAll N h 17 14).bind fun h2 =>
    bn (ui h2 0 6 1) fun h3 =>
    (f_Sta_season N h3 14).bind fun x4 =>
    some (x4, h3)
  else
    some ((-1), h)
def f_Owe_law (N : Nat) (h : mu_H) (a1 : Int32) : Option (Int32 × mu_H) :=
  bi (f_Lab_holdTo N h a1) fun x1 h2 =>
  gd (zb x1) (some (x1, h2))
def f_Owe_least (N : Nat) (h : mu_H) (a1 : Int32) (a2 : Int32) (a3 : Int32) : Option (Int32 × mu_H) :=
  (f_Par_hasStretch N h 3 a1).bind fun x1 =>
  if x1 = 0 then
    some ((-1), h)
  else
    if a2 < 0 then
      some ((-1), h)
    else
      if 99 < a2 then
        some ((-1), h)
      else
        if a3 < 0 then
          some ((-1), h)
        else
          if a3 ≤ 1 then
            bi (f_Out_fewestDays N h a1 a2) fun x2 h3 =>
            if x2 = (-1) then
              some ((-1), h3)
            else
              if a3 = 0 then
                some (x2 / 1000000, h3)
              else
                some (x2 - x2 / 1000000 * 1000000, h3)
          else
            some ((-1), h)
def f_Owe_log (N : Nat) (h : mu_H) (a1 : Int32) (a2 : Int32) : Option Int32 :=
  (f_Sta_logged N h 14 a1 a2).bind fun x1 =>
  some x1
def f_Owe_neighbours (N : Nat) (h : mu_H) (a1 : Int32) : Option Int32 :=
  (f_Par_hasStretch N h 3 a1).bind fun x1 =>
  if x1 = 0 then
    some (-1)
  else
    (f_Roa_touching N h a1).bind fun x2 =>
    some x2
def f_Owe_odds (N : Nat) (h : mu_H) (a1 : Int32) (a2 : Int32) (a3 : Int32) : Option (Int32 × mu_H) :=
  (f_Par_hasStretch N h 3 a1).bind fun x1 =>
  if x1 = 0 then
    some ((-1), h)
  else
    if a2 < 0 then
      some ((-1), h)
    else
      if 40 < a2 then
        some ((-1), h)
      else
        if a3 < 0 then
          some ((-1), h)
        else
          if a3 ≤ 100 then
            bi (f_Out_badParts N h a1 a2 a3) fun x2 h3 =>
            some (x2, h3)
          else
            some ((-1), h)
def f_Owe_pay (N : Nat) (h : mu_H) (a1 : Int32) (a2 : Int32) : Option (Int32 × mu_H) :=
  (f_Par_hasHouse N h 3 a1).bind fun x1 =>
  if x1 = 0 then
    bi (f_Owe_refuse N h 0) fun x16 h17 =>
    some (x16, h17)
  else
    jn (fun (_ : Unit) =>
      bi (f_Owe_refuse N h 1) fun x3 h4 =>
      some (x3, h4)) fun j2 =>
    if a2 < 1 then
      j2 ()
    else
      if a2 ≤ 9 then
        (f_Sta_owed N h 14 a1).bind fun x6 =>
        if a2 ≤ x6 then
          (f_Pas_keep N h 14).bind fun h7 =>
          (f_Sta_owed N h7 14 a1).bind fun x8 =>
          (f_Sta_setOwed N h7 14 a1 (x8 - a2)).bind fun h9 =>
          (f_Par_ofRules N h9 3 2).bind fun x10 =>
          (f_Sta_addToBox N h9 14 (a2 * x10)).bind fun h11 =>
          (f_Sta_box N h11 14).bind fun x12 =>
          some (x12, h11)
        else
          bi (f_Owe_refuse N h 2) fun x13 h14 =>
          some (x13, h14)
      else
        j2 ()
def f_Owe_rests (N : Nat) (h : mu_H) (a1 : Int32) (a2 : Int32) (a3 : Int32) (a4 : Int32) : Option (Int32 × mu_H) :=
  (f_Lab_canMeet N h a1 a2 a3).bind fun x1 =>
  if x1 = 0 then
    some ((-1), h)
  else
    if (-1) ≤ a4 then
      (f_Out_setUpGame N h a1 a2 a3).bind fun h2 =>
      (f_Out_restAt N h2 a4).bind fun x3 =>
      some (x3, h2)
    else
      some ((-1), h)
def f_Owe_road (N : Nat) (h : mu_H) (a1 : Int32) : Option (Int32 × mu_H) :=
  (f_Par_hasHouse N h 3 a1).bind fun x1 =>
  if x1 = 0 then
    some ((-1), h)
  else
    (f_Roa_spreadFrom N h 0).bind fun h2 =>
    (f_Roa_roadOf N h2 a1).bind fun x3 =>
    some (x3, h2)
def f_Owe_rule (N : Nat) (h : mu_H) (a1 : Int32) : Option Int32 :=
  (f_Par_isNone N h 3).bind fun x1 =>
  if x1 = 0 then
    if a1 < 0 then
      some (-1)
    else
      if a1 ≤ 2 then
        (f_Par_ofRules N h 3 a1).bind fun x2 =>
        some x2
      else
        some (-1)
  else
    some (-1)
def f_Owe_seasons_L56 (N : Nat) (a1 : Int32) (k7 : mu_H → Option (Int32 × mu_H)) (rec10 : (Int32 × mu_H) → Option (Int32 × mu_H)) : (Int32 × mu_H) → Option (Int32 × mu_H) := fun ((x11, h12) : Int32 × mu_H) =>
  if a1 ≤ x11 then
    k7 h12
  else
    (f_Pas_keep N h12 14).bind fun h13 =>
    (f_Lab_passSeason N h13).bind fun h14 =>
    rec10 (x11 + 1, h14)
def f_Owe_seasons (N : Nat) (h : mu_H) (a1 : Int32) : Option (Int32 × mu_H) :=
  (f_Par_isNone N h 3).bind fun x1 =>
  if x1 = 0 then
    jn (fun (_ : Unit) =>
      bi (f_Owe_refuse N h 1) fun x3 h4 =>
      some (x3, h4)) fun j2 =>
    if a1 < 1 then
      j2 ()
    else
      if a1 ≤ 60 then
        (f_Sta_season N h 14).bind fun x6 =>
        if x6 + a1 ≤ 3999 then
          jn (fun (h8 : mu_H) =>
            (f_Sta_season N h8 14).bind fun x9 =>
            some (x9, h8)) fun k7 =>
          lp (f_Owe_seasons_L56 N a1 k7) N (0, h)
        else
          bi (f_Owe_refuse N h 4) fun x15 h16 =>
          some (x15, h16)
      else
        j2 ()
  else
    bi (f_Owe_refuse N h 0) fun x18 h19 =>
    some (x18, h19)
def f_Owe_seen (N : Nat) (h : mu_H) (a1 : Int32) (a2 : Int32) : Option (Int32 × mu_H) :=
  bi (f_Sig_add N h a1 a2) fun x1 h2 =>
  some (x1, h2)
def f_Owe_settle (N : Nat) (h : mu_H) : Option mu_H :=
  bi (f_Tap_shorten N h 0) fun x1 h2 =>
  (f_Par_take N h2 3 7).bind fun h4 =>
  (f_Sta_begin N h4 14 3).bind fun h5 =>
  (f_Pas_forget N h5).bind fun h6 =>
  (f_Sig_forget N h6).bind fun h7 =>
  bn (ui h7 0 6 0) fun h8 =>
  some h8
def f_Owe_shares (N : Nat) (h : mu_H) (a1 : Int32) (a2 : Int32) : Option (Int32 × mu_H) :=
  (f_Par_hasHouse N h 3 a1).bind fun x1 =>
  if x1 = 0 then
    some ((-1), h)
  else
    if a2 < 0 then
      some ((-1), h)
    else
      if a2 ≤ 999 then
        (f_Roa_spreadFrom N h 0).bind fun h2 =>
        (f_Roa_useOfAll N h2).bind fun x3 =>
        if x3 = 0 then
          some (0, h2)
        else
          (f_Roa_useOf N h2 a1).bind fun x4 =>
          gd (decide (¬ x3 = 0)) <|
          some ((a2 * x4) / x3, h2)
      else
        some ((-1), h)
def f_Owe_status (N : Nat) (h : mu_H) (a1 : Int32) : Option Int32 :=
  if a1 < 0 then
    some (-1)
  else
    if 5 ≤ a1 then
      some (-1)
    else
      gd (ix a1 5) <|
      some (h.1 50 a1.toNatClampNeg)
def f_Owe_stretch (N : Nat) (h : mu_H) (a1 : Int32) (a2 : Int32) : Option Int32 :=
  (f_Par_hasStretch N h 3 a1).bind fun x1 =>
  if x1 = 0 then
    some (-1)
  else
    if a2 = 0 then
      (f_Par_ofStretch N h 3 a1 0).bind fun x2 =>
      some x2
    else if a2 = 1 then
      (f_Par_ofStretch N h 3 a1 1).bind fun x3 =>
      some x3
    else if a2 = 2 then
      (f_Sta_wear N h 14 a1).bind fun x4 =>
      some x4
    else if a2 = 3 then
      (f_Sta_wet N h 14 a1).bind fun x5 =>
      some x5
    else if a2 = 4 then
      (f_Par_ofStretch N h 3 a1 4).bind fun x6 =>
      some x6
    else 
      some (-1)
def f_Owe_text (N : Nat) (h : mu_H) (a1 : Int32) : Option (Int32 × mu_H) :=
  jn (fun (h2 : mu_H) =>
    if a1 = 1 then
      (f_Lab_laws N h2).bind fun x3 =>
      if 4 ≤ x3 then
        some ((-1), h2)
      else
        bi (f_LRd_firstWrong N h2) fun x4 h5 =>
        if x4 = (-1) then
          bi (f_Tap_shorten N h5 0) fun x7 h8 =>
          bi (f_Lab_addLaw N h8 11) fun x10 h11 =>
          some (x10, h11)
        else
          some ((-1), h5)
    else
      some ((-1), h2)) fun j1 =>
  if a1 = 0 then
    bi (f_PRd_firstWrong N h) fun x13 h14 =>
    if x13 = (-1) then
      (f_Owe_settle N h14).bind fun h16 =>
      (f_Par_stretches N h16 3).bind fun x17 =>
      some (x17, h16)
    else
      j1 h14
  else
    j1 h
def f_Owe_toll (N : Nat) (h : mu_H) (a1 : Int32) (a2 : Int32) : Option (Int32 × mu_H) :=
  (f_Par_isNone N h 3).bind fun x1 =>
  if x1 = 0 then
    if a1 < 1 then
      some ((-1), h)
    else
      if 9 < a1 then
        some ((-1), h)
      else
        if a2 < 0 then
          some ((-1), h)
        else
          if a2 ≤ 1 then
            (f_Roa_spreadFrom N h 0).bind fun h2 =>
            if a2 = 0 then
              (f_Roa_mostUsing N h2).bind fun x4 =>
              some (x4, h2)
            else
              (f_Roa_useOfAll N h2).bind fun x3 =>
              some (a1 * x3, h2)
          else
            some ((-1), h)
  else
    some ((-1), h)
def f_Owe_undo (N : Nat) (h : mu_H) : Option (Int32 × mu_H) :=
  bi (f_Pas_bringBack N h 14) fun x1 h2 =>
  if x1 = 0 then
    some ((-1), h2)
  else
    (f_Pas_size N h2).bind fun x4 =>
    some (x4, h2)
def f_Owe_way (N : Nat) (h : mu_H) (a1 : Int32) (a2 : Int32) (a3 : Int32) : Option (Int32 × mu_H) :=
  (f_Par_isNone N h 3).bind fun x1 =>
  if x1 = 0 then
    if a1 < 0 then
      some ((-1), h)
    else
      if 8 ≤ a1 then
        some ((-1), h)
      else
        if a2 < 0 then
          some ((-1), h)
        else
          if a2 < 8 then
            (f_Roa_spreadFrom N h a1).bind fun h2 =>
            (f_Roa_reaches N h2 a2).bind fun x3 =>
            if x3 = 0 then
              some ((-1), h2)
            else
              if a3 = 0 then
                (f_Roa_wearTo N h2 a2).bind fun x5 =>
                some (x5, h2)
              else
                if a3 = 1 then
                  (f_Roa_stretchesTo N h2 a2).bind fun x4 =>
                  some (x4, h2)
                else
                  some ((-1), h2)
          else
            some ((-1), h)
  else
    some ((-1), h)
def f_Owe_whose (N : Nat) (h : mu_H) (a1 : Int32) (a2 : Int32) : Option (Int32 × mu_H) :=
  (f_Par_hasStretch N h 3 a1).bind fun x1 =>
  if x1 = 0 then
    some ((-1), h)
  else
    if a2 < 0 then
      some ((-1), h)
    else
      if a2 ≤ 99 then
        bi (f_Lab_doersOf N h a1 a2) fun x2 h3 =>
        some (x2, h3)
      else
        some ((-1), h)
def f_Owe_work (N : Nat) (h : mu_H) (a1 : Int32) (a2 : Int32) (a3 : Int32) : Option (Int32 × mu_H) :=
  (f_Par_hasHouse N h 3 a1).bind fun x1 =>
  jn (fun (_ : Unit) =>
    bi (f_Owe_refuse N h 0) fun x3 h4 =>
    some (x3, h4)) fun j2 =>
  if x1 = 0 then
    j2 ()
  else
    (f_Par_hasStretch N h 3 a2).bind fun x6 =>
    if x6 = 0 then
      j2 ()
    else
      jn (fun (_ : Unit) =>
        bi (f_Owe_refuse N h 1) fun x8 h9 =>
        some (x8, h9)) fun j7 =>
      if a3 < 0 then
        j7 ()
      else
        if a3 < 4 then
          (f_Sta_owed N h 14 a1).bind fun x11 =>
          jn (fun (_ : Unit) =>
            bi (f_Owe_refuse N h 2) fun x13 h14 =>
            some (x13, h14)) fun j12 =>
          if x11 < 1 then
            j12 ()
          else
            (f_Lab_canWork N h a1 a2 a3).bind fun x16 =>
            if x16 = 0 then
              j12 ()
            else
              (f_Pas_keep N h 14).bind fun h17 =>
              (f_Lab_workDay N h17 a1 a2 a3).bind fun h18 =>
              (f_Sta_wear N h18 14 a2).bind fun x19 =>
              some (x19, h18)
        else
          j7 ()
def f_Owe_worst (N : Nat) (h : mu_H) : Option Int32 :=
  (f_Par_isNone N h 3).bind fun x1 =>
  if x1 = 0 then
    (f_Roa_mostWorn N h).bind fun x2 =>
    some x2
  else
    some (-1)
def f_Owe_worth (N : Nat) (h : mu_H) (a1 : Int32) : Option (Int32 × mu_H) :=
  (f_Par_hasHouse N h 3 a1).bind fun x1 =>
  if x1 = 0 then
    some ((-1), h)
  else
    bi (f_Lab_mostWorth N h a1) fun x2 h3 =>
    some (x2, h3)
def f_Owe_years_L49 (N : Nat) (a1 : Int32) (k4 : mu_H → Option (Int32 × mu_H)) (rec7 : (Int32 × mu_H) → Option (Int32 × mu_H)) : (Int32 × mu_H) → Option (Int32 × mu_H) := fun ((x8, h9) : Int32 × mu_H) =>
  if a1 ≤ x8 then
    k4 h9
  else
    (f_Pas_keep N h9 14).bind fun h10 =>
    (f_Lab_workDrawnDays N h10).bind fun h11 =>
    (f_Lab_passSeason N h11).bind fun h12 =>
    rec7 (x8 + 1, h12)
def f_Owe_years (N : Nat) (h : mu_H) (a1 : Int32) (a2 : Int64) : Option (Int32 × mu_H) :=
  (f_Par_isNone N h 3).bind fun x1 =>
  if x1 = 0 then
    if a1 < 1 then
      some ((-1), h)
    else
      if 60 < a1 then
        some ((-1), h)
      else
        (f_Sta_season N h 14).bind fun x2 =>
        if x2 + a1 ≤ 3999 then
          (f_Lab_sow N h a2).bind fun h3 =>
          jn (fun (h5 : mu_H) =>
            (f_Sta_season N h5 14).bind fun x6 =>
            some (x6, h5)) fun k4 =>
          lp (f_Owe_years_L49 N a1 k4) N (0, h3)
        else
          some ((-1), h)
  else
    some ((-1), h)
set_option maxRecDepth 20000 in
theorem cb_Owe_back (X : mu_X) (N : Nat) (h : mu_H) : aG X m_Owe_back (rmk 2) (fun _ => ax X) (fun _ _ _ => True) 0 0 (fun r : Int32 × mu_H => qI X r.1 r.2) (f_Owe_back N h) 0 [(0, .ref (xa X 0))] [] h := by
  unfold f_Owe_back
  refine ro_aload_n (pc := 0) 0 dX11_back_0 rfl rfl ?_
  refine gf_X11_6 (pc := 1) wd_350 dX11_back_1 ?_
  refine ro_if_ne (tgt := 9) (pc := 4) dX11_back_4 (by decide) (fun _ => ?_) (fun _ => ?_)
  · skip
    refine ro_aload_n (pc := 9) 0 dX11_back_9 rfl rfl ?_
    refine gf_X11_4 (pc := 10) wd_348 dX11_back_10 ?_
    refine ro_aload_n (pc := 13) 0 dX11_back_13 rfl rfl ?_
    refine gf_X11_5 (pc := 14) wd_349 dX11_back_14 ?_
    refine ro_cvV (pc := 17) (kc := 1) (avs := [.ref (xa X 17)]) (st := []) ok_Sta_takeAll wd_1205 cl_14 cv_14 rfl ⟨by decide, by decide⟩ ⟨Nat.zero_le _, Nat.zero_le _⟩ (c_Sta_takeAll X N h 14 isT_i14 17 isT_i17) rfl rfl (Nat.le_of_ble_eq_true rfl) dX11_back_17 (fun h1 => ?_)
    refine ro_aload_n (pc := 20) 0 dX11_back_20 rfl rfl ?_
    refine gf_X11_7 (pc := 21) wd_351 dX11_back_21 ?_
    refine ro_cvV (pc := 24) (kc := 1) (avs := []) (st := []) ok_Pas_forget wd_607 cl_20 cv_20 rfl ⟨by decide, by decide⟩ ⟨Nat.zero_le _, Nat.zero_le _⟩ (c_Pas_forget X N h1) rfl rfl (Nat.le_of_ble_eq_true rfl) dX11_back_24 (fun h2 => ?_)
    refine ro_aload_n (pc := 27) 0 dX11_back_27 rfl rfl ?_
    refine gf_X11_4 (pc := 28) wd_348 dX11_back_28 ?_
    refine ro_cvP (pc := 31) (kc := 1) (avs := []) (st := []) ok_Sta_season wd_805 cl_14 cv_14 rfl ⟨by decide, by decide⟩ ⟨Nat.zero_le _, Nat.zero_le _⟩ (c_Sta_season X N h2 14 isT_i14) rfl rfl (Nat.le_of_ble_eq_true rfl) dX11_back_31 (fun x3 => ?_)
    exact ro_iret (pc := 34) rfl rfl dX11_back_34
  · skip
    refine ro_iconst (v := (-1)) (pc := 7) dX11_back_7 (by decide) ?_
    exact ro_iret (pc := 8) rfl rfl dX11_back_8
theorem c_Owe_back (X : mu_X) (N : Nat) (h : mu_H) : ∀ r, f_Owe_back N h = some r → mI X m_Owe_back 2 [.ref (xa X 0)] h r.1 r.2 := fun r hr => mI_of (by decide) rfl (Nat.le_of_ble_eq_true rfl) rfl (cb_Owe_back X N h r hr)
set_option maxRecDepth 20000 in
theorem cb_Owe_best (X : mu_X) (N : Nat) (h : mu_H) (a1 : Int32) : aG X m_Owe_best (rmk 5) (fun _ => ax X) (fun _ _ _ => True) 0 0 (fun r : Int32 => qI X r h) (f_Owe_best N h a1) 0 [(0, .ref (xa X 0)), (1, .int a1)] [] h := by
  unfold f_Owe_best
  refine ro_aload_n (pc := 0) 0 dX11_best_0 rfl rfl ?_
  refine gf_X11_10 (pc := 1) wd_354 dX11_best_1 ?_
  refine ro_iload_n (pc := 4) 1 dX11_best_4 rfl rfl ?_
  refine ro_cvP (pc := 5) (kc := 2) (avs := [.int a1]) (st := []) ok_Sig_canAsk wd_1071 cl_39 cv_39 rfl ⟨by decide, by decide⟩ ⟨Nat.zero_le _, Nat.zero_le _⟩ (c_Sig_canAsk X N h a1) rfl rfl (Nat.le_of_ble_eq_true rfl) dX11_best_5 (fun x1 => ?_)
  refine ro_if_eq (tgt := 22) (pc := 8) dX11_best_8 (by decide) (fun _ => ?_) (fun _ => ?_)
  · skip
    refine ro_iconst (v := (-1)) (pc := 22) dX11_best_22 (by decide) ?_
    exact ro_iret (pc := 23) rfl rfl dX11_best_23
  · skip
    refine ro_aload_n (pc := 11) 0 dX11_best_11 rfl rfl ?_
    refine gf_X11_10 (pc := 12) wd_354 dX11_best_12 ?_
    refine ro_iload_n (pc := 15) 1 dX11_best_15 rfl rfl ?_
    refine ro_cvP (pc := 16) (kc := 3) (avs := [.int a1]) (st := []) ok_Sig_fitting wd_1076 cl_39 cv_39 rfl ⟨by decide, by decide⟩ ⟨Nat.zero_le _, Nat.zero_le _⟩ (c_Sig_fitting X N h a1) rfl rfl (Nat.le_of_ble_eq_true rfl) dX11_best_16 (fun x2 => ?_)
    refine ro_if_ne (tgt := 24) (pc := 19) dX11_best_19 (by decide) (fun _ => ?_) (fun _ => ?_)
    · skip
      refine ro_aload_n (pc := 24) 0 dX11_best_24 rfl rfl ?_
      refine gf_X11_10 (pc := 25) wd_354 dX11_best_25 ?_
      refine ro_iload_n (pc := 28) 1 dX11_best_28 rfl rfl ?_
      refine ro_cvP (pc := 29) (kc := 4) (avs := [.int a1]) (st := []) ok_Sig_toWatch wd_1106 cl_39 cv_39 rfl ⟨by decide, by decide⟩ ⟨Nat.zero_le _, Nat.zero_le _⟩ (c_Sig_toWatch X N h a1) rfl rfl (Nat.le_of_ble_eq_true rfl) dX11_best_29 (fun x3 => ?_)
      exact ro_iret (pc := 32) rfl rfl dX11_best_32
    · skip
      refine ro_iconst (v := (-1)) (pc := 22) dX11_best_22 (by decide) ?_
      exact ro_iret (pc := 23) rfl rfl dX11_best_23
theorem c_Owe_best (X : mu_X) (N : Nat) (h : mu_H) (a1 : Int32) : ∀ r, f_Owe_best N h a1 = some r → mI X m_Owe_best 5 [.ref (xa X 0), .int a1] h r h := fun r hr => mI_of (by decide) rfl (Nat.le_of_ble_eq_true rfl) rfl (cb_Owe_best X N h a1 r hr)
set_option maxRecDepth 20000 in
theorem cb_Owe_buys (X : mu_X) (N : Nat) (h : mu_H) : aG X m_Owe_buys (rmk 8) (fun _ => ax X) (fun _ _ _ => True) 0 0 (fun r : Int32 × mu_H => qI X r.1 r.2) (f_Owe_buys N h) 0 [(0, .ref (xa X 0))] [] h := by
  unfold f_Owe_buys
  refine ro_aload_n (pc := 0) 0 dX11_buys_0 rfl rfl ?_
  refine gf_X11_1 (pc := 1) wd_345 dX11_buys_1 ?_
  refine ro_cvP (pc := 4) (kc := 1) (avs := []) (st := []) ok_Par_isNone wd_637 cl_3 cv_3 rfl ⟨by decide, by decide⟩ ⟨Nat.zero_le _, Nat.zero_le _⟩ (c_Par_isNone X N h 3 isP_i3) rfl rfl (Nat.le_of_ble_eq_true rfl) dX11_buys_4 (fun x1 => ?_)
  refine ro_if_eq (tgt := 14) (pc := 7) dX11_buys_7 (by decide) (fun _ => ?_) (fun _ => ?_)
  · skip
    refine ro_aload_n (pc := 14) 0 dX11_buys_14 rfl rfl ?_
    refine gf_X11_8 (pc := 15) wd_352 dX11_buys_15 ?_
    refine ro_cvI (pc := 18) (kc := 7) (avs := []) (st := []) ok_Lab_buyers wd_975 cl_22 cv_22 rfl ⟨by decide, by decide⟩ ⟨Nat.zero_le _, Nat.zero_le _⟩ (c_Lab_buyers X N h) rfl rfl (Nat.le_of_ble_eq_true rfl) dX11_buys_18 (fun x2 h3 => ?_)
    exact ro_iret (pc := 21) rfl rfl dX11_buys_21
  · skip
    refine ro_iconst (v := (-1)) (pc := 10) dX11_buys_10 (by decide) ?_
    refine ro_goto (tgt := 21) (pc := 11) dX11_buys_11 (by decide) ?_
    exact ro_iret (pc := 21) rfl rfl dX11_buys_21
theorem c_Owe_buys (X : mu_X) (N : Nat) (h : mu_H) : ∀ r, f_Owe_buys N h = some r → mI X m_Owe_buys 8 [.ref (xa X 0)] h r.1 r.2 := fun r hr => mI_of (by decide) rfl (Nat.le_of_ble_eq_true rfl) rfl (cb_Owe_buys X N h r hr)
set_option maxRecDepth 20000 in
theorem cb_Owe_count (X : mu_X) (N : Nat) (h : mu_H) (a1 : Int32) : aG X m_Owe_count (rmk 3) (fun _ => ax X) (fun _ _ _ => True) 0 0 (fun r : Int32 => qI X r h) (f_Owe_count N h a1) 0 [(0, .ref (xa X 0)), (1, .int a1)] [] h := by
  unfold f_Owe_count
  refine ro_iload_n (pc := 0) 1 dX11_count_0 rfl rfl ?_
  refine ro_tsk (key := 0) (tgt := 72) (pc := 1) dX11_count_1 (by decide) (by decide) rfl (by decide) (fun _ => ?_) (fun c1_0 => ?_)
  · skip
    refine ro_aload_n (pc := 72) 0 dX11_count_72 rfl rfl ?_
    refine gf_X11_1 (pc := 73) wd_345 dX11_count_73 ?_
    refine ro_cvP (pc := 76) (kc := 1) (avs := []) (st := []) ok_Par_stretches wd_615 cl_3 cv_3 rfl ⟨by decide, by decide⟩ ⟨Nat.zero_le _, Nat.zero_le _⟩ (c_Par_stretches X N h 3 isP_i3) rfl rfl (Nat.le_of_ble_eq_true rfl) dX11_count_76 (fun x1 => ?_)
    exact ro_iret (pc := 79) rfl rfl dX11_count_79
  refine ro_tsk (key := 1) (tgt := 80) (pc := 1) dX11_count_1 (by decide) (by decide) rfl (by decide) (fun _ => ?_) (fun c1_1 => ?_)
  · skip
    refine ro_aload_n (pc := 80) 0 dX11_count_80 rfl rfl ?_
    refine gf_X11_1 (pc := 81) wd_345 dX11_count_81 ?_
    refine ro_cvP (pc := 84) (kc := 1) (avs := []) (st := []) ok_Par_houses wd_1217 cl_3 cv_3 rfl ⟨by decide, by decide⟩ ⟨Nat.zero_le _, Nat.zero_le _⟩ (c_Par_houses X N h 3 isP_i3) rfl rfl (Nat.le_of_ble_eq_true rfl) dX11_count_84 (fun x2 => ?_)
    exact ro_iret (pc := 87) rfl rfl dX11_count_87
  refine ro_tsk (key := 2) (tgt := 88) (pc := 1) dX11_count_1 (by decide) (by decide) rfl (by decide) (fun _ => ?_) (fun c1_2 => ?_)
  · skip
    refine ro_aload_n (pc := 88) 0 dX11_count_88 rfl rfl ?_
    refine gf_X11_8 (pc := 89) wd_352 dX11_count_89 ?_
    refine ro_cvP (pc := 92) (kc := 1) (avs := []) (st := []) ok_Lab_laws wd_616 cl_22 cv_22 rfl ⟨by decide, by decide⟩ ⟨Nat.zero_le _, Nat.zero_le _⟩ (c_Lab_laws X N h) rfl rfl (Nat.le_of_ble_eq_true rfl) dX11_count_92 (fun x3 => ?_)
    exact ro_iret (pc := 95) rfl rfl dX11_count_95
  refine ro_tsk (key := 3) (tgt := 96) (pc := 1) dX11_count_1 (by decide) (by decide) rfl (by decide) (fun _ => ?_) (fun c1_3 => ?_)
  · skip
    refine ro_aload_n (pc := 96) 0 dX11_count_96 rfl rfl ?_
    refine gf_X11_0 (pc := 97) wd_344 dX11_count_97 ?_
    refine ro_cvP (pc := 100) (kc := 1) (avs := []) (st := []) ok_Tap_size wd_391 cl_1 cv_1 rfl ⟨by decide, by decide⟩ ⟨Nat.zero_le _, Nat.zero_le _⟩ (c_Tap_size X N h) rfl rfl (Nat.le_of_ble_eq_true rfl) dX11_count_100 (fun x4 => ?_)
    exact ro_iret (pc := 103) rfl rfl dX11_count_103
  refine ro_tsk (key := 4) (tgt := 104) (pc := 1) dX11_count_1 (by decide) (by decide) rfl (by decide) (fun _ => ?_) (fun c1_4 => ?_)
  · skip
    refine ro_aload_n (pc := 104) 0 dX11_count_104 rfl rfl ?_
    refine gf_X11_8 (pc := 105) wd_352 dX11_count_105 ?_
    refine ro_cvP (pc := 108) (kc := 1) (avs := []) (st := []) ok_Lab_holding wd_1218 cl_22 cv_22 rfl ⟨by decide, by decide⟩ ⟨Nat.zero_le _, Nat.zero_le _⟩ (c_Lab_holding X N h) rfl rfl (Nat.le_of_ble_eq_true rfl) dX11_count_108 (fun x5 => ?_)
    exact ro_iret (pc := 111) rfl rfl dX11_count_111
  refine ro_tsk (key := 5) (tgt := 112) (pc := 1) dX11_count_1 (by decide) (by decide) rfl (by decide) (fun _ => ?_) (fun c1_5 => ?_)
  · skip
    refine ro_aload_n (pc := 112) 0 dX11_count_112 rfl rfl ?_
    refine gf_X11_4 (pc := 113) wd_348 dX11_count_113 ?_
    refine ro_cvP (pc := 116) (kc := 1) (avs := []) (st := []) ok_Sta_season wd_805 cl_14 cv_14 rfl ⟨by decide, by decide⟩ ⟨Nat.zero_le _, Nat.zero_le _⟩ (c_Sta_season X N h 14 isT_i14) rfl rfl (Nat.le_of_ble_eq_true rfl) dX11_count_116 (fun x6 => ?_)
    exact ro_iret (pc := 119) rfl rfl dX11_count_119
  refine ro_tsk (key := 6) (tgt := 120) (pc := 1) dX11_count_1 (by decide) (by decide) rfl (by decide) (fun _ => ?_) (fun c1_6 => ?_)
  · skip
    refine ro_aload_n (pc := 120) 0 dX11_count_120 rfl rfl ?_
    refine gf_X11_4 (pc := 121) wd_348 dX11_count_121 ?_
    refine ro_cvP (pc := 124) (kc := 1) (avs := []) (st := []) ok_Sta_box wd_779 cl_14 cv_14 rfl ⟨by decide, by decide⟩ ⟨Nat.zero_le _, Nat.zero_le _⟩ (c_Sta_box X N h 14 isT_i14) rfl rfl (Nat.le_of_ble_eq_true rfl) dX11_count_124 (fun x7 => ?_)
    exact ro_iret (pc := 127) rfl rfl dX11_count_127
  refine ro_tsk (key := 7) (tgt := 128) (pc := 1) dX11_count_1 (by decide) (by decide) rfl (by decide) (fun _ => ?_) (fun c1_7 => ?_)
  · skip
    refine ro_aload_n (pc := 128) 0 dX11_count_128 rfl rfl ?_
    refine gf_X11_4 (pc := 129) wd_348 dX11_count_129 ?_
    refine ro_cvP (pc := 132) (kc := 2) (avs := []) (st := []) ok_Sta_allWear wd_1222 cl_14 cv_14 rfl ⟨by decide, by decide⟩ ⟨Nat.zero_le _, Nat.zero_le _⟩ (c_Sta_allWear X N h 14 isT_i14) rfl rfl (Nat.le_of_ble_eq_true rfl) dX11_count_132 (fun x8 => ?_)
    exact ro_iret (pc := 135) rfl rfl dX11_count_135
  refine ro_tsk (key := 8) (tgt := 136) (pc := 1) dX11_count_1 (by decide) (by decide) rfl (by decide) (fun _ => ?_) (fun c1_8 => ?_)
  · skip
    refine ro_aload_n (pc := 136) 0 dX11_count_136 rfl rfl ?_
    refine gf_X11_4 (pc := 137) wd_348 dX11_count_137 ?_
    refine ro_cvP (pc := 140) (kc := 2) (avs := []) (st := []) ok_Sta_allOwed wd_1223 cl_14 cv_14 rfl ⟨by decide, by decide⟩ ⟨Nat.zero_le _, Nat.zero_le _⟩ (c_Sta_allOwed X N h 14 isT_i14) rfl rfl (Nat.le_of_ble_eq_true rfl) dX11_count_140 (fun x9 => ?_)
    exact ro_iret (pc := 143) rfl rfl dX11_count_143
  refine ro_tsk (key := 9) (tgt := 144) (pc := 1) dX11_count_1 (by decide) (by decide) rfl (by decide) (fun _ => ?_) (fun c1_9 => ?_)
  · skip
    refine ro_aload_n (pc := 144) 0 dX11_count_144 rfl rfl ?_
    refine gf_X11_4 (pc := 145) wd_348 dX11_count_145 ?_
    refine ro_cvP (pc := 148) (kc := 2) (avs := []) (st := []) ok_Sta_allDebt wd_1227 cl_14 cv_14 rfl ⟨by decide, by decide⟩ ⟨Nat.zero_le _, Nat.zero_le _⟩ (c_Sta_allDebt X N h 14 isT_i14) rfl rfl (Nat.le_of_ble_eq_true rfl) dX11_count_148 (fun x10 => ?_)
    exact ro_iret (pc := 151) rfl rfl dX11_count_151
  refine ro_tsk (key := 10) (tgt := 152) (pc := 1) dX11_count_1 (by decide) (by decide) rfl (by decide) (fun _ => ?_) (fun c1_10 => ?_)
  · skip
    refine ro_aload_n (pc := 152) 0 dX11_count_152 rfl rfl ?_
    refine gf_X11_4 (pc := 153) wd_348 dX11_count_153 ?_
    refine ro_cvP (pc := 156) (kc := 1) (avs := []) (st := []) ok_Sta_worked wd_1231 cl_14 cv_14 rfl ⟨by decide, by decide⟩ ⟨Nat.zero_le _, Nat.zero_le _⟩ (c_Sta_worked X N h 14 isT_i14) rfl rfl (Nat.le_of_ble_eq_true rfl) dX11_count_156 (fun x11 => ?_)
    exact ro_iret (pc := 159) rfl rfl dX11_count_159
  refine ro_tsk (key := 11) (tgt := 160) (pc := 1) dX11_count_1 (by decide) (by decide) rfl (by decide) (fun _ => ?_) (fun c1_11 => ?_)
  · skip
    refine ro_aload_n (pc := 160) 0 dX11_count_160 rfl rfl ?_
    refine gf_X11_10 (pc := 161) wd_354 dX11_count_161 ?_
    refine ro_cvP (pc := 164) (kc := 1) (avs := []) (st := []) ok_Sig_size wd_1235 cl_39 cv_39 rfl ⟨by decide, by decide⟩ ⟨Nat.zero_le _, Nat.zero_le _⟩ (c_Sig_size X N h) rfl rfl (Nat.le_of_ble_eq_true rfl) dX11_count_164 (fun x12 => ?_)
    exact ro_iret (pc := 167) rfl rfl dX11_count_167
  refine ro_tsk (key := 12) (tgt := 168) (pc := 1) dX11_count_1 (by decide) (by decide) rfl (by decide) (fun _ => ?_) (fun c1_12 => ?_)
  · skip
    refine ro_aload_n (pc := 168) 0 dX11_count_168 rfl rfl ?_
    refine gf_X11_4 (pc := 169) wd_348 dX11_count_169 ?_
    refine ro_cvP (pc := 172) (kc := 1) (avs := []) (st := []) ok_Sta_logLength wd_1239 cl_14 cv_14 rfl ⟨by decide, by decide⟩ ⟨Nat.zero_le _, Nat.zero_le _⟩ (c_Sta_logLength X N h 14 isT_i14) rfl rfl (Nat.le_of_ble_eq_true rfl) dX11_count_172 (fun x13 => ?_)
    exact ro_iret (pc := 175) rfl rfl dX11_count_175
  refine ro_tsk (key := 13) (tgt := 176) (pc := 1) dX11_count_1 (by decide) (by decide) rfl (by decide) (fun _ => ?_) (fun c1_13 => ?_)
  · skip
    refine ro_aload_n (pc := 176) 0 dX11_count_176 rfl rfl ?_
    refine gf_X11_7 (pc := 177) wd_351 dX11_count_177 ?_
    refine ro_cvP (pc := 180) (kc := 1) (avs := []) (st := []) ok_Pas_size wd_883 cl_20 cv_20 rfl ⟨by decide, by decide⟩ ⟨Nat.zero_le _, Nat.zero_le _⟩ (c_Pas_size X N h) rfl rfl (Nat.le_of_ble_eq_true rfl) dX11_count_180 (fun x14 => ?_)
    exact ro_iret (pc := 183) rfl rfl dX11_count_183
  refine ro_tsd (tgt := 184) (pc := 1) dX11_count_1 (by have a0 := ne_int c1_0 (k := 0) (z := 0) (by decide); have a1 := ne_int c1_1 (k := 1) (z := 1) (by decide); have a2 := ne_int c1_2 (k := 2) (z := 2) (by decide); have a3 := ne_int c1_3 (k := 3) (z := 3) (by decide); have a4 := ne_int c1_4 (k := 4) (z := 4) (by decide); have a5 := ne_int c1_5 (k := 5) (z := 5) (by decide); have a6 := ne_int c1_6 (k := 6) (z := 6) (by decide); have a7 := ne_int c1_7 (k := 7) (z := 7) (by decide); have a8 := ne_int c1_8 (k := 8) (z := 8) (by decide); have a9 := ne_int c1_9 (k := 9) (z := 9) (by decide); have a10 := ne_int c1_10 (k := 10) (z := 10) (by decide); have a11 := ne_int c1_11 (k := 11) (z := 11) (by decide); have a12 := ne_int c1_12 (k := 12) (z := 12) (by decide); have a13 := ne_int c1_13 (k := 13) (z := 13) (by decide); omega) (by decide) ?_
  refine ro_ldcw (v := (-1000000)) (pc := 184) dX11_count_184 wd_996 ?_
  exact ro_iret (pc := 187) rfl rfl dX11_count_187
theorem c_Owe_count (X : mu_X) (N : Nat) (h : mu_H) (a1 : Int32) : ∀ r, f_Owe_count N h a1 = some r → mI X m_Owe_count 3 [.ref (xa X 0), .int a1] h r h := fun r hr => mI_of (by decide) rfl (Nat.le_of_ble_eq_true rfl) rfl (cb_Owe_count X N h a1 r hr)
set_option maxRecDepth 20000 in
theorem cb_Owe_cut (X : mu_X) (N : Nat) (h : mu_H) : aG X m_Owe_cut (rmk 4) (fun _ => ax X) (fun _ _ _ => True) 0 0 (fun r : Int32 => qI X r h) (f_Owe_cut N h) 0 [(0, .ref (xa X 0))] [] h := by
  unfold f_Owe_cut
  refine ro_aload_n (pc := 0) 0 dX11_cut_0 rfl rfl ?_
  refine gf_X11_1 (pc := 1) wd_345 dX11_cut_1 ?_
  refine ro_cvP (pc := 4) (kc := 1) (avs := []) (st := []) ok_Par_isNone wd_637 cl_3 cv_3 rfl ⟨by decide, by decide⟩ ⟨Nat.zero_le _, Nat.zero_le _⟩ (c_Par_isNone X N h 3 isP_i3) rfl rfl (Nat.le_of_ble_eq_true rfl) dX11_cut_4 (fun x1 => ?_)
  refine ro_if_eq (tgt := 14) (pc := 7) dX11_cut_7 (by decide) (fun _ => ?_) (fun _ => ?_)
  · skip
    refine ro_aload_n (pc := 14) 0 dX11_cut_14 rfl rfl ?_
    refine gf_X11_9 (pc := 15) wd_353 dX11_cut_15 ?_
    refine ro_cvP (pc := 18) (kc := 3) (avs := []) (st := []) ok_Roa_bridges wd_1185 cl_37 cv_37 rfl ⟨by decide, by decide⟩ ⟨Nat.zero_le _, Nat.zero_le _⟩ (c_Roa_bridges X N h) rfl rfl (Nat.le_of_ble_eq_true rfl) dX11_cut_18 (fun x2 => ?_)
    exact ro_iret (pc := 21) rfl rfl dX11_cut_21
  · skip
    refine ro_iconst (v := (-1)) (pc := 10) dX11_cut_10 (by decide) ?_
    refine ro_goto (tgt := 21) (pc := 11) dX11_cut_11 (by decide) ?_
    exact ro_iret (pc := 21) rfl rfl dX11_cut_21
theorem c_Owe_cut (X : mu_X) (N : Nat) (h : mu_H) : ∀ r, f_Owe_cut N h = some r → mI X m_Owe_cut 4 [.ref (xa X 0)] h r h := fun r hr => mI_of (by decide) rfl (Nat.le_of_ble_eq_true rfl) rfl (cb_Owe_cut X N h r hr)
set_option maxRecDepth 20000 in
theorem cb_Owe_refuse (X : mu_X) (N : Nat) (h : mu_H) (a1 : Int32) : aG X m_Owe_refuse (rmk 1) (fun _ => ax X) (fun _ _ _ => True) 0 0 (fun r : Int32 × mu_H => qI X r.1 r.2) (f_Owe_refuse N h a1) 0 [(0, .ref (xa X 0)), (1, .int a1)] [] h := by
  unfold f_Owe_refuse
  refine ro_iload_n (pc := 0) 1 dX11_refuse_0 rfl rfl ?_
  refine ro_if_lt (tgt := 19) (pc := 1) dX11_refuse_1 (by decide) (fun _ => ?_) (fun _ => ?_)
  · skip
    refine ro_iconst (v := (-1)) (pc := 19) dX11_refuse_19 (by decide) ?_
    exact ro_iret (pc := 20) rfl rfl dX11_refuse_20
  · skip
    refine ro_iload_n (pc := 4) 1 dX11_refuse_4 rfl rfl ?_
    refine ro_iconst (v := 5) (pc := 5) dX11_refuse_5 (by decide) ?_
    refine ro_icmp_ge (tgt := 19) (pc := 6) dX11_refuse_6 (by decide) (fun _ => ?_) (fun _ => ?_)
    · skip
      refine ro_iconst (v := (-1)) (pc := 19) dX11_refuse_19 (by decide) ?_
      exact ro_iret (pc := 20) rfl rfl dX11_refuse_20
    · skip
      refine ro_aload_n (pc := 9) 0 dX11_refuse_9 rfl rfl ?_
      refine gf_X11_12 (pc := 10) wd_356 dX11_refuse_10 ?_
      refine ro_iload_n (pc := 13) 1 dX11_refuse_13 rfl rfl ?_
      refine ro_dup2_11 (pc := 14) dX11_refuse_14 rfl rfl ?_
      refine ro_iald (pc := 15) (n := 5) cl_50 cv_50 dX11_refuse_15 ?_
      refine ro_iconst (v := 1) (pc := 16) dX11_refuse_16 (by decide) ?_
      refine ro_iadd (pc := 17) dX11_refuse_17 ?_
      refine ro_iast (pc := 18) (n := 5) cl_50 cv_50 dX11_refuse_18 ?_
      refine ro_bnh (fun h1 => ?_)
      refine ro_iconst (v := (-1)) (pc := 19) dX11_refuse_19 (by decide) ?_
      exact ro_iret (pc := 20) rfl rfl dX11_refuse_20
theorem c_Owe_refuse (X : mu_X) (N : Nat) (h : mu_H) (a1 : Int32) : ∀ r, f_Owe_refuse N h a1 = some r → mI X m_Owe_refuse 1 [.ref (xa X 0), .int a1] h r.1 r.2 := fun r hr => mI_of (by decide) rfl (Nat.le_of_ble_eq_true rfl) rfl (cb_Owe_refuse X N h a1 r hr)
set_option maxRecDepth 20000 in
theorem cb_Owe_ditch (X : mu_X) (N : Nat) (h : mu_H) (a1 : Int32) : aG X m_Owe_ditch (rmk 4) (fun _ => ax X) (fun _ _ _ => True) 0 0 (fun r : Int32 × mu_H => qI X r.1 r.2) (f_Owe_ditch N h a1) 0 [(0, .ref (xa X 0)), (1, .int a1)] [] h := by
  unfold f_Owe_ditch
  refine ro_aload_n (pc := 0) 0 dX11_ditch_0 rfl rfl ?_
  refine gf_X11_1 (pc := 1) wd_345 dX11_ditch_1 ?_
  refine ro_iload_n (pc := 4) 1 dX11_ditch_4 rfl rfl ?_
  refine ro_cvP (pc := 5) (kc := 1) (avs := [.int a1]) (st := []) ok_Par_hasStretch wd_646 cl_3 cv_3 rfl ⟨by decide, by decide⟩ ⟨Nat.zero_le _, Nat.zero_le _⟩ (c_Par_hasStretch X N h 3 isP_i3 a1) rfl rfl (Nat.le_of_ble_eq_true rfl) dX11_ditch_5 (fun x1 => ?_)
  refine ro_if_ne (tgt := 17) (pc := 8) dX11_ditch_8 (by decide) (fun _ => ?_) (fun _ => ?_)
  · skip
    refine ro_aload_n (pc := 17) 0 dX11_ditch_17 rfl rfl ?_
    refine gf_X11_4 (pc := 18) wd_348 dX11_ditch_18 ?_
    refine ro_cvP (pc := 21) (kc := 1) (avs := []) (st := []) ok_Sta_box wd_779 cl_14 cv_14 rfl ⟨by decide, by decide⟩ ⟨Nat.zero_le _, Nat.zero_le _⟩ (c_Sta_box X N h 14 isT_i14) rfl rfl (Nat.le_of_ble_eq_true rfl) dX11_ditch_21 (fun x2 => ?_)
    refine ro_iconst (v := 2) (pc := 24) dX11_ditch_24 (by decide) ?_
    refine ro_jn (pcj := 40) (lvs := fun (s : Unit) => [(0, .ref (xa X 0))]) (hs := fun (s : Unit) => h) (sts := fun (s : Unit) => []) (fun s => ?_) (fun j3 hj3 => ?_)
    · try dsimp only
      refine ro_aload_n (pc := 40) 0 dX11_ditch_40 rfl rfl ?_
      refine ro_iconst (v := 3) (pc := 41) dX11_ditch_41 (by decide) ?_
      refine ro_cvI (pc := 42) (kc := 1) (avs := [.int 3]) (st := []) ok_Owe_refuse wd_732 cl_0 cv_0 rfl ⟨by decide, by decide⟩ ⟨Nat.zero_le _, Nat.zero_le _⟩ (c_Owe_refuse X N h 3) rfl rfl (Nat.le_of_ble_eq_true rfl) dX11_ditch_42 (fun x4 h5 => ?_)
      exact ro_iret (pc := 45) rfl rfl dX11_ditch_45
    · skip
      refine ro_icmp_lt (tgt := 40) (pc := 25) dX11_ditch_25 (by decide) (fun _ => ?_) (fun _ => ?_)
      · skip
        refine ro_lv [0] rfl ?_
        exact hj3 ()
      · skip
        refine ro_aload_n (pc := 28) 0 dX11_ditch_28 rfl rfl ?_
        refine gf_X11_4 (pc := 29) wd_348 dX11_ditch_29 ?_
        refine ro_iload_n (pc := 32) 1 dX11_ditch_32 rfl rfl ?_
        refine ro_cvP (pc := 33) (kc := 1) (avs := [.int a1]) (st := []) ok_Sta_wet wd_655 cl_14 cv_14 rfl ⟨by decide, by decide⟩ ⟨Nat.zero_le _, Nat.zero_le _⟩ (c_Sta_wet X N h 14 isT_i14 a1) rfl rfl (Nat.le_of_ble_eq_true rfl) dX11_ditch_33 (fun x7 => ?_)
        refine ro_iconst (v := 1) (pc := 36) dX11_ditch_36 (by decide) ?_
        refine ro_icmp_ge (tgt := 46) (pc := 37) dX11_ditch_37 (by decide) (fun _ => ?_) (fun _ => ?_)
        · skip
          refine ro_aload_n (pc := 46) 0 dX11_ditch_46 rfl rfl ?_
          refine gf_X11_7 (pc := 47) wd_351 dX11_ditch_47 ?_
          refine ro_aload_n (pc := 50) 0 dX11_ditch_50 rfl rfl ?_
          refine gf_X11_4 (pc := 51) wd_348 dX11_ditch_51 ?_
          refine ro_cvV (pc := 54) (kc := 2) (avs := [.ref (xa X 14)]) (st := []) ok_Pas_keep wd_740 cl_20 cv_20 rfl ⟨by decide, by decide⟩ ⟨Nat.zero_le _, Nat.zero_le _⟩ (c_Pas_keep X N h 14 isT_i14) rfl rfl (Nat.le_of_ble_eq_true rfl) dX11_ditch_54 (fun h8 => ?_)
          refine ro_aload_n (pc := 57) 0 dX11_ditch_57 rfl rfl ?_
          refine gf_X11_8 (pc := 58) wd_352 dX11_ditch_58 ?_
          refine ro_iload_n (pc := 61) 1 dX11_ditch_61 rfl rfl ?_
          refine ro_cvV (pc := 62) (kc := 3) (avs := [.int a1]) (st := []) ok_Lab_drain wd_787 cl_22 cv_22 rfl ⟨by decide, by decide⟩ ⟨Nat.zero_le _, Nat.zero_le _⟩ (c_Lab_drain X N h8 a1) rfl rfl (Nat.le_of_ble_eq_true rfl) dX11_ditch_62 (fun h9 => ?_)
          refine ro_aload_n (pc := 65) 0 dX11_ditch_65 rfl rfl ?_
          refine gf_X11_4 (pc := 66) wd_348 dX11_ditch_66 ?_
          refine ro_iload_n (pc := 69) 1 dX11_ditch_69 rfl rfl ?_
          refine ro_cvP (pc := 70) (kc := 1) (avs := [.int a1]) (st := []) ok_Sta_wet wd_655 cl_14 cv_14 rfl ⟨by decide, by decide⟩ ⟨Nat.zero_le _, Nat.zero_le _⟩ (c_Sta_wet X N h9 14 isT_i14 a1) rfl rfl (Nat.le_of_ble_eq_true rfl) dX11_ditch_70 (fun x10 => ?_)
          exact ro_iret (pc := 73) rfl rfl dX11_ditch_73
        · skip
          refine ro_lv [0] rfl ?_
          exact hj3 ()
  · skip
    refine ro_aload_n (pc := 11) 0 dX11_ditch_11 rfl rfl ?_
    refine ro_iconst (v := 0) (pc := 12) dX11_ditch_12 (by decide) ?_
    refine ro_cvI (pc := 13) (kc := 1) (avs := [.int 0]) (st := []) ok_Owe_refuse wd_732 cl_0 cv_0 rfl ⟨by decide, by decide⟩ ⟨Nat.zero_le _, Nat.zero_le _⟩ (c_Owe_refuse X N h 0) rfl rfl (Nat.le_of_ble_eq_true rfl) dX11_ditch_13 (fun x11 h12 => ?_)
    exact ro_iret (pc := 16) rfl rfl dX11_ditch_16
theorem c_Owe_ditch (X : mu_X) (N : Nat) (h : mu_H) (a1 : Int32) : ∀ r, f_Owe_ditch N h a1 = some r → mI X m_Owe_ditch 4 [.ref (xa X 0), .int a1] h r.1 r.2 := fun r hr => mI_of (by decide) rfl (Nat.le_of_ble_eq_true rfl) rfl (cb_Owe_ditch X N h a1 r hr)
set_option maxRecDepth 20000 in
theorem cb_Owe_does (X : mu_X) (N : Nat) (h : mu_H) (a1 : Int32) (a2 : Int32) (a3 : Int32) : aG X m_Owe_does (rmk 6) (fun _ => ax X) (fun _ _ _ => True) 0 0 (fun r : Int32 × mu_H => qI X r.1 r.2) (f_Owe_does N h a1 a2 a3) 0 [(0, .ref (xa X 0)), (1, .int a1), (2, .int a2), (3, .int a3)] [] h := by
  unfold f_Owe_does
  refine ro_aload_n (pc := 0) 0 dX11_does_0 rfl rfl ?_
  refine gf_X11_1 (pc := 1) wd_345 dX11_does_1 ?_
  refine ro_iload_n (pc := 4) 1 dX11_does_4 rfl rfl ?_
  refine ro_cvP (pc := 5) (kc := 1) (avs := [.int a1]) (st := []) ok_Par_hasHouse wd_671 cl_3 cv_3 rfl ⟨by decide, by decide⟩ ⟨Nat.zero_le _, Nat.zero_le _⟩ (c_Par_hasHouse X N h 3 isP_i3 a1) rfl rfl (Nat.le_of_ble_eq_true rfl) dX11_does_5 (fun x1 => ?_)
  refine ro_if_eq (tgt := 31) (pc := 8) dX11_does_8 (by decide) (fun _ => ?_) (fun _ => ?_)
  · skip
    refine ro_iconst (v := (-1)) (pc := 31) dX11_does_31 (by decide) ?_
    exact ro_iret (pc := 32) rfl rfl dX11_does_32
  · skip
    refine ro_aload_n (pc := 11) 0 dX11_does_11 rfl rfl ?_
    refine gf_X11_1 (pc := 12) wd_345 dX11_does_12 ?_
    refine ro_iload_n (pc := 15) 2 dX11_does_15 rfl rfl ?_
    refine ro_cvP (pc := 16) (kc := 1) (avs := [.int a2]) (st := []) ok_Par_hasStretch wd_646 cl_3 cv_3 rfl ⟨by decide, by decide⟩ ⟨Nat.zero_le _, Nat.zero_le _⟩ (c_Par_hasStretch X N h 3 isP_i3 a2) rfl rfl (Nat.le_of_ble_eq_true rfl) dX11_does_16 (fun x2 => ?_)
    refine ro_if_eq (tgt := 31) (pc := 19) dX11_does_19 (by decide) (fun _ => ?_) (fun _ => ?_)
    · skip
      refine ro_iconst (v := (-1)) (pc := 31) dX11_does_31 (by decide) ?_
      exact ro_iret (pc := 32) rfl rfl dX11_does_32
    · skip
      refine ro_iload_n (pc := 22) 3 dX11_does_22 rfl rfl ?_
      refine ro_if_lt (tgt := 31) (pc := 23) dX11_does_23 (by decide) (fun _ => ?_) (fun _ => ?_)
      · skip
        refine ro_iconst (v := (-1)) (pc := 31) dX11_does_31 (by decide) ?_
        exact ro_iret (pc := 32) rfl rfl dX11_does_32
      · skip
        refine ro_iload_n (pc := 26) 3 dX11_does_26 rfl rfl ?_
        refine ro_iconst (v := 4) (pc := 27) dX11_does_27 (by decide) ?_
        refine ro_icmp_lt (tgt := 33) (pc := 28) dX11_does_28 (by decide) (fun _ => ?_) (fun _ => ?_)
        · skip
          refine ro_aload_n (pc := 33) 0 dX11_does_33 rfl rfl ?_
          refine gf_X11_8 (pc := 34) wd_352 dX11_does_34 ?_
          refine ro_iload_n (pc := 37) 1 dX11_does_37 rfl rfl ?_
          refine ro_iload_n (pc := 38) 2 dX11_does_38 rfl rfl ?_
          refine ro_iload_n (pc := 39) 3 dX11_does_39 rfl rfl ?_
          refine ro_cvP (pc := 40) (kc := 4) (avs := [.int a1, .int a2, .int a3]) (st := []) ok_Lab_canWork wd_687 cl_22 cv_22 rfl ⟨by decide, by decide⟩ ⟨Nat.zero_le _, Nat.zero_le _⟩ (c_Lab_canWork X N h a1 a2 a3) rfl rfl (Nat.le_of_ble_eq_true rfl) dX11_does_40 (fun x3 => ?_)
          refine ro_if_ne (tgt := 48) (pc := 43) dX11_does_43 (by decide) (fun _ => ?_) (fun _ => ?_)
          · skip
            refine ro_aload_n (pc := 48) 0 dX11_does_48 rfl rfl ?_
            refine gf_X11_8 (pc := 49) wd_352 dX11_does_49 ?_
            refine ro_iload_n (pc := 52) 1 dX11_does_52 rfl rfl ?_
            refine ro_iload_n (pc := 53) 2 dX11_does_53 rfl rfl ?_
            refine ro_iload_n (pc := 54) 3 dX11_does_54 rfl rfl ?_
            refine ro_aload_n (pc := 55) 0 dX11_does_55 rfl rfl ?_
            refine gf_X11_4 (pc := 56) wd_348 dX11_does_56 ?_
            refine ro_iload_n (pc := 59) 2 dX11_does_59 rfl rfl ?_
            refine ro_cvP (pc := 60) (kc := 1) (avs := [.int a2]) (st := [.int a3, .int a2, .int a1, .ref (xa X 22)]) ok_Sta_wear wd_651 cl_14 cv_14 rfl ⟨by decide, by decide⟩ ⟨Nat.zero_le _, Nat.zero_le _⟩ (c_Sta_wear X N h 14 isT_i14 a2) rfl rfl (Nat.le_of_ble_eq_true rfl) dX11_does_60 (fun x4 => ?_)
            refine ro_cvI (pc := 63) (kc := 5) (avs := [.int a1, .int a2, .int a3, .int x4]) (st := []) ok_Lab_effect wd_696 cl_22 cv_22 rfl ⟨by decide, by decide⟩ ⟨Nat.zero_le _, Nat.zero_le _⟩ (c_Lab_effect X N h a1 a2 a3 x4) rfl rfl (Nat.le_of_ble_eq_true rfl) dX11_does_63 (fun x5 h6 => ?_)
            exact ro_iret (pc := 66) rfl rfl dX11_does_66
          · skip
            refine ro_iconst (v := (-1)) (pc := 46) dX11_does_46 (by decide) ?_
            exact ro_iret (pc := 47) rfl rfl dX11_does_47
        · skip
          refine ro_iconst (v := (-1)) (pc := 31) dX11_does_31 (by decide) ?_
          exact ro_iret (pc := 32) rfl rfl dX11_does_32
theorem c_Owe_does (X : mu_X) (N : Nat) (h : mu_H) (a1 : Int32) (a2 : Int32) (a3 : Int32) : ∀ r, f_Owe_does N h a1 a2 a3 = some r → mI X m_Owe_does 6 [.ref (xa X 0), .int a1, .int a2, .int a3] h r.1 r.2 := fun r hr => mI_of (by decide) rfl (Nat.le_of_ble_eq_true rfl) rfl (cb_Owe_does X N h a1 a2 a3 r hr)
set_option maxRecDepth 20000 in
theorem cb_Owe_end (X : mu_X) (N : Nat) (h : mu_H) (a1 : Int32) : aG X m_Owe_end (rmk 2) (fun _ => ax X) (fun _ _ _ => True) 0 0 (fun r : Int32 × mu_H => qI X r.1 r.2) (f_Owe_end N h a1) 0 [(0, .ref (xa X 0)), (1, .int a1)] [] h := by
  unfold f_Owe_end
  refine ro_aload_n (pc := 0) 0 dX11_end_0 rfl rfl ?_
  refine gf_X11_0 (pc := 1) wd_344 dX11_end_1 ?_
  refine ro_iload_n (pc := 4) 1 dX11_end_4 rfl rfl ?_
  refine ro_cvI (pc := 5) (kc := 1) (avs := [.int a1]) (st := []) ok_Tap_shorten wd_403 cl_1 cv_1 rfl ⟨by decide, by decide⟩ ⟨Nat.zero_le _, Nat.zero_le _⟩ (c_Tap_shorten X N h a1) rfl rfl (Nat.le_of_ble_eq_true rfl) dX11_end_5 (fun x1 h2 => ?_)
  exact ro_zretg (pc := 8) rfl rfl dX11_end_8
theorem c_Owe_end (X : mu_X) (N : Nat) (h : mu_H) (a1 : Int32) : ∀ r, f_Owe_end N h a1 = some r → mI X m_Owe_end 2 [.ref (xa X 0), .int a1] h r.1 r.2 := fun r hr => mI_of (by decide) rfl (Nat.le_of_ble_eq_true rfl) rfl (cb_Owe_end X N h a1 r hr)
set_option maxRecDepth 20000 in
theorem cb_Owe_ends (X : mu_X) (N : Nat) (h : mu_H) : aG X m_Owe_ends (rmk 4) (fun _ => ax X) (fun _ _ _ => True) 0 0 (fun r : Int32 => qI X r h) (f_Owe_ends N h) 0 [(0, .ref (xa X 0))] [] h := by
  unfold f_Owe_ends
  refine ro_aload_n (pc := 0) 0 dX11_ends_0 rfl rfl ?_
  refine gf_X11_1 (pc := 1) wd_345 dX11_ends_1 ?_
  refine ro_cvP (pc := 4) (kc := 1) (avs := []) (st := []) ok_Par_isNone wd_637 cl_3 cv_3 rfl ⟨by decide, by decide⟩ ⟨Nat.zero_le _, Nat.zero_le _⟩ (c_Par_isNone X N h 3 isP_i3) rfl rfl (Nat.le_of_ble_eq_true rfl) dX11_ends_4 (fun x1 => ?_)
  refine ro_if_eq (tgt := 14) (pc := 7) dX11_ends_7 (by decide) (fun _ => ?_) (fun _ => ?_)
  · skip
    refine ro_aload_n (pc := 14) 0 dX11_ends_14 rfl rfl ?_
    refine gf_X11_9 (pc := 15) wd_353 dX11_ends_15 ?_
    refine ro_cvP (pc := 18) (kc := 3) (avs := []) (st := []) ok_Roa_deadEnds wd_1176 cl_37 cv_37 rfl ⟨by decide, by decide⟩ ⟨Nat.zero_le _, Nat.zero_le _⟩ (c_Roa_deadEnds X N h) rfl rfl (Nat.le_of_ble_eq_true rfl) dX11_ends_18 (fun x2 => ?_)
    exact ro_iret (pc := 21) rfl rfl dX11_ends_21
  · skip
    refine ro_iconst (v := (-1)) (pc := 10) dX11_ends_10 (by decide) ?_
    refine ro_goto (tgt := 21) (pc := 11) dX11_ends_11 (by decide) ?_
    exact ro_iret (pc := 21) rfl rfl dX11_ends_21
theorem c_Owe_ends (X : mu_X) (N : Nat) (h : mu_H) : ∀ r, f_Owe_ends N h = some r → mI X m_Owe_ends 4 [.ref (xa X 0)] h r h := fun r hr => mI_of (by decide) rfl (Nat.le_of_ble_eq_true rfl) rfl (cb_Owe_ends X N h r hr)
set_option maxRecDepth 20000 in
theorem cb_Owe_fails (X : mu_X) (N : Nat) (h : mu_H) (a1 : Int32) : aG X m_Owe_fails (rmk 5) (fun _ => ax X) (fun _ _ _ => True) 0 0 (fun r : Int32 => qI X r h) (f_Owe_fails N h a1) 0 [(0, .ref (xa X 0)), (1, .int a1)] [] h := by
  unfold f_Owe_fails
  refine ro_aload_n (pc := 0) 0 dX11_fails_0 rfl rfl ?_
  refine gf_X11_1 (pc := 1) wd_345 dX11_fails_1 ?_
  refine ro_cvP (pc := 4) (kc := 1) (avs := []) (st := []) ok_Par_isNone wd_637 cl_3 cv_3 rfl ⟨by decide, by decide⟩ ⟨Nat.zero_le _, Nat.zero_le _⟩ (c_Par_isNone X N h 3 isP_i3) rfl rfl (Nat.le_of_ble_eq_true rfl) dX11_fails_4 (fun x1 => ?_)
  refine ro_if_ne (tgt := 19) (pc := 7) dX11_fails_7 (by decide) (fun _ => ?_) (fun _ => ?_)
  · skip
    refine ro_iconst (v := (-1)) (pc := 19) dX11_fails_19 (by decide) ?_
    exact ro_iret (pc := 20) rfl rfl dX11_fails_20
  · skip
    refine ro_iload_n (pc := 10) 1 dX11_fails_10 rfl rfl ?_
    refine ro_if_lt (tgt := 19) (pc := 11) dX11_fails_11 (by decide) (fun _ => ?_) (fun _ => ?_)
    · skip
      refine ro_iconst (v := (-1)) (pc := 19) dX11_fails_19 (by decide) ?_
      exact ro_iret (pc := 20) rfl rfl dX11_fails_20
    · skip
      refine ro_iload_n (pc := 14) 1 dX11_fails_14 rfl rfl ?_
      refine ro_iconst (v := 1) (pc := 15) dX11_fails_15 (by decide) ?_
      refine ro_icmp_le (tgt := 21) (pc := 16) dX11_fails_16 (by decide) (fun _ => ?_) (fun _ => ?_)
      · skip
        refine ro_aload_n (pc := 21) 0 dX11_fails_21 rfl rfl ?_
        refine gf_X11_11 (pc := 22) wd_355 dX11_fails_22 ?_
        refine ro_cvP (pc := 25) (kc := 4) (avs := []) (st := []) ok_Out_firstToFail wd_1130 cl_42 cv_42 rfl ⟨by decide, by decide⟩ ⟨Nat.zero_le _, Nat.zero_le _⟩ (c_Out_firstToFail X N h) rfl rfl (Nat.le_of_ble_eq_true rfl) dX11_fails_25 (fun x2 => ?_)
        refine ro_istore_n (pc := 28) (lv' := [(2, .int x2), (0, .ref (xa X 0)), (1, .int a1)]) dX11_fails_28 rfl (by decide) rfl ?_
        refine ro_iload_n (pc := 29) 0 dX11_fails_29 rfl rfl ?_
        refine ro_iconst (v := (-1)) (pc := 30) dX11_fails_30 (by decide) ?_
        refine ro_icmp_ne (tgt := 36) (pc := 31) dX11_fails_31 (by decide) (fun _ => ?_) (fun _ => ?_)
        · skip
          refine ro_iload_n (pc := 36) 2 dX11_fails_36 rfl rfl ?_
          refine ro_if_ne (tgt := 44) (pc := 37) dX11_fails_37 (by decide) (fun _ => ?_) (fun _ => ?_)
          · skip
            refine ro_aload_n (pc := 44) 1 dX11_fails_44 rfl rfl ?_
            refine gf_X11_11 (pc := 45) wd_355 dX11_fails_45 ?_
            refine ro_iload_n (pc := 48) 0 dX11_fails_48 rfl rfl ?_
            refine ro_cvP (pc := 49) (kc := 3) (avs := [.int x2]) (st := []) ok_Out_seasonsTillFull wd_1141 cl_42 cv_42 rfl ⟨by decide, by decide⟩ ⟨Nat.zero_le _, Nat.zero_le _⟩ (c_Out_seasonsTillFull X N h x2) rfl rfl (Nat.le_of_ble_eq_true rfl) dX11_fails_49 (fun x3 => ?_)
            exact ro_iret (pc := 52) rfl rfl dX11_fails_52
          · skip
            refine ro_iload_n (pc := 40) 0 dX11_fails_40 rfl rfl ?_
            refine ro_goto (tgt := 52) (pc := 41) dX11_fails_41 (by decide) ?_
            exact ro_iret (pc := 52) rfl rfl dX11_fails_52
        · skip
          refine ro_iconst (v := (-1)) (pc := 34) dX11_fails_34 (by decide) ?_
          exact ro_iret (pc := 35) rfl rfl dX11_fails_35
      · skip
        refine ro_iconst (v := (-1)) (pc := 19) dX11_fails_19 (by decide) ?_
        exact ro_iret (pc := 20) rfl rfl dX11_fails_20
theorem c_Owe_fails (X : mu_X) (N : Nat) (h : mu_H) (a1 : Int32) : ∀ r, f_Owe_fails N h a1 = some r → mI X m_Owe_fails 5 [.ref (xa X 0), .int a1] h r h := fun r hr => mI_of (by decide) rfl (Nat.le_of_ble_eq_true rfl) rfl (cb_Owe_fails X N h a1 r hr)
set_option maxRecDepth 20000 in
theorem cb_Owe_fault (X : mu_X) (N : Nat) (h : mu_H) (a1 : Int32) : aG X m_Owe_fault (rmk 68) (fun _ => ax X) (fun _ _ _ => True) 0 0 (fun r : Int32 × mu_H => qI X r.1 r.2) (f_Owe_fault N h a1) 0 [(0, .ref (xa X 0)), (1, .int a1)] [] h := by
  unfold f_Owe_fault
  refine ro_iload_n (pc := 0) 1 dX11_fault_0 rfl rfl ?_
  refine ro_if_ne (tgt := 12) (pc := 1) dX11_fault_1 (by decide) (fun _ => ?_) (fun _ => ?_)
  · skip
    refine ro_iload_n (pc := 12) 1 dX11_fault_12 rfl rfl ?_
    refine ro_iconst (v := 1) (pc := 13) dX11_fault_13 (by decide) ?_
    refine ro_icmp_ne (tgt := 27) (pc := 14) dX11_fault_14 (by decide) (fun _ => ?_) (fun _ => ?_)
    · skip
      refine ro_bipush (v := (-2)) (pc := 27) dX11_fault_27 (by decide) ?_
      exact ro_iret (pc := 29) rfl rfl dX11_fault_29
    · skip
      refine ro_aload_n (pc := 17) 0 dX11_fault_17 rfl rfl ?_
      refine gf_X11_3 (pc := 18) wd_347 dX11_fault_18 ?_
      refine ro_cvI (pc := 21) (kc := 67) (avs := []) (st := []) ok_LRd_firstWrong wd_497 cl_10 cv_10 rfl ⟨by decide, by decide⟩ ⟨Nat.zero_le _, Nat.zero_le _⟩ (c_LRd_firstWrong X N h) rfl rfl (Nat.le_of_ble_eq_true rfl) dX11_fault_21 (fun x1 h2 => ?_)
      refine ro_goto (tgt := 29) (pc := 24) dX11_fault_24 (by decide) ?_
      exact ro_iret (pc := 29) rfl rfl dX11_fault_29
  · skip
    refine ro_aload_n (pc := 4) 0 dX11_fault_4 rfl rfl ?_
    refine gf_X11_2 (pc := 5) wd_346 dX11_fault_5 ?_
    refine ro_cvI (pc := 8) (kc := 5) (avs := []) (st := []) ok_PRd_firstWrong wd_411 cl_6 cv_6 rfl ⟨by decide, by decide⟩ ⟨Nat.zero_le _, Nat.zero_le _⟩ (c_PRd_firstWrong X N h) rfl rfl (Nat.le_of_ble_eq_true rfl) dX11_fault_8 (fun x4 h5 => ?_)
    exact ro_iret (pc := 11) rfl rfl dX11_fault_11
theorem c_Owe_fault (X : mu_X) (N : Nat) (h : mu_H) (a1 : Int32) : ∀ r, f_Owe_fault N h a1 = some r → mI X m_Owe_fault 68 [.ref (xa X 0), .int a1] h r.1 r.2 := fun r hr => mI_of (by decide) rfl (Nat.le_of_ble_eq_true rfl) rfl (cb_Owe_fault X N h a1 r hr)
set_option maxRecDepth 20000 in
theorem cb_Owe_feed (X : mu_X) (N : Nat) (h : mu_H) (a1 : Int32) (a2 : Int32) (a3 : Int32) (a4 : Int32) (a5 : Int32) : aG X m_Owe_feed (rmk 2) (fun _ => ax X) (fun _ _ _ => True) 0 0 (fun r : Int32 × mu_H => qI X r.1 r.2) (f_Owe_feed N h a1 a2 a3 a4 a5) 0 [(0, .ref (xa X 0)), (1, .int a1), (2, .int a2), (3, .int a3), (4, .int a4), (5, .int a5)] [] h := by
  unfold f_Owe_feed
  refine ro_iload_n (pc := 0) 1 dX11_feed_0 rfl rfl ?_
  refine ro_csP (pc := 1) (kc := 1) (avs := [.int a1]) (st := []) ok_Tap_signsIn wd_388 ⟨by decide, by decide⟩ ⟨Nat.zero_le _, Nat.zero_le _⟩ (c_Tap_signsIn X N h a1) rfl rfl (Nat.le_of_ble_eq_true rfl) dX11_feed_1 (fun x1 => ?_)
  refine ro_iload_n (pc := 4) 2 dX11_feed_4 rfl rfl ?_
  refine ro_csP (pc := 5) (kc := 1) (avs := [.int a2]) (st := [.int x1]) ok_Tap_signsIn wd_388 ⟨by decide, by decide⟩ ⟨Nat.zero_le _, Nat.zero_le _⟩ (c_Tap_signsIn X N h a2) rfl rfl (Nat.le_of_ble_eq_true rfl) dX11_feed_5 (fun x2 => ?_)
  refine ro_iadd (pc := 8) dX11_feed_8 ?_
  refine ro_iload_n (pc := 9) 3 dX11_feed_9 rfl rfl ?_
  refine ro_csP (pc := 10) (kc := 1) (avs := [.int a3]) (st := [.int (x1 + x2)]) ok_Tap_signsIn wd_388 ⟨by decide, by decide⟩ ⟨Nat.zero_le _, Nat.zero_le _⟩ (c_Tap_signsIn X N h a3) rfl rfl (Nat.le_of_ble_eq_true rfl) dX11_feed_10 (fun x3 => ?_)
  refine ro_iadd (pc := 13) dX11_feed_13 ?_
  refine ro_iload (pc := 14) 4 dX11_feed_14 rfl ?_
  refine ro_csP (pc := 16) (kc := 1) (avs := [.int a4]) (st := [.int ((x1 + x2) + x3)]) ok_Tap_signsIn wd_388 ⟨by decide, by decide⟩ ⟨Nat.zero_le _, Nat.zero_le _⟩ (c_Tap_signsIn X N h a4) rfl rfl (Nat.le_of_ble_eq_true rfl) dX11_feed_16 (fun x4 => ?_)
  refine ro_iadd (pc := 19) dX11_feed_19 ?_
  refine ro_iload (pc := 20) 5 dX11_feed_20 rfl ?_
  refine ro_csP (pc := 22) (kc := 1) (avs := [.int a5]) (st := [.int (((x1 + x2) + x3) + x4)]) ok_Tap_signsIn wd_388 ⟨by decide, by decide⟩ ⟨Nat.zero_le _, Nat.zero_le _⟩ (c_Tap_signsIn X N h a5) rfl rfl (Nat.le_of_ble_eq_true rfl) dX11_feed_22 (fun x5 => ?_)
  refine ro_iadd (pc := 25) dX11_feed_25 ?_
  refine ro_bn (fun x6 => ?_)
  refine ro_istore (pc := 26) (lv' := [(6, .int x6), (0, .ref (xa X 0)), (1, .int a1), (2, .int a2), (3, .int a3), (4, .int a4), (5, .int a5)]) dX11_feed_26 (by decide) rfl ?_
  refine ro_aload_n (pc := 28) 1 dX11_feed_28 rfl rfl ?_
  refine gf_X11_0 (pc := 29) wd_344 dX11_feed_29 ?_
  refine ro_cvP (pc := 32) (kc := 1) (avs := []) (st := []) ok_Tap_size wd_391 cl_1 cv_1 rfl ⟨by decide, by decide⟩ ⟨Nat.zero_le _, Nat.zero_le _⟩ (c_Tap_size X N h) rfl rfl (Nat.le_of_ble_eq_true rfl) dX11_feed_32 (fun x7 => ?_)
  refine ro_iload (pc := 35) 0 dX11_feed_35 rfl ?_
  refine ro_iadd (pc := 37) dX11_feed_37 ?_
  refine ro_sipush (v := 240) (pc := 38) dX11_feed_38 (by decide) ?_
  refine ro_icmp_le (tgt := 46) (pc := 41) dX11_feed_41 (by decide) (fun _ => ?_) (fun _ => ?_)
  · skip
    refine ro_aload_n (pc := 46) 1 dX11_feed_46 rfl rfl ?_
    refine gf_X11_0 (pc := 47) wd_344 dX11_feed_47 ?_
    refine ro_iload_n (pc := 50) 2 dX11_feed_50 rfl rfl ?_
    refine ro_cvV (pc := 51) (kc := 1) (avs := [.int a1]) (st := []) ok_Tap_add wd_395 cl_1 cv_1 rfl ⟨by decide, by decide⟩ ⟨Nat.zero_le _, Nat.zero_le _⟩ (c_Tap_add X N h a1) rfl rfl (Nat.le_of_ble_eq_true rfl) dX11_feed_51 (fun h8 => ?_)
    refine ro_aload_n (pc := 54) 1 dX11_feed_54 rfl rfl ?_
    refine gf_X11_0 (pc := 55) wd_344 dX11_feed_55 ?_
    refine ro_iload_n (pc := 58) 3 dX11_feed_58 rfl rfl ?_
    refine ro_cvV (pc := 59) (kc := 1) (avs := [.int a2]) (st := []) ok_Tap_add wd_395 cl_1 cv_1 rfl ⟨by decide, by decide⟩ ⟨Nat.zero_le _, Nat.zero_le _⟩ (c_Tap_add X N h8 a2) rfl rfl (Nat.le_of_ble_eq_true rfl) dX11_feed_59 (fun h9 => ?_)
    refine ro_aload_n (pc := 62) 1 dX11_feed_62 rfl rfl ?_
    refine gf_X11_0 (pc := 63) wd_344 dX11_feed_63 ?_
    refine ro_iload_n (pc := 66) 4 dX11_feed_66 rfl rfl ?_
    refine ro_cvV (pc := 67) (kc := 1) (avs := [.int a3]) (st := []) ok_Tap_add wd_395 cl_1 cv_1 rfl ⟨by decide, by decide⟩ ⟨Nat.zero_le _, Nat.zero_le _⟩ (c_Tap_add X N h9 a3) rfl rfl (Nat.le_of_ble_eq_true rfl) dX11_feed_67 (fun h10 => ?_)
    refine ro_aload_n (pc := 70) 1 dX11_feed_70 rfl rfl ?_
    refine gf_X11_0 (pc := 71) wd_344 dX11_feed_71 ?_
    refine ro_iload (pc := 74) 5 dX11_feed_74 rfl ?_
    refine ro_cvV (pc := 76) (kc := 1) (avs := [.int a4]) (st := []) ok_Tap_add wd_395 cl_1 cv_1 rfl ⟨by decide, by decide⟩ ⟨Nat.zero_le _, Nat.zero_le _⟩ (c_Tap_add X N h10 a4) rfl rfl (Nat.le_of_ble_eq_true rfl) dX11_feed_76 (fun h11 => ?_)
    refine ro_aload_n (pc := 79) 1 dX11_feed_79 rfl rfl ?_
    refine gf_X11_0 (pc := 80) wd_344 dX11_feed_80 ?_
    refine ro_iload (pc := 83) 6 dX11_feed_83 rfl ?_
    refine ro_cvV (pc := 85) (kc := 1) (avs := [.int a5]) (st := []) ok_Tap_add wd_395 cl_1 cv_1 rfl ⟨by decide, by decide⟩ ⟨Nat.zero_le _, Nat.zero_le _⟩ (c_Tap_add X N h11 a5) rfl rfl (Nat.le_of_ble_eq_true rfl) dX11_feed_85 (fun h12 => ?_)
    refine ro_aload_n (pc := 88) 1 dX11_feed_88 rfl rfl ?_
    refine gf_X11_0 (pc := 89) wd_344 dX11_feed_89 ?_
    refine ro_cvP (pc := 92) (kc := 1) (avs := []) (st := []) ok_Tap_size wd_391 cl_1 cv_1 rfl ⟨by decide, by decide⟩ ⟨Nat.zero_le _, Nat.zero_le _⟩ (c_Tap_size X N h12) rfl rfl (Nat.le_of_ble_eq_true rfl) dX11_feed_92 (fun x13 => ?_)
    exact ro_iret (pc := 95) rfl rfl dX11_feed_95
  · skip
    refine ro_iconst (v := (-1)) (pc := 44) dX11_feed_44 (by decide) ?_
    exact ro_iret (pc := 45) rfl rfl dX11_feed_45
theorem c_Owe_feed (X : mu_X) (N : Nat) (h : mu_H) (a1 : Int32) (a2 : Int32) (a3 : Int32) (a4 : Int32) (a5 : Int32) : ∀ r, f_Owe_feed N h a1 a2 a3 a4 a5 = some r → mI X m_Owe_feed 2 [.ref (xa X 0), .int a1, .int a2, .int a3, .int a4, .int a5] h r.1 r.2 := fun r hr => mI_of (by decide) rfl (Nat.le_of_ble_eq_true rfl) rfl (cb_Owe_feed X N h a1 a2 a3 a4 a5 r hr)
set_option maxRecDepth 20000 in
theorem cb_Owe_feigned (X : mu_X) (N : Nat) (h : mu_H) (a1 : Int32) (a2 : Int32) : aG X m_Owe_feigned (rmk 4) (fun _ => ax X) (fun _ _ _ => True) 0 0 (fun r : Int32 => qI X r h) (f_Owe_feigned N h a1 a2) 0 [(0, .ref (xa X 0)), (1, .int a1), (2, .int a2)] [] h := by
  unfold f_Owe_feigned
  refine ro_aload_n (pc := 0) 0 dX11_feigned_0 rfl rfl ?_
  refine gf_X11_10 (pc := 1) wd_354 dX11_feigned_1 ?_
  refine ro_iload_n (pc := 4) 1 dX11_feigned_4 rfl rfl ?_
  refine ro_cvP (pc := 5) (kc := 2) (avs := [.int a1]) (st := []) ok_Sig_canAsk wd_1071 cl_39 cv_39 rfl ⟨by decide, by decide⟩ ⟨Nat.zero_le _, Nat.zero_le _⟩ (c_Sig_canAsk X N h a1) rfl rfl (Nat.le_of_ble_eq_true rfl) dX11_feigned_5 (fun x1 => ?_)
  refine ro_if_eq (tgt := 16) (pc := 8) dX11_feigned_8 (by decide) (fun _ => ?_) (fun _ => ?_)
  · skip
    refine ro_iconst (v := (-1)) (pc := 16) dX11_feigned_16 (by decide) ?_
    exact ro_iret (pc := 17) rfl rfl dX11_feigned_17
  · skip
    refine ro_iload_n (pc := 11) 2 dX11_feigned_11 rfl rfl ?_
    refine ro_iconst (v := (-1)) (pc := 12) dX11_feigned_12 (by decide) ?_
    refine ro_icmp_ge (tgt := 18) (pc := 13) dX11_feigned_13 (by decide) (fun _ => ?_) (fun _ => ?_)
    · skip
      refine ro_iload_n (pc := 18) 2 dX11_feigned_18 rfl rfl ?_
      refine ro_iconst (v := (-1)) (pc := 19) dX11_feigned_19 (by decide) ?_
      refine ro_icmp_ne (tgt := 34) (pc := 20) dX11_feigned_20 (by decide) (fun _ => ?_) (fun _ => ?_)
      · skip
        refine ro_aload_n (pc := 34) 0 dX11_feigned_34 rfl rfl ?_
        refine gf_X11_10 (pc := 35) wd_354 dX11_feigned_35 ?_
        refine ro_iload_n (pc := 38) 1 dX11_feigned_38 rfl rfl ?_
        refine ro_iload_n (pc := 39) 2 dX11_feigned_39 rfl rfl ?_
        refine ro_cvP (pc := 40) (kc := 3) (avs := [.int a1, .int a2]) (st := []) ok_Sig_fittingAt wd_1090 cl_39 cv_39 rfl ⟨by decide, by decide⟩ ⟨Nat.zero_le _, Nat.zero_le _⟩ (c_Sig_fittingAt X N h a1 a2) rfl rfl (Nat.le_of_ble_eq_true rfl) dX11_feigned_40 (fun x2 => ?_)
        exact ro_iret (pc := 43) rfl rfl dX11_feigned_43
      · skip
        refine ro_aload_n (pc := 23) 0 dX11_feigned_23 rfl rfl ?_
        refine gf_X11_10 (pc := 24) wd_354 dX11_feigned_24 ?_
        refine ro_iload_n (pc := 27) 1 dX11_feigned_27 rfl rfl ?_
        refine ro_cvP (pc := 28) (kc := 3) (avs := [.int a1]) (st := []) ok_Sig_fitting wd_1076 cl_39 cv_39 rfl ⟨by decide, by decide⟩ ⟨Nat.zero_le _, Nat.zero_le _⟩ (c_Sig_fitting X N h a1) rfl rfl (Nat.le_of_ble_eq_true rfl) dX11_feigned_28 (fun x3 => ?_)
        refine ro_goto (tgt := 43) (pc := 31) dX11_feigned_31 (by decide) ?_
        exact ro_iret (pc := 43) rfl rfl dX11_feigned_43
    · skip
      refine ro_iconst (v := (-1)) (pc := 16) dX11_feigned_16 (by decide) ?_
      exact ro_iret (pc := 17) rfl rfl dX11_feigned_17
theorem c_Owe_feigned (X : mu_X) (N : Nat) (h : mu_H) (a1 : Int32) (a2 : Int32) : ∀ r, f_Owe_feigned N h a1 a2 = some r → mI X m_Owe_feigned 4 [.ref (xa X 0), .int a1, .int a2] h r h := fun r hr => mI_of (by decide) rfl (Nat.le_of_ble_eq_true rfl) rfl (cb_Owe_feigned X N h a1 a2 r hr)
set_option maxRecDepth 20000 in
theorem cb_Owe_isPlayed (X : mu_X) (N : Nat) (h : mu_H) (a0 : Int32) : aG X m_Owe_isPlayed (rmk 1) (fun _ => ax X) (fun _ _ _ => True) 0 0 (fun r : Int32 => qI X r h) (f_Owe_isPlayed N h a0) 0 [(0, .int a0)] [] h := by
  unfold f_Owe_isPlayed
  refine ro_iload_n (pc := 0) 0 dX11_isPlayed_0 rfl rfl ?_
  refine ro_if_eq (tgt := 14) (pc := 1) dX11_isPlayed_1 (by decide) (fun _ => ?_) (fun _ => ?_)
  · skip
    refine ro_iconst (v := 1) (pc := 14) dX11_isPlayed_14 (by decide) ?_
    refine ro_goto (tgt := 19) (pc := 15) dX11_isPlayed_15 (by decide) ?_
    exact ro_zret (pc := 19) rfl rfl rfl dX11_isPlayed_19
  · skip
    refine ro_iload_n (pc := 4) 0 dX11_isPlayed_4 rfl rfl ?_
    refine ro_iconst (v := 1) (pc := 5) dX11_isPlayed_5 (by decide) ?_
    refine ro_icmp_eq (tgt := 14) (pc := 6) dX11_isPlayed_6 (by decide) (fun _ => ?_) (fun _ => ?_)
    · skip
      refine ro_iconst (v := 1) (pc := 14) dX11_isPlayed_14 (by decide) ?_
      refine ro_goto (tgt := 19) (pc := 15) dX11_isPlayed_15 (by decide) ?_
      exact ro_zret (pc := 19) rfl rfl rfl dX11_isPlayed_19
    · skip
      refine ro_iload_n (pc := 9) 0 dX11_isPlayed_9 rfl rfl ?_
      refine ro_iconst (v := 3) (pc := 10) dX11_isPlayed_10 (by decide) ?_
      refine ro_icmp_ne (tgt := 18) (pc := 11) dX11_isPlayed_11 (by decide) (fun _ => ?_) (fun _ => ?_)
      · skip
        refine ro_iconst (v := 0) (pc := 18) dX11_isPlayed_18 (by decide) ?_
        exact ro_zret (pc := 19) rfl rfl rfl dX11_isPlayed_19
      · skip
        refine ro_iconst (v := 1) (pc := 14) dX11_isPlayed_14 (by decide) ?_
        refine ro_goto (tgt := 19) (pc := 15) dX11_isPlayed_15 (by decide) ?_
        exact ro_zret (pc := 19) rfl rfl rfl dX11_isPlayed_19
theorem c_Owe_isPlayed (X : mu_X) (N : Nat) (h : mu_H) (a0 : Int32) : ∀ r, f_Owe_isPlayed N h a0 = some r → mI X m_Owe_isPlayed 1 [.int a0] h r h := fun r hr => mI_of (by decide) rfl (Nat.le_of_ble_eq_true rfl) rfl (cb_Owe_isPlayed X N h a0 r hr)
set_option maxRecDepth 20000 in
theorem cb_Owe_game (X : mu_X) (N : Nat) (h : mu_H) (a1 : Int32) (a2 : Int32) (a3 : Int32) (a4 : Int32) (a5 : Int32) (a6 : Int32) : aG X m_Owe_game (rmk 8) (fun _ => ax X) (fun _ _ _ => True) 0 0 (fun r : Int32 × mu_H => qI X r.1 r.2) (f_Owe_game N h a1 a2 a3 a4 a5 a6) 0 [(0, .ref (xa X 0)), (1, .int a1), (2, .int a2), (3, .int a3), (4, .int a4), (5, .int a5), (6, .int a6)] [] h := by
  unfold f_Owe_game
  refine ro_aload_n (pc := 0) 0 dX11_game_0 rfl rfl ?_
  refine gf_X11_8 (pc := 1) wd_352 dX11_game_1 ?_
  refine ro_iload_n (pc := 4) 1 dX11_game_4 rfl rfl ?_
  refine ro_iload_n (pc := 5) 2 dX11_game_5 rfl rfl ?_
  refine ro_iload_n (pc := 6) 3 dX11_game_6 rfl rfl ?_
  refine ro_cvP (pc := 7) (kc := 4) (avs := [.int a1, .int a2, .int a3]) (st := []) ok_Lab_canMeet wd_987 cl_22 cv_22 rfl ⟨by decide, by decide⟩ ⟨Nat.zero_le _, Nat.zero_le _⟩ (c_Lab_canMeet X N h a1 a2 a3) rfl rfl (Nat.le_of_ble_eq_true rfl) dX11_game_7 (fun x1 => ?_)
  refine ro_jn (pcj := 40) (lvs := fun (s : Unit) => []) (hs := fun (s : Unit) => h) (sts := fun (s : Unit) => []) (fun s => ?_) (fun j2 hj2 => ?_)
  · try dsimp only
    refine ro_ldcw (v := (-1000000)) (pc := 40) dX11_game_40 wd_996 ?_
    exact ro_iret (pc := 43) rfl rfl dX11_game_43
  · skip
    refine ro_if_eq (tgt := 40) (pc := 10) dX11_game_10 (by decide) (fun _ => ?_) (fun _ => ?_)
    · skip
      refine ro_lv [] rfl ?_
      exact hj2 ()
    · skip
      refine ro_iload (pc := 13) 4 dX11_game_13 rfl ?_
      refine ro_csP (pc := 15) (kc := 1) (avs := [.int a4]) (st := []) ok_Owe_isPlayed wd_993 ⟨by decide, by decide⟩ ⟨Nat.zero_le _, Nat.zero_le _⟩ (c_Owe_isPlayed X N h a4) rfl rfl (Nat.le_of_ble_eq_true rfl) dX11_game_15 (fun x3 => ?_)
      refine ro_if_eq (tgt := 40) (pc := 18) dX11_game_18 (by decide) (fun _ => ?_) (fun _ => ?_)
      · skip
        refine ro_lv [] rfl ?_
        exact hj2 ()
      · skip
        refine ro_iload (pc := 21) 5 dX11_game_21 rfl ?_
        refine ro_csP (pc := 23) (kc := 1) (avs := [.int a5]) (st := []) ok_Owe_isPlayed wd_993 ⟨by decide, by decide⟩ ⟨Nat.zero_le _, Nat.zero_le _⟩ (c_Owe_isPlayed X N h a5) rfl rfl (Nat.le_of_ble_eq_true rfl) dX11_game_23 (fun x4 => ?_)
        refine ro_if_eq (tgt := 40) (pc := 26) dX11_game_26 (by decide) (fun _ => ?_) (fun _ => ?_)
        · skip
          refine ro_lv [] rfl ?_
          exact hj2 ()
        · skip
          refine ro_iload (pc := 29) 6 dX11_game_29 rfl ?_
          refine ro_if_lt (tgt := 40) (pc := 31) dX11_game_31 (by decide) (fun _ => ?_) (fun _ => ?_)
          · skip
            refine ro_lv [] rfl ?_
            exact hj2 ()
          · skip
            refine ro_iload (pc := 34) 6 dX11_game_34 rfl ?_
            refine ro_iconst (v := 1) (pc := 36) dX11_game_36 (by decide) ?_
            refine ro_icmp_le (tgt := 44) (pc := 37) dX11_game_37 (by decide) (fun _ => ?_) (fun _ => ?_)
            · skip
              refine ro_aload_n (pc := 44) 0 dX11_game_44 rfl rfl ?_
              refine gf_X11_11 (pc := 45) wd_355 dX11_game_45 ?_
              refine ro_iload_n (pc := 48) 1 dX11_game_48 rfl rfl ?_
              refine ro_iload_n (pc := 49) 2 dX11_game_49 rfl rfl ?_
              refine ro_iload_n (pc := 50) 3 dX11_game_50 rfl rfl ?_
              refine ro_cvV (pc := 51) (kc := 7) (avs := [.int a1, .int a2, .int a3]) (st := []) ok_Out_setUpGame wd_997 cl_42 cv_42 rfl ⟨by decide, by decide⟩ ⟨Nat.zero_le _, Nat.zero_le _⟩ (c_Out_setUpGame X N h a1 a2 a3) rfl rfl (Nat.le_of_ble_eq_true rfl) dX11_game_51 (fun h5 => ?_)
              refine ro_iload (pc := 54) 6 dX11_game_54 rfl ?_
              refine ro_if_ne (tgt := 73) (pc := 56) dX11_game_56 (by decide) (fun _ => ?_) (fun _ => ?_)
              · skip
                refine ro_aload_n (pc := 73) 0 dX11_game_73 rfl rfl ?_
                refine gf_X11_11 (pc := 74) wd_355 dX11_game_74 ?_
                refine ro_iload (pc := 77) 4 dX11_game_77 rfl ?_
                refine ro_iload (pc := 79) 5 dX11_game_79 rfl ?_
                refine ro_cvP (pc := 81) (kc := 1) (avs := [.int a4, .int a5]) (st := []) ok_Out_others wd_1008 cl_42 cv_42 rfl ⟨by decide, by decide⟩ ⟨Nat.zero_le _, Nat.zero_le _⟩ (c_Out_others X N h5 a4 a5) rfl rfl (Nat.le_of_ble_eq_true rfl) dX11_game_81 (fun x6 => ?_)
                exact ro_iret (pc := 84) rfl rfl dX11_game_84
              · skip
                refine ro_aload_n (pc := 59) 0 dX11_game_59 rfl rfl ?_
                refine gf_X11_11 (pc := 60) wd_355 dX11_game_60 ?_
                refine ro_iload (pc := 63) 4 dX11_game_63 rfl ?_
                refine ro_iload (pc := 65) 5 dX11_game_65 rfl ?_
                refine ro_cvP (pc := 67) (kc := 1) (avs := [.int a4, .int a5]) (st := []) ok_Out_ones wd_1002 cl_42 cv_42 rfl ⟨by decide, by decide⟩ ⟨Nat.zero_le _, Nat.zero_le _⟩ (c_Out_ones X N h5 a4 a5) rfl rfl (Nat.le_of_ble_eq_true rfl) dX11_game_67 (fun x7 => ?_)
                refine ro_goto (tgt := 84) (pc := 70) dX11_game_70 (by decide) ?_
                exact ro_iret (pc := 84) rfl rfl dX11_game_84
            · skip
              refine ro_lv [] rfl ?_
              exact hj2 ()
theorem c_Owe_game (X : mu_X) (N : Nat) (h : mu_H) (a1 : Int32) (a2 : Int32) (a3 : Int32) (a4 : Int32) (a5 : Int32) (a6 : Int32) : ∀ r, f_Owe_game N h a1 a2 a3 a4 a5 a6 = some r → mI X m_Owe_game 8 [.ref (xa X 0), .int a1, .int a2, .int a3, .int a4, .int a5, .int a6] h r.1 r.2 := fun r hr => mI_of (by decide) rfl (Nat.le_of_ble_eq_true rfl) rfl (cb_Owe_game X N h a1 a2 a3 a4 a5 a6 r hr)
set_option maxRecDepth 20000 in
theorem cb_Owe_haul (X : mu_X) (N : Nat) (h : mu_H) (a1 : Int32) (a2 : Int32) : aG X m_Owe_haul (rmk 3) (fun _ => ax X) (fun _ _ _ => True) 0 0 (fun r : Int32 => qI X r h) (f_Owe_haul N h a1 a2) 0 [(0, .ref (xa X 0)), (1, .int a1), (2, .int a2)] [] h := by
  unfold f_Owe_haul
  refine ro_aload_n (pc := 0) 0 dX11_haul_0 rfl rfl ?_
  refine gf_X11_1 (pc := 1) wd_345 dX11_haul_1 ?_
  refine ro_iload_n (pc := 4) 1 dX11_haul_4 rfl rfl ?_
  refine ro_cvP (pc := 5) (kc := 1) (avs := [.int a1]) (st := []) ok_Par_hasHouse wd_671 cl_3 cv_3 rfl ⟨by decide, by decide⟩ ⟨Nat.zero_le _, Nat.zero_le _⟩ (c_Par_hasHouse X N h 3 isP_i3 a1) rfl rfl (Nat.le_of_ble_eq_true rfl) dX11_haul_5 (fun x1 => ?_)
  refine ro_if_eq (tgt := 22) (pc := 8) dX11_haul_8 (by decide) (fun _ => ?_) (fun _ => ?_)
  · skip
    refine ro_iconst (v := (-1)) (pc := 22) dX11_haul_22 (by decide) ?_
    exact ro_iret (pc := 23) rfl rfl dX11_haul_23
  · skip
    refine ro_aload_n (pc := 11) 0 dX11_haul_11 rfl rfl ?_
    refine gf_X11_1 (pc := 12) wd_345 dX11_haul_12 ?_
    refine ro_iload_n (pc := 15) 2 dX11_haul_15 rfl rfl ?_
    refine ro_cvP (pc := 16) (kc := 1) (avs := [.int a2]) (st := []) ok_Par_hasStretch wd_646 cl_3 cv_3 rfl ⟨by decide, by decide⟩ ⟨Nat.zero_le _, Nat.zero_le _⟩ (c_Par_hasStretch X N h 3 isP_i3 a2) rfl rfl (Nat.le_of_ble_eq_true rfl) dX11_haul_16 (fun x2 => ?_)
    refine ro_if_ne (tgt := 24) (pc := 19) dX11_haul_19 (by decide) (fun _ => ?_) (fun _ => ?_)
    · skip
      refine ro_aload_n (pc := 24) 0 dX11_haul_24 rfl rfl ?_
      refine gf_X11_1 (pc := 25) wd_345 dX11_haul_25 ?_
      refine ro_iload_n (pc := 28) 1 dX11_haul_28 rfl rfl ?_
      refine ro_iload_n (pc := 29) 2 dX11_haul_29 rfl rfl ?_
      refine ro_cvP (pc := 30) (kc := 2) (avs := [.int a1, .int a2]) (st := []) ok_Par_stepsTo wd_675 cl_3 cv_3 rfl ⟨by decide, by decide⟩ ⟨Nat.zero_le _, Nat.zero_le _⟩ (c_Par_stepsTo X N h 3 isP_i3 a1 a2) rfl rfl (Nat.le_of_ble_eq_true rfl) dX11_haul_30 (fun x3 => ?_)
      exact ro_iret (pc := 33) rfl rfl dX11_haul_33
    · skip
      refine ro_iconst (v := (-1)) (pc := 22) dX11_haul_22 (by decide) ?_
      exact ro_iret (pc := 23) rfl rfl dX11_haul_23
theorem c_Owe_haul (X : mu_X) (N : Nat) (h : mu_H) (a1 : Int32) (a2 : Int32) : ∀ r, f_Owe_haul N h a1 a2 = some r → mI X m_Owe_haul 3 [.ref (xa X 0), .int a1, .int a2] h r h := fun r hr => mI_of (by decide) rfl (Nat.le_of_ble_eq_true rfl) rfl (cb_Owe_haul X N h a1 a2 r hr)
set_option maxRecDepth 20000 in
theorem cb_Owe_honest (X : mu_X) (N : Nat) (h : mu_H) (a1 : Int32) : aG X m_Owe_honest (rmk 4) (fun _ => ax X) (fun _ _ _ => True) 0 0 (fun r : Int32 => qI X r h) (f_Owe_honest N h a1) 0 [(0, .ref (xa X 0)), (1, .int a1)] [] h := by
  unfold f_Owe_honest
  refine ro_aload_n (pc := 0) 0 dX11_honest_0 rfl rfl ?_
  refine gf_X11_10 (pc := 1) wd_354 dX11_honest_1 ?_
  refine ro_iload_n (pc := 4) 1 dX11_honest_4 rfl rfl ?_
  refine ro_cvP (pc := 5) (kc := 2) (avs := [.int a1]) (st := []) ok_Sig_canAsk wd_1071 cl_39 cv_39 rfl ⟨by decide, by decide⟩ ⟨Nat.zero_le _, Nat.zero_le _⟩ (c_Sig_canAsk X N h a1) rfl rfl (Nat.le_of_ble_eq_true rfl) dX11_honest_5 (fun x1 => ?_)
  refine ro_if_eq (tgt := 22) (pc := 8) dX11_honest_8 (by decide) (fun _ => ?_) (fun _ => ?_)
  · skip
    refine ro_iconst (v := (-1)) (pc := 22) dX11_honest_22 (by decide) ?_
    exact ro_iret (pc := 23) rfl rfl dX11_honest_23
  · skip
    refine ro_aload_n (pc := 11) 0 dX11_honest_11 rfl rfl ?_
    refine gf_X11_10 (pc := 12) wd_354 dX11_honest_12 ?_
    refine ro_iload_n (pc := 15) 1 dX11_honest_15 rfl rfl ?_
    refine ro_cvP (pc := 16) (kc := 3) (avs := [.int a1]) (st := []) ok_Sig_fitting wd_1076 cl_39 cv_39 rfl ⟨by decide, by decide⟩ ⟨Nat.zero_le _, Nat.zero_le _⟩ (c_Sig_fitting X N h a1) rfl rfl (Nat.le_of_ble_eq_true rfl) dX11_honest_16 (fun x2 => ?_)
    refine ro_if_ne (tgt := 24) (pc := 19) dX11_honest_19 (by decide) (fun _ => ?_) (fun _ => ?_)
    · skip
      refine ro_aload_n (pc := 24) 0 dX11_honest_24 rfl rfl ?_
      refine gf_X11_10 (pc := 25) wd_354 dX11_honest_25 ?_
      refine ro_iload_n (pc := 28) 1 dX11_honest_28 rfl rfl ?_
      refine ro_cvP (pc := 29) (kc := 3) (avs := [.int a1]) (st := []) ok_Sig_inNone wd_1098 cl_39 cv_39 rfl ⟨by decide, by decide⟩ ⟨Nat.zero_le _, Nat.zero_le _⟩ (c_Sig_inNone X N h a1) rfl rfl (Nat.le_of_ble_eq_true rfl) dX11_honest_29 (fun x3 => ?_)
      exact ro_iret (pc := 32) rfl rfl dX11_honest_32
    · skip
      refine ro_iconst (v := (-1)) (pc := 22) dX11_honest_22 (by decide) ?_
      exact ro_iret (pc := 23) rfl rfl dX11_honest_23
theorem c_Owe_honest (X : mu_X) (N : Nat) (h : mu_H) (a1 : Int32) : ∀ r, f_Owe_honest N h a1 = some r → mI X m_Owe_honest 4 [.ref (xa X 0), .int a1] h r h := fun r hr => mI_of (by decide) rfl (Nat.le_of_ble_eq_true rfl) rfl (cb_Owe_honest X N h a1 r hr)
set_option maxRecDepth 20000 in
theorem cb_Owe_image (X : mu_X) (N : Nat) (h : mu_H) : aG X m_Owe_image (rmk 2) (fun _ => ax X) (fun _ _ _ => True) 0 0 (fun r : Int32 × mu_H => qI X r.1 r.2) (f_Owe_image N h) 0 [(0, .ref (xa X 0))] [] h := by
  unfold f_Owe_image
  refine ro_aload_n (pc := 0) 0 dX11_image_0 rfl rfl ?_
  refine gf_X11_1 (pc := 1) wd_345 dX11_image_1 ?_
  refine ro_cvP (pc := 4) (kc := 1) (avs := []) (st := []) ok_Par_isNone wd_637 cl_3 cv_3 rfl ⟨by decide, by decide⟩ ⟨Nat.zero_le _, Nat.zero_le _⟩ (c_Par_isNone X N h 3 isP_i3) rfl rfl (Nat.le_of_ble_eq_true rfl) dX11_image_4 (fun x1 => ?_)
  refine ro_if_eq (tgt := 12) (pc := 7) dX11_image_7 (by decide) (fun _ => ?_) (fun _ => ?_)
  · skip
    refine ro_aload_n (pc := 12) 0 dX11_image_12 rfl rfl ?_
    refine gf_X11_5 (pc := 13) wd_349 dX11_image_13 ?_
    refine ro_aload_n (pc := 16) 0 dX11_image_16 rfl rfl ?_
    refine gf_X11_4 (pc := 17) wd_348 dX11_image_17 ?_
    refine ro_cvV (pc := 20) (kc := 1) (avs := [.ref (xa X 14)]) (st := []) ok_Sta_takeAll wd_1205 cl_17 cv_17 rfl ⟨by decide, by decide⟩ ⟨Nat.zero_le _, Nat.zero_le _⟩ (c_Sta_takeAll X N h 17 isT_i17 14 isT_i14) rfl rfl (Nat.le_of_ble_eq_true rfl) dX11_image_20 (fun h2 => ?_)
    refine ro_aload_n (pc := 23) 0 dX11_image_23 rfl rfl ?_
    refine ro_iconst (v := 1) (pc := 24) dX11_image_24 (by decide) ?_
    refine pf_X11_6 (pc := 25) rfl rfl wd_350 dX11_image_25 ?_
    refine ro_bnh (fun h3 => ?_)
    refine ro_aload_n (pc := 28) 0 dX11_image_28 rfl rfl ?_
    refine gf_X11_4 (pc := 29) wd_348 dX11_image_29 ?_
    refine ro_cvP (pc := 32) (kc := 1) (avs := []) (st := []) ok_Sta_season wd_805 cl_14 cv_14 rfl ⟨by decide, by decide⟩ ⟨Nat.zero_le _, Nat.zero_le _⟩ (c_Sta_season X N h3 14 isT_i14) rfl rfl (Nat.le_of_ble_eq_true rfl) dX11_image_32 (fun x4 => ?_)
    exact ro_iret (pc := 35) rfl rfl dX11_image_35
  · skip
    refine ro_iconst (v := (-1)) (pc := 10) dX11_image_10 (by decide) ?_
    exact ro_iret (pc := 11) rfl rfl dX11_image_11
theorem c_Owe_image (X : mu_X) (N : Nat) (h : mu_H) : ∀ r, f_Owe_image N h = some r → mI X m_Owe_image 2 [.ref (xa X 0)] h r.1 r.2 := fun r hr => mI_of (by decide) rfl (Nat.le_of_ble_eq_true rfl) rfl (cb_Owe_image X N h r hr)
set_option maxRecDepth 20000 in
theorem cb_Owe_law (X : mu_X) (N : Nat) (h : mu_H) (a1 : Int32) : aG X m_Owe_law (rmk 2) (fun _ => ax X) (fun _ _ _ => True) 0 0 (fun r : Int32 × mu_H => qI X r.1 r.2) (f_Owe_law N h a1) 0 [(0, .ref (xa X 0)), (1, .int a1)] [] h := by
  unfold f_Owe_law
  refine ro_aload_n (pc := 0) 0 dX11_law_0 rfl rfl ?_
  refine gf_X11_8 (pc := 1) wd_352 dX11_law_1 ?_
  refine ro_iload_n (pc := 4) 1 dX11_law_4 rfl rfl ?_
  refine ro_cvI (pc := 5) (kc := 1) (avs := [.int a1]) (st := []) ok_Lab_holdTo wd_663 cl_22 cv_22 rfl ⟨by decide, by decide⟩ ⟨Nat.zero_le _, Nat.zero_le _⟩ (c_Lab_holdTo X N h a1) rfl rfl (Nat.le_of_ble_eq_true rfl) dX11_law_5 (fun x1 h2 => ?_)
  exact ro_zretg (pc := 8) rfl rfl dX11_law_8
theorem c_Owe_law (X : mu_X) (N : Nat) (h : mu_H) (a1 : Int32) : ∀ r, f_Owe_law N h a1 = some r → mI X m_Owe_law 2 [.ref (xa X 0), .int a1] h r.1 r.2 := fun r hr => mI_of (by decide) rfl (Nat.le_of_ble_eq_true rfl) rfl (cb_Owe_law X N h a1 r hr)
set_option maxRecDepth 20000 in
theorem cb_Owe_least (X : mu_X) (N : Nat) (h : mu_H) (a1 : Int32) (a2 : Int32) (a3 : Int32) : aG X m_Owe_least (rmk 13) (fun _ => ax X) (fun _ _ _ => True) 0 0 (fun r : Int32 × mu_H => qI X r.1 r.2) (f_Owe_least N h a1 a2 a3) 0 [(0, .ref (xa X 0)), (1, .int a1), (2, .int a2), (3, .int a3)] [] h := by
  unfold f_Owe_least
  refine ro_aload_n (pc := 0) 0 dX11_least_0 rfl rfl ?_
  refine gf_X11_1 (pc := 1) wd_345 dX11_least_1 ?_
  refine ro_iload_n (pc := 4) 1 dX11_least_4 rfl rfl ?_
  refine ro_cvP (pc := 5) (kc := 1) (avs := [.int a1]) (st := []) ok_Par_hasStretch wd_646 cl_3 cv_3 rfl ⟨by decide, by decide⟩ ⟨Nat.zero_le _, Nat.zero_le _⟩ (c_Par_hasStretch X N h 3 isP_i3 a1) rfl rfl (Nat.le_of_ble_eq_true rfl) dX11_least_5 (fun x1 => ?_)
  refine ro_if_eq (tgt := 30) (pc := 8) dX11_least_8 (by decide) (fun _ => ?_) (fun _ => ?_)
  · skip
    refine ro_iconst (v := (-1)) (pc := 30) dX11_least_30 (by decide) ?_
    exact ro_iret (pc := 31) rfl rfl dX11_least_31
  · skip
    refine ro_iload_n (pc := 11) 2 dX11_least_11 rfl rfl ?_
    refine ro_if_lt (tgt := 30) (pc := 12) dX11_least_12 (by decide) (fun _ => ?_) (fun _ => ?_)
    · skip
      refine ro_iconst (v := (-1)) (pc := 30) dX11_least_30 (by decide) ?_
      exact ro_iret (pc := 31) rfl rfl dX11_least_31
    · skip
      refine ro_iload_n (pc := 15) 2 dX11_least_15 rfl rfl ?_
      refine ro_bipush (v := 99) (pc := 16) dX11_least_16 (by decide) ?_
      refine ro_icmp_gt (tgt := 30) (pc := 18) dX11_least_18 (by decide) (fun _ => ?_) (fun _ => ?_)
      · skip
        refine ro_iconst (v := (-1)) (pc := 30) dX11_least_30 (by decide) ?_
        exact ro_iret (pc := 31) rfl rfl dX11_least_31
      · skip
        refine ro_iload_n (pc := 21) 3 dX11_least_21 rfl rfl ?_
        refine ro_if_lt (tgt := 30) (pc := 22) dX11_least_22 (by decide) (fun _ => ?_) (fun _ => ?_)
        · skip
          refine ro_iconst (v := (-1)) (pc := 30) dX11_least_30 (by decide) ?_
          exact ro_iret (pc := 31) rfl rfl dX11_least_31
        · skip
          refine ro_iload_n (pc := 25) 3 dX11_least_25 rfl rfl ?_
          refine ro_iconst (v := 1) (pc := 26) dX11_least_26 (by decide) ?_
          refine ro_icmp_le (tgt := 32) (pc := 27) dX11_least_27 (by decide) (fun _ => ?_) (fun _ => ?_)
          · skip
            refine ro_aload_n (pc := 32) 0 dX11_least_32 rfl rfl ?_
            refine gf_X11_11 (pc := 33) wd_355 dX11_least_33 ?_
            refine ro_iload_n (pc := 36) 1 dX11_least_36 rfl rfl ?_
            refine ro_iload_n (pc := 37) 2 dX11_least_37 rfl rfl ?_
            refine ro_cvI (pc := 38) (kc := 12) (avs := [.int a1, .int a2]) (st := []) ok_Out_fewestDays wd_903 cl_42 cv_42 rfl ⟨by decide, by decide⟩ ⟨Nat.zero_le _, Nat.zero_le _⟩ (c_Out_fewestDays X N h a1 a2) rfl rfl (Nat.le_of_ble_eq_true rfl) dX11_least_38 (fun x2 h3 => ?_)
            refine ro_istore (pc := 41) (lv' := [(4, .int x2), (0, .ref (xa X 0)), (1, .int a1), (2, .int a2), (3, .int a3)]) dX11_least_41 (by decide) rfl ?_
            refine ro_iload (pc := 43) 0 dX11_least_43 rfl ?_
            refine ro_iconst (v := (-1)) (pc := 45) dX11_least_45 (by decide) ?_
            refine ro_icmp_ne (tgt := 51) (pc := 46) dX11_least_46 (by decide) (fun _ => ?_) (fun _ => ?_)
            · skip
              refine ro_iload_n (pc := 51) 4 dX11_least_51 rfl rfl ?_
              refine ro_if_ne (tgt := 63) (pc := 52) dX11_least_52 (by decide) (fun _ => ?_) (fun _ => ?_)
              · skip
                refine ro_iload (pc := 63) 0 dX11_least_63 rfl ?_
                refine ro_ldc (v := 1000000) (pc := 65) dX11_least_65 wd_932 ?_
                refine ro_irem (pc := 67) dX11_least_67 (by decide) ?_
                exact ro_iret (pc := 68) rfl rfl dX11_least_68
              · skip
                refine ro_iload (pc := 55) 0 dX11_least_55 rfl ?_
                refine ro_ldc (v := 1000000) (pc := 57) dX11_least_57 wd_932 ?_
                refine ro_idiv (pc := 59) dX11_least_59 (by decide) ?_
                refine ro_goto (tgt := 68) (pc := 60) dX11_least_60 (by decide) ?_
                exact ro_iret (pc := 68) rfl rfl dX11_least_68
            · skip
              refine ro_iconst (v := (-1)) (pc := 49) dX11_least_49 (by decide) ?_
              exact ro_iret (pc := 50) rfl rfl dX11_least_50
          · skip
            refine ro_iconst (v := (-1)) (pc := 30) dX11_least_30 (by decide) ?_
            exact ro_iret (pc := 31) rfl rfl dX11_least_31
theorem c_Owe_least (X : mu_X) (N : Nat) (h : mu_H) (a1 : Int32) (a2 : Int32) (a3 : Int32) : ∀ r, f_Owe_least N h a1 a2 a3 = some r → mI X m_Owe_least 13 [.ref (xa X 0), .int a1, .int a2, .int a3] h r.1 r.2 := fun r hr => mI_of (by decide) rfl (Nat.le_of_ble_eq_true rfl) rfl (cb_Owe_least X N h a1 a2 a3 r hr)
set_option maxRecDepth 20000 in
theorem cb_Owe_log (X : mu_X) (N : Nat) (h : mu_H) (a1 : Int32) (a2 : Int32) : aG X m_Owe_log (rmk 3) (fun _ => ax X) (fun _ _ _ => True) 0 0 (fun r : Int32 => qI X r h) (f_Owe_log N h a1 a2) 0 [(0, .ref (xa X 0)), (1, .int a1), (2, .int a2)] [] h := by
  unfold f_Owe_log
  refine ro_aload_n (pc := 0) 0 dX11_log_0 rfl rfl ?_
  refine gf_X11_4 (pc := 1) wd_348 dX11_log_1 ?_
  refine ro_iload_n (pc := 4) 1 dX11_log_4 rfl rfl ?_
  refine ro_iload_n (pc := 5) 2 dX11_log_5 rfl rfl ?_
  refine ro_cvP (pc := 6) (kc := 2) (avs := [.int a1, .int a2]) (st := []) ok_Sta_logged wd_891 cl_14 cv_14 rfl ⟨by decide, by decide⟩ ⟨Nat.zero_le _, Nat.zero_le _⟩ (c_Sta_logged X N h 14 isT_i14 a1 a2) rfl rfl (Nat.le_of_ble_eq_true rfl) dX11_log_6 (fun x1 => ?_)
  exact ro_iret (pc := 9) rfl rfl dX11_log_9
theorem c_Owe_log (X : mu_X) (N : Nat) (h : mu_H) (a1 : Int32) (a2 : Int32) : ∀ r, f_Owe_log N h a1 a2 = some r → mI X m_Owe_log 3 [.ref (xa X 0), .int a1, .int a2] h r h := fun r hr => mI_of (by decide) rfl (Nat.le_of_ble_eq_true rfl) rfl (cb_Owe_log X N h a1 a2 r hr)
set_option maxRecDepth 20000 in
theorem cb_Owe_neighbours (X : mu_X) (N : Nat) (h : mu_H) (a1 : Int32) : aG X m_Owe_neighbours (rmk 4) (fun _ => ax X) (fun _ _ _ => True) 0 0 (fun r : Int32 => qI X r h) (f_Owe_neighbours N h a1) 0 [(0, .ref (xa X 0)), (1, .int a1)] [] h := by
  unfold f_Owe_neighbours
  refine ro_aload_n (pc := 0) 0 dX11_neighbours_0 rfl rfl ?_
  refine gf_X11_1 (pc := 1) wd_345 dX11_neighbours_1 ?_
  refine ro_iload_n (pc := 4) 1 dX11_neighbours_4 rfl rfl ?_
  refine ro_cvP (pc := 5) (kc := 1) (avs := [.int a1]) (st := []) ok_Par_hasStretch wd_646 cl_3 cv_3 rfl ⟨by decide, by decide⟩ ⟨Nat.zero_le _, Nat.zero_le _⟩ (c_Par_hasStretch X N h 3 isP_i3 a1) rfl rfl (Nat.le_of_ble_eq_true rfl) dX11_neighbours_5 (fun x1 => ?_)
  refine ro_if_eq (tgt := 22) (pc := 8) dX11_neighbours_8 (by decide) (fun _ => ?_) (fun _ => ?_)
  · skip
    refine ro_iconst (v := (-1)) (pc := 22) dX11_neighbours_22 (by decide) ?_
    exact ro_iret (pc := 23) rfl rfl dX11_neighbours_23
  · skip
    refine ro_aload_n (pc := 11) 0 dX11_neighbours_11 rfl rfl ?_
    refine gf_X11_9 (pc := 12) wd_353 dX11_neighbours_12 ?_
    refine ro_iload_n (pc := 15) 1 dX11_neighbours_15 rfl rfl ?_
    refine ro_cvP (pc := 16) (kc := 3) (avs := [.int a1]) (st := []) ok_Roa_touching wd_1197 cl_37 cv_37 rfl ⟨by decide, by decide⟩ ⟨Nat.zero_le _, Nat.zero_le _⟩ (c_Roa_touching X N h a1) rfl rfl (Nat.le_of_ble_eq_true rfl) dX11_neighbours_16 (fun x2 => ?_)
    refine ro_goto (tgt := 23) (pc := 19) dX11_neighbours_19 (by decide) ?_
    exact ro_iret (pc := 23) rfl rfl dX11_neighbours_23
theorem c_Owe_neighbours (X : mu_X) (N : Nat) (h : mu_H) (a1 : Int32) : ∀ r, f_Owe_neighbours N h a1 = some r → mI X m_Owe_neighbours 4 [.ref (xa X 0), .int a1] h r h := fun r hr => mI_of (by decide) rfl (Nat.le_of_ble_eq_true rfl) rfl (cb_Owe_neighbours X N h a1 r hr)
set_option maxRecDepth 20000 in
theorem cb_Owe_odds (X : mu_X) (N : Nat) (h : mu_H) (a1 : Int32) (a2 : Int32) (a3 : Int32) : aG X m_Owe_odds (rmk 5) (fun _ => ax X) (fun _ _ _ => True) 0 0 (fun r : Int32 × mu_H => qI X r.1 r.2) (f_Owe_odds N h a1 a2 a3) 0 [(0, .ref (xa X 0)), (1, .int a1), (2, .int a2), (3, .int a3)] [] h := by
  unfold f_Owe_odds
  refine ro_aload_n (pc := 0) 0 dX11_odds_0 rfl rfl ?_
  refine gf_X11_1 (pc := 1) wd_345 dX11_odds_1 ?_
  refine ro_iload_n (pc := 4) 1 dX11_odds_4 rfl rfl ?_
  refine ro_cvP (pc := 5) (kc := 1) (avs := [.int a1]) (st := []) ok_Par_hasStretch wd_646 cl_3 cv_3 rfl ⟨by decide, by decide⟩ ⟨Nat.zero_le _, Nat.zero_le _⟩ (c_Par_hasStretch X N h 3 isP_i3 a1) rfl rfl (Nat.le_of_ble_eq_true rfl) dX11_odds_5 (fun x1 => ?_)
  refine ro_if_eq (tgt := 31) (pc := 8) dX11_odds_8 (by decide) (fun _ => ?_) (fun _ => ?_)
  · skip
    refine ro_iconst (v := (-1)) (pc := 31) dX11_odds_31 (by decide) ?_
    exact ro_iret (pc := 32) rfl rfl dX11_odds_32
  · skip
    refine ro_iload_n (pc := 11) 2 dX11_odds_11 rfl rfl ?_
    refine ro_if_lt (tgt := 31) (pc := 12) dX11_odds_12 (by decide) (fun _ => ?_) (fun _ => ?_)
    · skip
      refine ro_iconst (v := (-1)) (pc := 31) dX11_odds_31 (by decide) ?_
      exact ro_iret (pc := 32) rfl rfl dX11_odds_32
    · skip
      refine ro_iload_n (pc := 15) 2 dX11_odds_15 rfl rfl ?_
      refine ro_bipush (v := 40) (pc := 16) dX11_odds_16 (by decide) ?_
      refine ro_icmp_gt (tgt := 31) (pc := 18) dX11_odds_18 (by decide) (fun _ => ?_) (fun _ => ?_)
      · skip
        refine ro_iconst (v := (-1)) (pc := 31) dX11_odds_31 (by decide) ?_
        exact ro_iret (pc := 32) rfl rfl dX11_odds_32
      · skip
        refine ro_iload_n (pc := 21) 3 dX11_odds_21 rfl rfl ?_
        refine ro_if_lt (tgt := 31) (pc := 22) dX11_odds_22 (by decide) (fun _ => ?_) (fun _ => ?_)
        · skip
          refine ro_iconst (v := (-1)) (pc := 31) dX11_odds_31 (by decide) ?_
          exact ro_iret (pc := 32) rfl rfl dX11_odds_32
        · skip
          refine ro_iload_n (pc := 25) 3 dX11_odds_25 rfl rfl ?_
          refine ro_bipush (v := 100) (pc := 26) dX11_odds_26 (by decide) ?_
          refine ro_icmp_le (tgt := 33) (pc := 28) dX11_odds_28 (by decide) (fun _ => ?_) (fun _ => ?_)
          · skip
            refine ro_aload_n (pc := 33) 0 dX11_odds_33 rfl rfl ?_
            refine gf_X11_11 (pc := 34) wd_355 dX11_odds_34 ?_
            refine ro_iload_n (pc := 37) 1 dX11_odds_37 rfl rfl ?_
            refine ro_iload_n (pc := 38) 2 dX11_odds_38 rfl rfl ?_
            refine ro_iload_n (pc := 39) 3 dX11_odds_39 rfl rfl ?_
            refine ro_cvI (pc := 40) (kc := 4) (avs := [.int a1, .int a2, .int a3]) (st := []) ok_Out_badParts wd_1146 cl_42 cv_42 rfl ⟨by decide, by decide⟩ ⟨Nat.zero_le _, Nat.zero_le _⟩ (c_Out_badParts X N h a1 a2 a3) rfl rfl (Nat.le_of_ble_eq_true rfl) dX11_odds_40 (fun x2 h3 => ?_)
            exact ro_iret (pc := 43) rfl rfl dX11_odds_43
          · skip
            refine ro_iconst (v := (-1)) (pc := 31) dX11_odds_31 (by decide) ?_
            exact ro_iret (pc := 32) rfl rfl dX11_odds_32
theorem c_Owe_odds (X : mu_X) (N : Nat) (h : mu_H) (a1 : Int32) (a2 : Int32) (a3 : Int32) : ∀ r, f_Owe_odds N h a1 a2 a3 = some r → mI X m_Owe_odds 5 [.ref (xa X 0), .int a1, .int a2, .int a3] h r.1 r.2 := fun r hr => mI_of (by decide) rfl (Nat.le_of_ble_eq_true rfl) rfl (cb_Owe_odds X N h a1 a2 a3 r hr)
set_option maxRecDepth 20000 in
theorem cb_Owe_pay (X : mu_X) (N : Nat) (h : mu_H) (a1 : Int32) (a2 : Int32) : aG X m_Owe_pay (rmk 3) (fun _ => ax X) (fun _ _ _ => True) 0 0 (fun r : Int32 × mu_H => qI X r.1 r.2) (f_Owe_pay N h a1 a2) 0 [(0, .ref (xa X 0)), (1, .int a1), (2, .int a2)] [] h := by
  unfold f_Owe_pay
  refine ro_aload_n (pc := 0) 0 dX11_pay_0 rfl rfl ?_
  refine gf_X11_1 (pc := 1) wd_345 dX11_pay_1 ?_
  refine ro_iload_n (pc := 4) 1 dX11_pay_4 rfl rfl ?_
  refine ro_cvP (pc := 5) (kc := 1) (avs := [.int a1]) (st := []) ok_Par_hasHouse wd_671 cl_3 cv_3 rfl ⟨by decide, by decide⟩ ⟨Nat.zero_le _, Nat.zero_le _⟩ (c_Par_hasHouse X N h 3 isP_i3 a1) rfl rfl (Nat.le_of_ble_eq_true rfl) dX11_pay_5 (fun x1 => ?_)
  refine ro_if_ne (tgt := 17) (pc := 8) dX11_pay_8 (by decide) (fun _ => ?_) (fun _ => ?_)
  · skip
    refine ro_iload_n (pc := 17) 2 dX11_pay_17 rfl rfl ?_
    refine ro_iconst (v := 1) (pc := 18) dX11_pay_18 (by decide) ?_
    refine ro_jn (pcj := 28) (lvs := fun (s : Unit) => [(0, .ref (xa X 0))]) (hs := fun (s : Unit) => h) (sts := fun (s : Unit) => []) (fun s => ?_) (fun j2 hj2 => ?_)
    · try dsimp only
      refine ro_aload_n (pc := 28) 0 dX11_pay_28 rfl rfl ?_
      refine ro_iconst (v := 1) (pc := 29) dX11_pay_29 (by decide) ?_
      refine ro_cvI (pc := 30) (kc := 1) (avs := [.int 1]) (st := []) ok_Owe_refuse wd_732 cl_0 cv_0 rfl ⟨by decide, by decide⟩ ⟨Nat.zero_le _, Nat.zero_le _⟩ (c_Owe_refuse X N h 1) rfl rfl (Nat.le_of_ble_eq_true rfl) dX11_pay_30 (fun x3 h4 => ?_)
      exact ro_iret (pc := 33) rfl rfl dX11_pay_33
    · skip
      refine ro_icmp_lt (tgt := 28) (pc := 19) dX11_pay_19 (by decide) (fun _ => ?_) (fun _ => ?_)
      · skip
        refine ro_lv [0] rfl ?_
        exact hj2 ()
      · skip
        refine ro_iload_n (pc := 22) 2 dX11_pay_22 rfl rfl ?_
        refine ro_bipush (v := 9) (pc := 23) dX11_pay_23 (by decide) ?_
        refine ro_icmp_le (tgt := 34) (pc := 25) dX11_pay_25 (by decide) (fun _ => ?_) (fun _ => ?_)
        · skip
          refine ro_aload_n (pc := 34) 0 dX11_pay_34 rfl rfl ?_
          refine gf_X11_4 (pc := 35) wd_348 dX11_pay_35 ?_
          refine ro_iload_n (pc := 38) 1 dX11_pay_38 rfl rfl ?_
          refine ro_cvP (pc := 39) (kc := 1) (avs := [.int a1]) (st := []) ok_Sta_owed wd_736 cl_14 cv_14 rfl ⟨by decide, by decide⟩ ⟨Nat.zero_le _, Nat.zero_le _⟩ (c_Sta_owed X N h 14 isT_i14 a1) rfl rfl (Nat.le_of_ble_eq_true rfl) dX11_pay_39 (fun x6 => ?_)
          refine ro_iload_n (pc := 42) 2 dX11_pay_42 rfl rfl ?_
          refine ro_icmp_ge (tgt := 52) (pc := 43) dX11_pay_43 (by decide) (fun _ => ?_) (fun _ => ?_)
          · skip
            refine ro_aload_n (pc := 52) 0 dX11_pay_52 rfl rfl ?_
            refine gf_X11_7 (pc := 53) wd_351 dX11_pay_53 ?_
            refine ro_aload_n (pc := 56) 0 dX11_pay_56 rfl rfl ?_
            refine gf_X11_4 (pc := 57) wd_348 dX11_pay_57 ?_
            refine ro_cvV (pc := 60) (kc := 2) (avs := [.ref (xa X 14)]) (st := []) ok_Pas_keep wd_740 cl_20 cv_20 rfl ⟨by decide, by decide⟩ ⟨Nat.zero_le _, Nat.zero_le _⟩ (c_Pas_keep X N h 14 isT_i14) rfl rfl (Nat.le_of_ble_eq_true rfl) dX11_pay_60 (fun h7 => ?_)
            refine ro_aload_n (pc := 63) 0 dX11_pay_63 rfl rfl ?_
            refine gf_X11_4 (pc := 64) wd_348 dX11_pay_64 ?_
            refine ro_iload_n (pc := 67) 1 dX11_pay_67 rfl rfl ?_
            refine ro_aload_n (pc := 68) 0 dX11_pay_68 rfl rfl ?_
            refine gf_X11_4 (pc := 69) wd_348 dX11_pay_69 ?_
            refine ro_iload_n (pc := 72) 1 dX11_pay_72 rfl rfl ?_
            refine ro_cvP (pc := 73) (kc := 1) (avs := [.int a1]) (st := [.int a1, .ref (xa X 14)]) ok_Sta_owed wd_736 cl_14 cv_14 rfl ⟨by decide, by decide⟩ ⟨Nat.zero_le _, Nat.zero_le _⟩ (c_Sta_owed X N h7 14 isT_i14 a1) rfl rfl (Nat.le_of_ble_eq_true rfl) dX11_pay_73 (fun x8 => ?_)
            refine ro_iload_n (pc := 76) 2 dX11_pay_76 rfl rfl ?_
            refine ro_isub (pc := 77) dX11_pay_77 ?_
            refine ro_cvV (pc := 78) (kc := 1) (avs := [.int a1, .int (x8 - a2)]) (st := []) ok_Sta_setOwed wd_777 cl_14 cv_14 rfl ⟨by decide, by decide⟩ ⟨Nat.zero_le _, Nat.zero_le _⟩ (c_Sta_setOwed X N h7 14 isT_i14 a1 (x8 - a2)) rfl rfl (Nat.le_of_ble_eq_true rfl) dX11_pay_78 (fun h9 => ?_)
            refine ro_aload_n (pc := 81) 0 dX11_pay_81 rfl rfl ?_
            refine gf_X11_4 (pc := 82) wd_348 dX11_pay_82 ?_
            refine ro_iload_n (pc := 85) 2 dX11_pay_85 rfl rfl ?_
            refine ro_aload_n (pc := 86) 0 dX11_pay_86 rfl rfl ?_
            refine gf_X11_1 (pc := 87) wd_345 dX11_pay_87 ?_
            refine ro_iconst (v := 2) (pc := 90) dX11_pay_90 (by decide) ?_
            refine ro_cvP (pc := 91) (kc := 1) (avs := [.int 2]) (st := [.int a2, .ref (xa X 14)]) ok_Par_ofRules wd_641 cl_3 cv_3 rfl ⟨by decide, by decide⟩ ⟨Nat.zero_le _, Nat.zero_le _⟩ (c_Par_ofRules X N h9 3 isP_i3 2) rfl rfl (Nat.le_of_ble_eq_true rfl) dX11_pay_91 (fun x10 => ?_)
            refine ro_imul (pc := 94) dX11_pay_94 ?_
            refine ro_cvV (pc := 95) (kc := 1) (avs := [.int (a2 * x10)]) (st := []) ok_Sta_addToBox wd_778 cl_14 cv_14 rfl ⟨by decide, by decide⟩ ⟨Nat.zero_le _, Nat.zero_le _⟩ (c_Sta_addToBox X N h9 14 isT_i14 (a2 * x10)) rfl rfl (Nat.le_of_ble_eq_true rfl) dX11_pay_95 (fun h11 => ?_)
            refine ro_aload_n (pc := 98) 0 dX11_pay_98 rfl rfl ?_
            refine gf_X11_4 (pc := 99) wd_348 dX11_pay_99 ?_
            refine ro_cvP (pc := 102) (kc := 1) (avs := []) (st := []) ok_Sta_box wd_779 cl_14 cv_14 rfl ⟨by decide, by decide⟩ ⟨Nat.zero_le _, Nat.zero_le _⟩ (c_Sta_box X N h11 14 isT_i14) rfl rfl (Nat.le_of_ble_eq_true rfl) dX11_pay_102 (fun x12 => ?_)
            exact ro_iret (pc := 105) rfl rfl dX11_pay_105
          · skip
            refine ro_aload_n (pc := 46) 0 dX11_pay_46 rfl rfl ?_
            refine ro_iconst (v := 2) (pc := 47) dX11_pay_47 (by decide) ?_
            refine ro_cvI (pc := 48) (kc := 1) (avs := [.int 2]) (st := []) ok_Owe_refuse wd_732 cl_0 cv_0 rfl ⟨by decide, by decide⟩ ⟨Nat.zero_le _, Nat.zero_le _⟩ (c_Owe_refuse X N h 2) rfl rfl (Nat.le_of_ble_eq_true rfl) dX11_pay_48 (fun x13 h14 => ?_)
            exact ro_iret (pc := 51) rfl rfl dX11_pay_51
        · skip
          refine ro_lv [0] rfl ?_
          exact hj2 ()
  · skip
    refine ro_aload_n (pc := 11) 0 dX11_pay_11 rfl rfl ?_
    refine ro_iconst (v := 0) (pc := 12) dX11_pay_12 (by decide) ?_
    refine ro_cvI (pc := 13) (kc := 1) (avs := [.int 0]) (st := []) ok_Owe_refuse wd_732 cl_0 cv_0 rfl ⟨by decide, by decide⟩ ⟨Nat.zero_le _, Nat.zero_le _⟩ (c_Owe_refuse X N h 0) rfl rfl (Nat.le_of_ble_eq_true rfl) dX11_pay_13 (fun x16 h17 => ?_)
    exact ro_iret (pc := 16) rfl rfl dX11_pay_16
theorem c_Owe_pay (X : mu_X) (N : Nat) (h : mu_H) (a1 : Int32) (a2 : Int32) : ∀ r, f_Owe_pay N h a1 a2 = some r → mI X m_Owe_pay 3 [.ref (xa X 0), .int a1, .int a2] h r.1 r.2 := fun r hr => mI_of (by decide) rfl (Nat.le_of_ble_eq_true rfl) rfl (cb_Owe_pay X N h a1 a2 r hr)
set_option maxRecDepth 20000 in
theorem cb_Owe_rests (X : mu_X) (N : Nat) (h : mu_H) (a1 : Int32) (a2 : Int32) (a3 : Int32) (a4 : Int32) : aG X m_Owe_rests (rmk 8) (fun _ => ax X) (fun _ _ _ => True) 0 0 (fun r : Int32 × mu_H => qI X r.1 r.2) (f_Owe_rests N h a1 a2 a3 a4) 0 [(0, .ref (xa X 0)), (1, .int a1), (2, .int a2), (3, .int a3), (4, .int a4)] [] h := by
  unfold f_Owe_rests
  refine ro_aload_n (pc := 0) 0 dX11_rests_0 rfl rfl ?_
  refine gf_X11_8 (pc := 1) wd_352 dX11_rests_1 ?_
  refine ro_iload_n (pc := 4) 1 dX11_rests_4 rfl rfl ?_
  refine ro_iload_n (pc := 5) 2 dX11_rests_5 rfl rfl ?_
  refine ro_iload_n (pc := 6) 3 dX11_rests_6 rfl rfl ?_
  refine ro_cvP (pc := 7) (kc := 4) (avs := [.int a1, .int a2, .int a3]) (st := []) ok_Lab_canMeet wd_987 cl_22 cv_22 rfl ⟨by decide, by decide⟩ ⟨Nat.zero_le _, Nat.zero_le _⟩ (c_Lab_canMeet X N h a1 a2 a3) rfl rfl (Nat.le_of_ble_eq_true rfl) dX11_rests_7 (fun x1 => ?_)
  refine ro_if_eq (tgt := 19) (pc := 10) dX11_rests_10 (by decide) (fun _ => ?_) (fun _ => ?_)
  · skip
    refine ro_iconst (v := (-1)) (pc := 19) dX11_rests_19 (by decide) ?_
    exact ro_iret (pc := 20) rfl rfl dX11_rests_20
  · skip
    refine ro_iload (pc := 13) 4 dX11_rests_13 rfl ?_
    refine ro_iconst (v := (-1)) (pc := 15) dX11_rests_15 (by decide) ?_
    refine ro_icmp_ge (tgt := 21) (pc := 16) dX11_rests_16 (by decide) (fun _ => ?_) (fun _ => ?_)
    · skip
      refine ro_aload_n (pc := 21) 0 dX11_rests_21 rfl rfl ?_
      refine gf_X11_11 (pc := 22) wd_355 dX11_rests_22 ?_
      refine ro_iload_n (pc := 25) 1 dX11_rests_25 rfl rfl ?_
      refine ro_iload_n (pc := 26) 2 dX11_rests_26 rfl rfl ?_
      refine ro_iload_n (pc := 27) 3 dX11_rests_27 rfl rfl ?_
      refine ro_cvV (pc := 28) (kc := 7) (avs := [.int a1, .int a2, .int a3]) (st := []) ok_Out_setUpGame wd_997 cl_42 cv_42 rfl ⟨by decide, by decide⟩ ⟨Nat.zero_le _, Nat.zero_le _⟩ (c_Out_setUpGame X N h a1 a2 a3) rfl rfl (Nat.le_of_ble_eq_true rfl) dX11_rests_28 (fun h2 => ?_)
      refine ro_aload_n (pc := 31) 0 dX11_rests_31 rfl rfl ?_
      refine gf_X11_11 (pc := 32) wd_355 dX11_rests_32 ?_
      refine ro_iload (pc := 35) 4 dX11_rests_35 rfl ?_
      refine ro_cvP (pc := 37) (kc := 3) (avs := [.int a4]) (st := []) ok_Out_restAt wd_1016 cl_42 cv_42 rfl ⟨by decide, by decide⟩ ⟨Nat.zero_le _, Nat.zero_le _⟩ (c_Out_restAt X N h2 a4) rfl rfl (Nat.le_of_ble_eq_true rfl) dX11_rests_37 (fun x3 => ?_)
      exact ro_iret (pc := 40) rfl rfl dX11_rests_40
    · skip
      refine ro_iconst (v := (-1)) (pc := 19) dX11_rests_19 (by decide) ?_
      exact ro_iret (pc := 20) rfl rfl dX11_rests_20
theorem c_Owe_rests (X : mu_X) (N : Nat) (h : mu_H) (a1 : Int32) (a2 : Int32) (a3 : Int32) (a4 : Int32) : ∀ r, f_Owe_rests N h a1 a2 a3 a4 = some r → mI X m_Owe_rests 8 [.ref (xa X 0), .int a1, .int a2, .int a3, .int a4] h r.1 r.2 := fun r hr => mI_of (by decide) rfl (Nat.le_of_ble_eq_true rfl) rfl (cb_Owe_rests X N h a1 a2 a3 a4 r hr)
set_option maxRecDepth 20000 in
theorem cb_Owe_road (X : mu_X) (N : Nat) (h : mu_H) (a1 : Int32) : aG X m_Owe_road (rmk 3) (fun _ => ax X) (fun _ _ _ => True) 0 0 (fun r : Int32 × mu_H => qI X r.1 r.2) (f_Owe_road N h a1) 0 [(0, .ref (xa X 0)), (1, .int a1)] [] h := by
  unfold f_Owe_road
  refine ro_aload_n (pc := 0) 0 dX11_road_0 rfl rfl ?_
  refine gf_X11_1 (pc := 1) wd_345 dX11_road_1 ?_
  refine ro_iload_n (pc := 4) 1 dX11_road_4 rfl rfl ?_
  refine ro_cvP (pc := 5) (kc := 1) (avs := [.int a1]) (st := []) ok_Par_hasHouse wd_671 cl_3 cv_3 rfl ⟨by decide, by decide⟩ ⟨Nat.zero_le _, Nat.zero_le _⟩ (c_Par_hasHouse X N h 3 isP_i3 a1) rfl rfl (Nat.le_of_ble_eq_true rfl) dX11_road_5 (fun x1 => ?_)
  refine ro_if_ne (tgt := 13) (pc := 8) dX11_road_8 (by decide) (fun _ => ?_) (fun _ => ?_)
  · skip
    refine ro_aload_n (pc := 13) 0 dX11_road_13 rfl rfl ?_
    refine gf_X11_9 (pc := 14) wd_353 dX11_road_14 ?_
    refine ro_iconst (v := 0) (pc := 17) dX11_road_17 (by decide) ?_
    refine ro_cvV (pc := 18) (kc := 2) (avs := [.int 0]) (st := []) ok_Roa_spreadFrom wd_937 cl_37 cv_37 rfl ⟨by decide, by decide⟩ ⟨Nat.zero_le _, Nat.zero_le _⟩ (c_Roa_spreadFrom X N h 0) rfl rfl (Nat.le_of_ble_eq_true rfl) dX11_road_18 (fun h2 => ?_)
    refine ro_aload_n (pc := 21) 0 dX11_road_21 rfl rfl ?_
    refine gf_X11_9 (pc := 22) wd_353 dX11_road_22 ?_
    refine ro_iload_n (pc := 25) 1 dX11_road_25 rfl rfl ?_
    refine ro_cvP (pc := 26) (kc := 2) (avs := [.int a1]) (st := []) ok_Roa_roadOf wd_1032 cl_37 cv_37 rfl ⟨by decide, by decide⟩ ⟨Nat.zero_le _, Nat.zero_le _⟩ (c_Roa_roadOf X N h2 a1) rfl rfl (Nat.le_of_ble_eq_true rfl) dX11_road_26 (fun x3 => ?_)
    exact ro_iret (pc := 29) rfl rfl dX11_road_29
  · skip
    refine ro_iconst (v := (-1)) (pc := 11) dX11_road_11 (by decide) ?_
    exact ro_iret (pc := 12) rfl rfl dX11_road_12
theorem c_Owe_road (X : mu_X) (N : Nat) (h : mu_H) (a1 : Int32) : ∀ r, f_Owe_road N h a1 = some r → mI X m_Owe_road 3 [.ref (xa X 0), .int a1] h r.1 r.2 := fun r hr => mI_of (by decide) rfl (Nat.le_of_ble_eq_true rfl) rfl (cb_Owe_road X N h a1 r hr)
set_option maxRecDepth 20000 in
theorem cb_Owe_rule (X : mu_X) (N : Nat) (h : mu_H) (a1 : Int32) : aG X m_Owe_rule (rmk 2) (fun _ => ax X) (fun _ _ _ => True) 0 0 (fun r : Int32 => qI X r h) (f_Owe_rule N h a1) 0 [(0, .ref (xa X 0)), (1, .int a1)] [] h := by
  unfold f_Owe_rule
  refine ro_aload_n (pc := 0) 0 dX11_rule_0 rfl rfl ?_
  refine gf_X11_1 (pc := 1) wd_345 dX11_rule_1 ?_
  refine ro_cvP (pc := 4) (kc := 1) (avs := []) (st := []) ok_Par_isNone wd_637 cl_3 cv_3 rfl ⟨by decide, by decide⟩ ⟨Nat.zero_le _, Nat.zero_le _⟩ (c_Par_isNone X N h 3 isP_i3) rfl rfl (Nat.le_of_ble_eq_true rfl) dX11_rule_4 (fun x1 => ?_)
  refine ro_if_ne (tgt := 19) (pc := 7) dX11_rule_7 (by decide) (fun _ => ?_) (fun _ => ?_)
  · skip
    refine ro_iconst (v := (-1)) (pc := 19) dX11_rule_19 (by decide) ?_
    exact ro_iret (pc := 20) rfl rfl dX11_rule_20
  · skip
    refine ro_iload_n (pc := 10) 1 dX11_rule_10 rfl rfl ?_
    refine ro_if_lt (tgt := 19) (pc := 11) dX11_rule_11 (by decide) (fun _ => ?_) (fun _ => ?_)
    · skip
      refine ro_iconst (v := (-1)) (pc := 19) dX11_rule_19 (by decide) ?_
      exact ro_iret (pc := 20) rfl rfl dX11_rule_20
    · skip
      refine ro_iload_n (pc := 14) 1 dX11_rule_14 rfl rfl ?_
      refine ro_iconst (v := 2) (pc := 15) dX11_rule_15 (by decide) ?_
      refine ro_icmp_le (tgt := 21) (pc := 16) dX11_rule_16 (by decide) (fun _ => ?_) (fun _ => ?_)
      · skip
        refine ro_aload_n (pc := 21) 0 dX11_rule_21 rfl rfl ?_
        refine gf_X11_1 (pc := 22) wd_345 dX11_rule_22 ?_
        refine ro_iload_n (pc := 25) 1 dX11_rule_25 rfl rfl ?_
        refine ro_cvP (pc := 26) (kc := 1) (avs := [.int a1]) (st := []) ok_Par_ofRules wd_641 cl_3 cv_3 rfl ⟨by decide, by decide⟩ ⟨Nat.zero_le _, Nat.zero_le _⟩ (c_Par_ofRules X N h 3 isP_i3 a1) rfl rfl (Nat.le_of_ble_eq_true rfl) dX11_rule_26 (fun x2 => ?_)
        exact ro_iret (pc := 29) rfl rfl dX11_rule_29
      · skip
        refine ro_iconst (v := (-1)) (pc := 19) dX11_rule_19 (by decide) ?_
        exact ro_iret (pc := 20) rfl rfl dX11_rule_20
theorem c_Owe_rule (X : mu_X) (N : Nat) (h : mu_H) (a1 : Int32) : ∀ r, f_Owe_rule N h a1 = some r → mI X m_Owe_rule 2 [.ref (xa X 0), .int a1] h r h := fun r hr => mI_of (by decide) rfl (Nat.le_of_ble_eq_true rfl) rfl (cb_Owe_rule X N h a1 r hr)
set_option maxRecDepth 20000 in
theorem cb_Owe_seasons (X : mu_X) (N : Nat) (h : mu_H) (a1 : Int32) : aG X m_Owe_seasons (rmk 5) (fun _ => ax X) (fun _ _ _ => True) 0 0 (fun r : Int32 × mu_H => qI X r.1 r.2) (f_Owe_seasons N h a1) 0 [(0, .ref (xa X 0)), (1, .int a1)] [] h := by
  unfold f_Owe_seasons
  refine ro_aload_n (pc := 0) 0 dX11_seasons_0 rfl rfl ?_
  refine gf_X11_1 (pc := 1) wd_345 dX11_seasons_1 ?_
  refine ro_cvP (pc := 4) (kc := 1) (avs := []) (st := []) ok_Par_isNone wd_637 cl_3 cv_3 rfl ⟨by decide, by decide⟩ ⟨Nat.zero_le _, Nat.zero_le _⟩ (c_Par_isNone X N h 3 isP_i3) rfl rfl (Nat.le_of_ble_eq_true rfl) dX11_seasons_4 (fun x1 => ?_)
  refine ro_if_eq (tgt := 16) (pc := 7) dX11_seasons_7 (by decide) (fun _ => ?_) (fun _ => ?_)
  · skip
    refine ro_iload_n (pc := 16) 1 dX11_seasons_16 rfl rfl ?_
    refine ro_iconst (v := 1) (pc := 17) dX11_seasons_17 (by decide) ?_
    refine ro_jn (pcj := 27) (lvs := fun (s : Unit) => [(0, .ref (xa X 0))]) (hs := fun (s : Unit) => h) (sts := fun (s : Unit) => []) (fun s => ?_) (fun j2 hj2 => ?_)
    · try dsimp only
      refine ro_aload_n (pc := 27) 0 dX11_seasons_27 rfl rfl ?_
      refine ro_iconst (v := 1) (pc := 28) dX11_seasons_28 (by decide) ?_
      refine ro_cvI (pc := 29) (kc := 1) (avs := [.int 1]) (st := []) ok_Owe_refuse wd_732 cl_0 cv_0 rfl ⟨by decide, by decide⟩ ⟨Nat.zero_le _, Nat.zero_le _⟩ (c_Owe_refuse X N h 1) rfl rfl (Nat.le_of_ble_eq_true rfl) dX11_seasons_29 (fun x3 h4 => ?_)
      exact ro_iret (pc := 32) rfl rfl dX11_seasons_32
    · skip
      refine ro_icmp_lt (tgt := 27) (pc := 18) dX11_seasons_18 (by decide) (fun _ => ?_) (fun _ => ?_)
      · skip
        refine ro_lv [0] rfl ?_
        exact hj2 ()
      · skip
        refine ro_iload_n (pc := 21) 1 dX11_seasons_21 rfl rfl ?_
        refine ro_bipush (v := 60) (pc := 22) dX11_seasons_22 (by decide) ?_
        refine ro_icmp_le (tgt := 33) (pc := 24) dX11_seasons_24 (by decide) (fun _ => ?_) (fun _ => ?_)
        · skip
          refine ro_aload_n (pc := 33) 0 dX11_seasons_33 rfl rfl ?_
          refine gf_X11_4 (pc := 34) wd_348 dX11_seasons_34 ?_
          refine ro_cvP (pc := 37) (kc := 1) (avs := []) (st := []) ok_Sta_season wd_805 cl_14 cv_14 rfl ⟨by decide, by decide⟩ ⟨Nat.zero_le _, Nat.zero_le _⟩ (c_Sta_season X N h 14 isT_i14) rfl rfl (Nat.le_of_ble_eq_true rfl) dX11_seasons_37 (fun x6 => ?_)
          refine ro_iload_n (pc := 40) 1 dX11_seasons_40 rfl rfl ?_
          refine ro_iadd (pc := 41) dX11_seasons_41 ?_
          refine ro_sipush (v := 3999) (pc := 42) dX11_seasons_42 (by decide) ?_
          refine ro_icmp_le (tgt := 54) (pc := 45) dX11_seasons_45 (by decide) (fun _ => ?_) (fun _ => ?_)
          · skip
            refine ro_iconst (v := 0) (pc := 54) dX11_seasons_54 (by decide) ?_
            refine ro_istore_n (pc := 55) (lv' := [(2, .int 0), (0, .ref (xa X 0)), (1, .int a1)]) dX11_seasons_55 rfl (by decide) rfl ?_
            refine ro_jn (pcj := 85) (lvs := fun (s : mu_H) => [(0, .ref (xa X 0))]) (hs := fun (s : mu_H) => s) (sts := fun (s : mu_H) => []) (fun h8 => ?_) (fun k7 hk7 => ?_)
            · try dsimp only
              refine ro_aload_n (pc := 85) 0 dX11_seasons_85 rfl rfl ?_
              refine gf_X11_4 (pc := 86) wd_348 dX11_seasons_86 ?_
              refine ro_cvP (pc := 89) (kc := 1) (avs := []) (st := []) ok_Sta_season wd_805 cl_14 cv_14 rfl ⟨by decide, by decide⟩ ⟨Nat.zero_le _, Nat.zero_le _⟩ (c_Sta_season X N h8 14 isT_i14) rfl rfl (Nat.le_of_ble_eq_true rfl) dX11_seasons_89 (fun x9 => ?_)
              exact ro_iret (pc := 92) rfl rfl dX11_seasons_92
            · skip
              refine ro_lv [1, 2, 0] rfl ?_
              refine ro_lp (pc := 56) (lvs := fun (s : Int32 × mu_H) => [(0, .ref (xa X 0)), (1, .int a1), (2, .int s.1)]) (hs := fun (s : Int32 × mu_H) => s.2) (fun rec10 hrec10 s => ?_) N (0, h)
              obtain ⟨x11, h12⟩ := s; unfold f_Owe_seasons_L56; try dsimp only
              refine ro_iload_n (pc := 56) 2 dX11_seasons_56 rfl rfl ?_
              refine ro_iload_n (pc := 57) 1 dX11_seasons_57 rfl rfl ?_
              refine ro_icmp_ge (tgt := 85) (pc := 58) dX11_seasons_58 (by decide) (fun _ => ?_) (fun _ => ?_)
              · skip
                refine ro_lv [0] rfl ?_
                exact hk7 h12
              · skip
                refine ro_aload_n (pc := 61) 0 dX11_seasons_61 rfl rfl ?_
                refine gf_X11_7 (pc := 62) wd_351 dX11_seasons_62 ?_
                refine ro_aload_n (pc := 65) 0 dX11_seasons_65 rfl rfl ?_
                refine gf_X11_4 (pc := 66) wd_348 dX11_seasons_66 ?_
                refine ro_cvV (pc := 69) (kc := 2) (avs := [.ref (xa X 14)]) (st := []) ok_Pas_keep wd_740 cl_20 cv_20 rfl ⟨by decide, by decide⟩ ⟨Nat.zero_le _, Nat.zero_le _⟩ (c_Pas_keep X N h12 14 isT_i14) rfl rfl (Nat.le_of_ble_eq_true rfl) dX11_seasons_69 (fun h13 => ?_)
                refine ro_aload_n (pc := 72) 0 dX11_seasons_72 rfl rfl ?_
                refine gf_X11_8 (pc := 73) wd_352 dX11_seasons_73 ?_
                refine ro_cvV (pc := 76) (kc := 4) (avs := []) (st := []) ok_Lab_passSeason wd_806 cl_22 cv_22 rfl ⟨by decide, by decide⟩ ⟨Nat.zero_le _, Nat.zero_le _⟩ (c_Lab_passSeason X N h13) rfl rfl (Nat.le_of_ble_eq_true rfl) dX11_seasons_76 (fun h14 => ?_)
                refine ro_iinc (pc := 79) (v := x11 + 1) (lv' := [(2, .int (x11 + 1)), (0, .ref (xa X 0)), (1, .int a1)]) 2 dX11_seasons_79 rfl rfl (by decide) rfl ?_
                refine ro_goto (tgt := 56) (pc := 82) dX11_seasons_82 (by decide) ?_
                refine ro_lv [1, 2, 0] rfl ?_
                exact hrec10 (x11 + 1, h14)
          · skip
            refine ro_aload_n (pc := 48) 0 dX11_seasons_48 rfl rfl ?_
            refine ro_iconst (v := 4) (pc := 49) dX11_seasons_49 (by decide) ?_
            refine ro_cvI (pc := 50) (kc := 1) (avs := [.int 4]) (st := []) ok_Owe_refuse wd_732 cl_0 cv_0 rfl ⟨by decide, by decide⟩ ⟨Nat.zero_le _, Nat.zero_le _⟩ (c_Owe_refuse X N h 4) rfl rfl (Nat.le_of_ble_eq_true rfl) dX11_seasons_50 (fun x15 h16 => ?_)
            exact ro_iret (pc := 53) rfl rfl dX11_seasons_53
        · skip
          refine ro_lv [0] rfl ?_
          exact hj2 ()
  · skip
    refine ro_aload_n (pc := 10) 0 dX11_seasons_10 rfl rfl ?_
    refine ro_iconst (v := 0) (pc := 11) dX11_seasons_11 (by decide) ?_
    refine ro_cvI (pc := 12) (kc := 1) (avs := [.int 0]) (st := []) ok_Owe_refuse wd_732 cl_0 cv_0 rfl ⟨by decide, by decide⟩ ⟨Nat.zero_le _, Nat.zero_le _⟩ (c_Owe_refuse X N h 0) rfl rfl (Nat.le_of_ble_eq_true rfl) dX11_seasons_12 (fun x18 h19 => ?_)
    exact ro_iret (pc := 15) rfl rfl dX11_seasons_15
theorem c_Owe_seasons (X : mu_X) (N : Nat) (h : mu_H) (a1 : Int32) : ∀ r, f_Owe_seasons N h a1 = some r → mI X m_Owe_seasons 5 [.ref (xa X 0), .int a1] h r.1 r.2 := fun r hr => mI_of (by decide) rfl (Nat.le_of_ble_eq_true rfl) rfl (cb_Owe_seasons X N h a1 r hr)
set_option maxRecDepth 20000 in
theorem cb_Owe_seen (X : mu_X) (N : Nat) (h : mu_H) (a1 : Int32) (a2 : Int32) : aG X m_Owe_seen (rmk 4) (fun _ => ax X) (fun _ _ _ => True) 0 0 (fun r : Int32 × mu_H => qI X r.1 r.2) (f_Owe_seen N h a1 a2) 0 [(0, .ref (xa X 0)), (1, .int a1), (2, .int a2)] [] h := by
  unfold f_Owe_seen
  refine ro_aload_n (pc := 0) 0 dX11_seen_0 rfl rfl ?_
  refine gf_X11_10 (pc := 1) wd_354 dX11_seen_1 ?_
  refine ro_iload_n (pc := 4) 1 dX11_seen_4 rfl rfl ?_
  refine ro_iload_n (pc := 5) 2 dX11_seen_5 rfl rfl ?_
  refine ro_cvI (pc := 6) (kc := 3) (avs := [.int a1, .int a2]) (st := []) ok_Sig_add wd_1058 cl_39 cv_39 rfl ⟨by decide, by decide⟩ ⟨Nat.zero_le _, Nat.zero_le _⟩ (c_Sig_add X N h a1 a2) rfl rfl (Nat.le_of_ble_eq_true rfl) dX11_seen_6 (fun x1 h2 => ?_)
  exact ro_iret (pc := 9) rfl rfl dX11_seen_9
theorem c_Owe_seen (X : mu_X) (N : Nat) (h : mu_H) (a1 : Int32) (a2 : Int32) : ∀ r, f_Owe_seen N h a1 a2 = some r → mI X m_Owe_seen 4 [.ref (xa X 0), .int a1, .int a2] h r.1 r.2 := fun r hr => mI_of (by decide) rfl (Nat.le_of_ble_eq_true rfl) rfl (cb_Owe_seen X N h a1 a2 r hr)
set_option maxRecDepth 20000 in
theorem cb_Owe_settle (X : mu_X) (N : Nat) (h : mu_H) : aG X m_Owe_settle (rmk 4) (fun _ => ax X) (fun _ _ _ => True) 0 0 (fun r : mu_H => qV X r) (f_Owe_settle N h) 0 [(0, .ref (xa X 0))] [] h := by
  unfold f_Owe_settle
  refine ro_aload_n (pc := 0) 0 dX11_settle_0 rfl rfl ?_
  refine gf_X11_0 (pc := 1) wd_344 dX11_settle_1 ?_
  refine ro_iconst (v := 0) (pc := 4) dX11_settle_4 (by decide) ?_
  refine ro_cvI (pc := 5) (kc := 1) (avs := [.int 0]) (st := []) ok_Tap_shorten wd_403 cl_1 cv_1 rfl ⟨by decide, by decide⟩ ⟨Nat.zero_le _, Nat.zero_le _⟩ (c_Tap_shorten X N h 0) rfl rfl (Nat.le_of_ble_eq_true rfl) dX11_settle_5 (fun x1 h2 => ?_)
  refine ro_pop (pc := 8) dX11_settle_8 rfl ?_
  refine ro_aload_n (pc := 9) 0 dX11_settle_9 rfl rfl ?_
  refine gf_X11_1 (pc := 10) wd_345 dX11_settle_10 ?_
  refine ro_aload_n (pc := 13) 0 dX11_settle_13 rfl rfl ?_
  refine gf_X11_2 (pc := 14) wd_346 dX11_settle_14 ?_
  refine ro_cvR (pc := 17) (kc := 1) (avs := []) (st := [.ref (xa X 3)]) ok_PRd_draft wd_573 cl_6 cv_6 rfl ⟨by decide, by decide⟩ ⟨Nat.zero_le _, Nat.zero_le _⟩ (c_PRd_draft X h2) rfl rfl (Nat.le_of_ble_eq_true rfl) dX11_settle_17 ?_
  refine ro_cvV (pc := 20) (kc := 3) (avs := [.ref (xa X 7)]) (st := []) ok_Par_take wd_577 cl_3 cv_3 rfl ⟨by decide, by decide⟩ ⟨Nat.zero_le _, Nat.zero_le _⟩ (c_Par_take X N h2 3 isP_i3 7 isP_i7) rfl rfl (Nat.le_of_ble_eq_true rfl) dX11_settle_20 (fun h4 => ?_)
  refine ro_aload_n (pc := 23) 0 dX11_settle_23 rfl rfl ?_
  refine gf_X11_4 (pc := 24) wd_348 dX11_settle_24 ?_
  refine ro_aload_n (pc := 27) 0 dX11_settle_27 rfl rfl ?_
  refine gf_X11_1 (pc := 28) wd_345 dX11_settle_28 ?_
  refine ro_cvV (pc := 31) (kc := 2) (avs := [.ref (xa X 3)]) (st := []) ok_Sta_begin wd_595 cl_14 cv_14 rfl ⟨by decide, by decide⟩ ⟨Nat.zero_le _, Nat.zero_le _⟩ (c_Sta_begin X N h4 14 isT_i14 3 isP_i3) rfl rfl (Nat.le_of_ble_eq_true rfl) dX11_settle_31 (fun h5 => ?_)
  refine ro_aload_n (pc := 34) 0 dX11_settle_34 rfl rfl ?_
  refine gf_X11_7 (pc := 35) wd_351 dX11_settle_35 ?_
  refine ro_cvV (pc := 38) (kc := 1) (avs := []) (st := []) ok_Pas_forget wd_607 cl_20 cv_20 rfl ⟨by decide, by decide⟩ ⟨Nat.zero_le _, Nat.zero_le _⟩ (c_Pas_forget X N h5) rfl rfl (Nat.le_of_ble_eq_true rfl) dX11_settle_38 (fun h6 => ?_)
  refine ro_aload_n (pc := 41) 0 dX11_settle_41 rfl rfl ?_
  refine gf_X11_10 (pc := 42) wd_354 dX11_settle_42 ?_
  refine ro_cvV (pc := 45) (kc := 1) (avs := []) (st := []) ok_Sig_forget wd_611 cl_39 cv_39 rfl ⟨by decide, by decide⟩ ⟨Nat.zero_le _, Nat.zero_le _⟩ (c_Sig_forget X N h6) rfl rfl (Nat.le_of_ble_eq_true rfl) dX11_settle_45 (fun h7 => ?_)
  refine ro_aload_n (pc := 48) 0 dX11_settle_48 rfl rfl ?_
  refine ro_iconst (v := 0) (pc := 49) dX11_settle_49 (by decide) ?_
  refine pf_X11_6 (pc := 50) rfl rfl wd_350 dX11_settle_50 ?_
  refine ro_bnh (fun h8 => ?_)
  exact ro_vret (pc := 53) rfl rfl dX11_settle_53
theorem c_Owe_settle (X : mu_X) (N : Nat) (h : mu_H) : ∀ r, f_Owe_settle N h = some r → mV X m_Owe_settle 4 [.ref (xa X 0)] h r := fun r hr => mV_of (by decide) rfl (Nat.le_of_ble_eq_true rfl) rfl (cb_Owe_settle X N h r hr)
set_option maxRecDepth 20000 in
theorem cb_Owe_shares (X : mu_X) (N : Nat) (h : mu_H) (a1 : Int32) (a2 : Int32) : aG X m_Owe_shares (rmk 5) (fun _ => ax X) (fun _ _ _ => True) 0 0 (fun r : Int32 × mu_H => qI X r.1 r.2) (f_Owe_shares N h a1 a2) 0 [(0, .ref (xa X 0)), (1, .int a1), (2, .int a2)] [] h := by
  unfold f_Owe_shares
  refine ro_aload_n (pc := 0) 0 dX11_shares_0 rfl rfl ?_
  refine gf_X11_1 (pc := 1) wd_345 dX11_shares_1 ?_
  refine ro_iload_n (pc := 4) 1 dX11_shares_4 rfl rfl ?_
  refine ro_cvP (pc := 5) (kc := 1) (avs := [.int a1]) (st := []) ok_Par_hasHouse wd_671 cl_3 cv_3 rfl ⟨by decide, by decide⟩ ⟨Nat.zero_le _, Nat.zero_le _⟩ (c_Par_hasHouse X N h 3 isP_i3 a1) rfl rfl (Nat.le_of_ble_eq_true rfl) dX11_shares_5 (fun x1 => ?_)
  refine ro_if_eq (tgt := 22) (pc := 8) dX11_shares_8 (by decide) (fun _ => ?_) (fun _ => ?_)
  · skip
    refine ro_iconst (v := (-1)) (pc := 22) dX11_shares_22 (by decide) ?_
    exact ro_iret (pc := 23) rfl rfl dX11_shares_23
  · skip
    refine ro_iload_n (pc := 11) 2 dX11_shares_11 rfl rfl ?_
    refine ro_if_lt (tgt := 22) (pc := 12) dX11_shares_12 (by decide) (fun _ => ?_) (fun _ => ?_)
    · skip
      refine ro_iconst (v := (-1)) (pc := 22) dX11_shares_22 (by decide) ?_
      exact ro_iret (pc := 23) rfl rfl dX11_shares_23
    · skip
      refine ro_iload_n (pc := 15) 2 dX11_shares_15 rfl rfl ?_
      refine ro_sipush (v := 999) (pc := 16) dX11_shares_16 (by decide) ?_
      refine ro_icmp_le (tgt := 24) (pc := 19) dX11_shares_19 (by decide) (fun _ => ?_) (fun _ => ?_)
      · skip
        refine ro_aload_n (pc := 24) 0 dX11_shares_24 rfl rfl ?_
        refine gf_X11_9 (pc := 25) wd_353 dX11_shares_25 ?_
        refine ro_iconst (v := 0) (pc := 28) dX11_shares_28 (by decide) ?_
        refine ro_cvV (pc := 29) (kc := 2) (avs := [.int 0]) (st := []) ok_Roa_spreadFrom wd_937 cl_37 cv_37 rfl ⟨by decide, by decide⟩ ⟨Nat.zero_le _, Nat.zero_le _⟩ (c_Roa_spreadFrom X N h 0) rfl rfl (Nat.le_of_ble_eq_true rfl) dX11_shares_29 (fun h2 => ?_)
        refine ro_aload_n (pc := 32) 0 dX11_shares_32 rfl rfl ?_
        refine gf_X11_9 (pc := 33) wd_353 dX11_shares_33 ?_
        refine ro_cvP (pc := 36) (kc := 4) (avs := []) (st := []) ok_Roa_useOfAll wd_1043 cl_37 cv_37 rfl ⟨by decide, by decide⟩ ⟨Nat.zero_le _, Nat.zero_le _⟩ (c_Roa_useOfAll X N h2) rfl rfl (Nat.le_of_ble_eq_true rfl) dX11_shares_36 (fun x3 => ?_)
        refine ro_istore_n (pc := 39) (lv' := [(3, .int x3), (0, .ref (xa X 0)), (1, .int a1), (2, .int a2)]) dX11_shares_39 rfl (by decide) rfl ?_
        refine ro_iload_n (pc := 40) 0 dX11_shares_40 rfl rfl ?_
        refine ro_if_ne (tgt := 48) (pc := 41) dX11_shares_41 (by decide) (fun _ => ?_) (fun _ => ?_)
        · skip
          refine ro_iload_n (pc := 48) 3 dX11_shares_48 rfl rfl ?_
          refine ro_aload_n (pc := 49) 1 dX11_shares_49 rfl rfl ?_
          refine gf_X11_9 (pc := 50) wd_353 dX11_shares_50 ?_
          refine ro_iload_n (pc := 53) 2 dX11_shares_53 rfl rfl ?_
          refine ro_cvP (pc := 54) (kc := 3) (avs := [.int a1]) (st := [.int a2]) ok_Roa_useOf wd_1053 cl_37 cv_37 rfl ⟨by decide, by decide⟩ ⟨Nat.zero_le _, Nat.zero_le _⟩ (c_Roa_useOf X N h2 a1) rfl rfl (Nat.le_of_ble_eq_true rfl) dX11_shares_54 (fun x4 => ?_)
          refine ro_imul (pc := 57) dX11_shares_57 ?_
          refine ro_iload_n (pc := 58) 0 dX11_shares_58 rfl rfl ?_
          refine ro_idivg (pc := 59) dX11_shares_59 ?_
          exact ro_iret (pc := 60) rfl rfl dX11_shares_60
        · skip
          refine ro_iconst (v := 0) (pc := 44) dX11_shares_44 (by decide) ?_
          refine ro_goto (tgt := 60) (pc := 45) dX11_shares_45 (by decide) ?_
          exact ro_iret (pc := 60) rfl rfl dX11_shares_60
      · skip
        refine ro_iconst (v := (-1)) (pc := 22) dX11_shares_22 (by decide) ?_
        exact ro_iret (pc := 23) rfl rfl dX11_shares_23
theorem c_Owe_shares (X : mu_X) (N : Nat) (h : mu_H) (a1 : Int32) (a2 : Int32) : ∀ r, f_Owe_shares N h a1 a2 = some r → mI X m_Owe_shares 5 [.ref (xa X 0), .int a1, .int a2] h r.1 r.2 := fun r hr => mI_of (by decide) rfl (Nat.le_of_ble_eq_true rfl) rfl (cb_Owe_shares X N h a1 a2 r hr)
set_option maxRecDepth 20000 in
theorem cb_Owe_status (X : mu_X) (N : Nat) (h : mu_H) (a1 : Int32) : aG X m_Owe_status (rmk 1) (fun _ => ax X) (fun _ _ _ => True) 0 0 (fun r : Int32 => qI X r h) (f_Owe_status N h a1) 0 [(0, .ref (xa X 0)), (1, .int a1)] [] h := by
  unfold f_Owe_status
  refine ro_iload_n (pc := 0) 1 dX11_status_0 rfl rfl ?_
  refine ro_if_lt (tgt := 18) (pc := 1) dX11_status_1 (by decide) (fun _ => ?_) (fun _ => ?_)
  · skip
    refine ro_iconst (v := (-1)) (pc := 18) dX11_status_18 (by decide) ?_
    exact ro_iret (pc := 19) rfl rfl dX11_status_19
  · skip
    refine ro_iload_n (pc := 4) 1 dX11_status_4 rfl rfl ?_
    refine ro_iconst (v := 5) (pc := 5) dX11_status_5 (by decide) ?_
    refine ro_icmp_ge (tgt := 18) (pc := 6) dX11_status_6 (by decide) (fun _ => ?_) (fun _ => ?_)
    · skip
      refine ro_iconst (v := (-1)) (pc := 18) dX11_status_18 (by decide) ?_
      exact ro_iret (pc := 19) rfl rfl dX11_status_19
    · skip
      refine ro_aload_n (pc := 9) 0 dX11_status_9 rfl rfl ?_
      refine gf_X11_12 (pc := 10) wd_356 dX11_status_10 ?_
      refine ro_iload_n (pc := 13) 1 dX11_status_13 rfl rfl ?_
      refine ro_iald (pc := 14) (n := 5) cl_50 cv_50 dX11_status_14 ?_
      refine ro_goto (tgt := 19) (pc := 15) dX11_status_15 (by decide) ?_
      exact ro_iret (pc := 19) rfl rfl dX11_status_19
theorem c_Owe_status (X : mu_X) (N : Nat) (h : mu_H) (a1 : Int32) : ∀ r, f_Owe_status N h a1 = some r → mI X m_Owe_status 1 [.ref (xa X 0), .int a1] h r h := fun r hr => mI_of (by decide) rfl (Nat.le_of_ble_eq_true rfl) rfl (cb_Owe_status X N h a1 r hr)
set_option maxRecDepth 20000 in
theorem cb_Owe_stretch (X : mu_X) (N : Nat) (h : mu_H) (a1 : Int32) (a2 : Int32) : aG X m_Owe_stretch (rmk 2) (fun _ => ax X) (fun _ _ _ => True) 0 0 (fun r : Int32 => qI X r h) (f_Owe_stretch N h a1 a2) 0 [(0, .ref (xa X 0)), (1, .int a1), (2, .int a2)] [] h := by
  unfold f_Owe_stretch
  refine ro_aload_n (pc := 0) 0 dX11_stretch_0 rfl rfl ?_
  refine gf_X11_1 (pc := 1) wd_345 dX11_stretch_1 ?_
  refine ro_iload_n (pc := 4) 1 dX11_stretch_4 rfl rfl ?_
  refine ro_cvP (pc := 5) (kc := 1) (avs := [.int a1]) (st := []) ok_Par_hasStretch wd_646 cl_3 cv_3 rfl ⟨by decide, by decide⟩ ⟨Nat.zero_le _, Nat.zero_le _⟩ (c_Par_hasStretch X N h 3 isP_i3 a1) rfl rfl (Nat.le_of_ble_eq_true rfl) dX11_stretch_5 (fun x1 => ?_)
  refine ro_if_ne (tgt := 13) (pc := 8) dX11_stretch_8 (by decide) (fun _ => ?_) (fun _ => ?_)
  · skip
    refine ro_iload_n (pc := 13) 2 dX11_stretch_13 rfl rfl ?_
    refine ro_tsk (key := 0) (tgt := 48) (pc := 14) dX11_stretch_14 (by decide) (by decide) rfl (by decide) (fun _ => ?_) (fun c14_0 => ?_)
    · skip
      refine ro_aload_n (pc := 48) 0 dX11_stretch_48 rfl rfl ?_
      refine gf_X11_1 (pc := 49) wd_345 dX11_stretch_49 ?_
      refine ro_iload_n (pc := 52) 1 dX11_stretch_52 rfl rfl ?_
      refine ro_iconst (v := 0) (pc := 53) dX11_stretch_53 (by decide) ?_
      refine ro_cvP (pc := 54) (kc := 1) (avs := [.int a1, .int 0]) (st := []) ok_Par_ofStretch wd_650 cl_3 cv_3 rfl ⟨by decide, by decide⟩ ⟨Nat.zero_le _, Nat.zero_le _⟩ (c_Par_ofStretch X N h 3 isP_i3 a1 0) rfl rfl (Nat.le_of_ble_eq_true rfl) dX11_stretch_54 (fun x2 => ?_)
      exact ro_iret (pc := 57) rfl rfl dX11_stretch_57
    refine ro_tsk (key := 1) (tgt := 58) (pc := 14) dX11_stretch_14 (by decide) (by decide) rfl (by decide) (fun _ => ?_) (fun c14_1 => ?_)
    · skip
      refine ro_aload_n (pc := 58) 0 dX11_stretch_58 rfl rfl ?_
      refine gf_X11_1 (pc := 59) wd_345 dX11_stretch_59 ?_
      refine ro_iload_n (pc := 62) 1 dX11_stretch_62 rfl rfl ?_
      refine ro_iconst (v := 1) (pc := 63) dX11_stretch_63 (by decide) ?_
      refine ro_cvP (pc := 64) (kc := 1) (avs := [.int a1, .int 1]) (st := []) ok_Par_ofStretch wd_650 cl_3 cv_3 rfl ⟨by decide, by decide⟩ ⟨Nat.zero_le _, Nat.zero_le _⟩ (c_Par_ofStretch X N h 3 isP_i3 a1 1) rfl rfl (Nat.le_of_ble_eq_true rfl) dX11_stretch_64 (fun x3 => ?_)
      exact ro_iret (pc := 67) rfl rfl dX11_stretch_67
    refine ro_tsk (key := 2) (tgt := 68) (pc := 14) dX11_stretch_14 (by decide) (by decide) rfl (by decide) (fun _ => ?_) (fun c14_2 => ?_)
    · skip
      refine ro_aload_n (pc := 68) 0 dX11_stretch_68 rfl rfl ?_
      refine gf_X11_4 (pc := 69) wd_348 dX11_stretch_69 ?_
      refine ro_iload_n (pc := 72) 1 dX11_stretch_72 rfl rfl ?_
      refine ro_cvP (pc := 73) (kc := 1) (avs := [.int a1]) (st := []) ok_Sta_wear wd_651 cl_14 cv_14 rfl ⟨by decide, by decide⟩ ⟨Nat.zero_le _, Nat.zero_le _⟩ (c_Sta_wear X N h 14 isT_i14 a1) rfl rfl (Nat.le_of_ble_eq_true rfl) dX11_stretch_73 (fun x4 => ?_)
      exact ro_iret (pc := 76) rfl rfl dX11_stretch_76
    refine ro_tsk (key := 3) (tgt := 77) (pc := 14) dX11_stretch_14 (by decide) (by decide) rfl (by decide) (fun _ => ?_) (fun c14_3 => ?_)
    · skip
      refine ro_aload_n (pc := 77) 0 dX11_stretch_77 rfl rfl ?_
      refine gf_X11_4 (pc := 78) wd_348 dX11_stretch_78 ?_
      refine ro_iload_n (pc := 81) 1 dX11_stretch_81 rfl rfl ?_
      refine ro_cvP (pc := 82) (kc := 1) (avs := [.int a1]) (st := []) ok_Sta_wet wd_655 cl_14 cv_14 rfl ⟨by decide, by decide⟩ ⟨Nat.zero_le _, Nat.zero_le _⟩ (c_Sta_wet X N h 14 isT_i14 a1) rfl rfl (Nat.le_of_ble_eq_true rfl) dX11_stretch_82 (fun x5 => ?_)
      exact ro_iret (pc := 85) rfl rfl dX11_stretch_85
    refine ro_tsk (key := 4) (tgt := 86) (pc := 14) dX11_stretch_14 (by decide) (by decide) rfl (by decide) (fun _ => ?_) (fun c14_4 => ?_)
    · skip
      refine ro_aload_n (pc := 86) 0 dX11_stretch_86 rfl rfl ?_
      refine gf_X11_1 (pc := 87) wd_345 dX11_stretch_87 ?_
      refine ro_iload_n (pc := 90) 1 dX11_stretch_90 rfl rfl ?_
      refine ro_iconst (v := 4) (pc := 91) dX11_stretch_91 (by decide) ?_
      refine ro_cvP (pc := 92) (kc := 1) (avs := [.int a1, .int 4]) (st := []) ok_Par_ofStretch wd_650 cl_3 cv_3 rfl ⟨by decide, by decide⟩ ⟨Nat.zero_le _, Nat.zero_le _⟩ (c_Par_ofStretch X N h 3 isP_i3 a1 4) rfl rfl (Nat.le_of_ble_eq_true rfl) dX11_stretch_92 (fun x6 => ?_)
      exact ro_iret (pc := 95) rfl rfl dX11_stretch_95
    refine ro_tsd (tgt := 96) (pc := 14) dX11_stretch_14 (by have a0 := ne_int c14_0 (k := 0) (z := 0) (by decide); have a1 := ne_int c14_1 (k := 1) (z := 1) (by decide); have a2 := ne_int c14_2 (k := 2) (z := 2) (by decide); have a3 := ne_int c14_3 (k := 3) (z := 3) (by decide); have a4 := ne_int c14_4 (k := 4) (z := 4) (by decide); omega) (by decide) ?_
    refine ro_iconst (v := (-1)) (pc := 96) dX11_stretch_96 (by decide) ?_
    exact ro_iret (pc := 97) rfl rfl dX11_stretch_97
  · skip
    refine ro_iconst (v := (-1)) (pc := 11) dX11_stretch_11 (by decide) ?_
    exact ro_iret (pc := 12) rfl rfl dX11_stretch_12
theorem c_Owe_stretch (X : mu_X) (N : Nat) (h : mu_H) (a1 : Int32) (a2 : Int32) : ∀ r, f_Owe_stretch N h a1 a2 = some r → mI X m_Owe_stretch 2 [.ref (xa X 0), .int a1, .int a2] h r h := fun r hr => mI_of (by decide) rfl (Nat.le_of_ble_eq_true rfl) rfl (cb_Owe_stretch X N h a1 a2 r hr)
set_option maxRecDepth 20000 in
theorem cb_Owe_text (X : mu_X) (N : Nat) (h : mu_H) (a1 : Int32) : aG X m_Owe_text (rmk 68) (fun _ => ax X) (fun _ _ _ => True) 0 0 (fun r : Int32 × mu_H => qI X r.1 r.2) (f_Owe_text N h a1) 0 [(0, .ref (xa X 0)), (1, .int a1)] [] h := by
  unfold f_Owe_text
  refine ro_iload_n (pc := 0) 1 dX11_text_0 rfl rfl ?_
  refine ro_jn (pcj := 27) (lvs := fun (s : mu_H) => [(0, .ref (xa X 0)), (1, .int a1)]) (hs := fun (s : mu_H) => s) (sts := fun (s : mu_H) => []) (fun h2 => ?_) (fun j1 hj1 => ?_)
  · try dsimp only
    refine ro_iload_n (pc := 27) 1 dX11_text_27 rfl rfl ?_
    refine ro_iconst (v := 1) (pc := 28) dX11_text_28 (by decide) ?_
    refine ro_icmp_ne (tgt := 78) (pc := 29) dX11_text_29 (by decide) (fun _ => ?_) (fun _ => ?_)
    · skip
      refine ro_iconst (v := (-1)) (pc := 78) dX11_text_78 (by decide) ?_
      exact ro_iret (pc := 79) rfl rfl dX11_text_79
    · skip
      refine ro_aload_n (pc := 32) 0 dX11_text_32 rfl rfl ?_
      refine gf_X11_8 (pc := 33) wd_352 dX11_text_33 ?_
      refine ro_cvP (pc := 36) (kc := 1) (avs := []) (st := []) ok_Lab_laws wd_616 cl_22 cv_22 rfl ⟨by decide, by decide⟩ ⟨Nat.zero_le _, Nat.zero_le _⟩ (c_Lab_laws X N h2) rfl rfl (Nat.le_of_ble_eq_true rfl) dX11_text_36 (fun x3 => ?_)
      refine ro_iconst (v := 4) (pc := 39) dX11_text_39 (by decide) ?_
      refine ro_icmp_ge (tgt := 78) (pc := 40) dX11_text_40 (by decide) (fun _ => ?_) (fun _ => ?_)
      · skip
        refine ro_iconst (v := (-1)) (pc := 78) dX11_text_78 (by decide) ?_
        exact ro_iret (pc := 79) rfl rfl dX11_text_79
      · skip
        refine ro_aload_n (pc := 43) 0 dX11_text_43 rfl rfl ?_
        refine gf_X11_3 (pc := 44) wd_347 dX11_text_44 ?_
        refine ro_cvI (pc := 47) (kc := 67) (avs := []) (st := []) ok_LRd_firstWrong wd_497 cl_10 cv_10 rfl ⟨by decide, by decide⟩ ⟨Nat.zero_le _, Nat.zero_le _⟩ (c_LRd_firstWrong X N h2) rfl rfl (Nat.le_of_ble_eq_true rfl) dX11_text_47 (fun x4 h5 => ?_)
        refine ro_iconst (v := (-1)) (pc := 50) dX11_text_50 (by decide) ?_
        refine ro_icmp_ne (tgt := 78) (pc := 51) dX11_text_51 (by decide) (fun _ => ?_) (fun _ => ?_)
        · skip
          refine ro_iconst (v := (-1)) (pc := 78) dX11_text_78 (by decide) ?_
          exact ro_iret (pc := 79) rfl rfl dX11_text_79
        · skip
          refine ro_aload_n (pc := 54) 0 dX11_text_54 rfl rfl ?_
          refine gf_X11_0 (pc := 55) wd_344 dX11_text_55 ?_
          refine ro_iconst (v := 0) (pc := 58) dX11_text_58 (by decide) ?_
          refine ro_cvI (pc := 59) (kc := 1) (avs := [.int 0]) (st := []) ok_Tap_shorten wd_403 cl_1 cv_1 rfl ⟨by decide, by decide⟩ ⟨Nat.zero_le _, Nat.zero_le _⟩ (c_Tap_shorten X N h5 0) rfl rfl (Nat.le_of_ble_eq_true rfl) dX11_text_59 (fun x7 h8 => ?_)
          refine ro_pop (pc := 62) dX11_text_62 rfl ?_
          refine ro_aload_n (pc := 63) 0 dX11_text_63 rfl rfl ?_
          refine gf_X11_8 (pc := 64) wd_352 dX11_text_64 ?_
          refine ro_aload_n (pc := 67) 0 dX11_text_67 rfl rfl ?_
          refine gf_X11_3 (pc := 68) wd_347 dX11_text_68 ?_
          refine ro_cvR (pc := 71) (kc := 1) (avs := []) (st := [.ref (xa X 22)]) ok_LRd_draft wd_620 cl_10 cv_10 rfl ⟨by decide, by decide⟩ ⟨Nat.zero_le _, Nat.zero_le _⟩ (c_LRd_draft X h8) rfl rfl (Nat.le_of_ble_eq_true rfl) dX11_text_71 ?_
          refine ro_cvI (pc := 74) (kc := 2) (avs := [.ref (xa X 11)]) (st := []) ok_Lab_addLaw wd_624 cl_22 cv_22 rfl ⟨by decide, by decide⟩ ⟨Nat.zero_le _, Nat.zero_le _⟩ (c_Lab_addLaw X N h8 11 isL_i11) rfl rfl (Nat.le_of_ble_eq_true rfl) dX11_text_74 (fun x10 h11 => ?_)
          exact ro_iret (pc := 77) rfl rfl dX11_text_77
  · skip
    refine ro_if_ne (tgt := 27) (pc := 1) dX11_text_1 (by decide) (fun _ => ?_) (fun _ => ?_)
    · skip
      exact hj1 h
    · skip
      refine ro_aload_n (pc := 4) 0 dX11_text_4 rfl rfl ?_
      refine gf_X11_2 (pc := 5) wd_346 dX11_text_5 ?_
      refine ro_cvI (pc := 8) (kc := 5) (avs := []) (st := []) ok_PRd_firstWrong wd_411 cl_6 cv_6 rfl ⟨by decide, by decide⟩ ⟨Nat.zero_le _, Nat.zero_le _⟩ (c_PRd_firstWrong X N h) rfl rfl (Nat.le_of_ble_eq_true rfl) dX11_text_8 (fun x13 h14 => ?_)
      refine ro_iconst (v := (-1)) (pc := 11) dX11_text_11 (by decide) ?_
      refine ro_icmp_ne (tgt := 27) (pc := 12) dX11_text_12 (by decide) (fun _ => ?_) (fun _ => ?_)
      · skip
        exact hj1 h14
      · skip
        refine ro_aload_n (pc := 15) 0 dX11_text_15 rfl rfl ?_
        refine ro_cvV (pc := 16) (kc := 4) (avs := []) (st := []) ok_Owe_settle wd_569 cl_0 cv_0 rfl ⟨by decide, by decide⟩ ⟨Nat.zero_le _, Nat.zero_le _⟩ (c_Owe_settle X N h14) rfl rfl (Nat.le_of_ble_eq_true rfl) dX11_text_16 (fun h16 => ?_)
        refine ro_aload_n (pc := 19) 0 dX11_text_19 rfl rfl ?_
        refine gf_X11_1 (pc := 20) wd_345 dX11_text_20 ?_
        refine ro_cvP (pc := 23) (kc := 1) (avs := []) (st := []) ok_Par_stretches wd_615 cl_3 cv_3 rfl ⟨by decide, by decide⟩ ⟨Nat.zero_le _, Nat.zero_le _⟩ (c_Par_stretches X N h16 3 isP_i3) rfl rfl (Nat.le_of_ble_eq_true rfl) dX11_text_23 (fun x17 => ?_)
        exact ro_iret (pc := 26) rfl rfl dX11_text_26
theorem c_Owe_text (X : mu_X) (N : Nat) (h : mu_H) (a1 : Int32) : ∀ r, f_Owe_text N h a1 = some r → mI X m_Owe_text 68 [.ref (xa X 0), .int a1] h r.1 r.2 := fun r hr => mI_of (by decide) rfl (Nat.le_of_ble_eq_true rfl) rfl (cb_Owe_text X N h a1 r hr)
set_option maxRecDepth 20000 in
theorem cb_Owe_toll (X : mu_X) (N : Nat) (h : mu_H) (a1 : Int32) (a2 : Int32) : aG X m_Owe_toll (rmk 5) (fun _ => ax X) (fun _ _ _ => True) 0 0 (fun r : Int32 × mu_H => qI X r.1 r.2) (f_Owe_toll N h a1 a2) 0 [(0, .ref (xa X 0)), (1, .int a1), (2, .int a2)] [] h := by
  unfold f_Owe_toll
  refine ro_aload_n (pc := 0) 0 dX11_toll_0 rfl rfl ?_
  refine gf_X11_1 (pc := 1) wd_345 dX11_toll_1 ?_
  refine ro_cvP (pc := 4) (kc := 1) (avs := []) (st := []) ok_Par_isNone wd_637 cl_3 cv_3 rfl ⟨by decide, by decide⟩ ⟨Nat.zero_le _, Nat.zero_le _⟩ (c_Par_isNone X N h 3 isP_i3) rfl rfl (Nat.le_of_ble_eq_true rfl) dX11_toll_4 (fun x1 => ?_)
  refine ro_if_ne (tgt := 30) (pc := 7) dX11_toll_7 (by decide) (fun _ => ?_) (fun _ => ?_)
  · skip
    refine ro_iconst (v := (-1)) (pc := 30) dX11_toll_30 (by decide) ?_
    exact ro_iret (pc := 31) rfl rfl dX11_toll_31
  · skip
    refine ro_iload_n (pc := 10) 1 dX11_toll_10 rfl rfl ?_
    refine ro_iconst (v := 1) (pc := 11) dX11_toll_11 (by decide) ?_
    refine ro_icmp_lt (tgt := 30) (pc := 12) dX11_toll_12 (by decide) (fun _ => ?_) (fun _ => ?_)
    · skip
      refine ro_iconst (v := (-1)) (pc := 30) dX11_toll_30 (by decide) ?_
      exact ro_iret (pc := 31) rfl rfl dX11_toll_31
    · skip
      refine ro_iload_n (pc := 15) 1 dX11_toll_15 rfl rfl ?_
      refine ro_bipush (v := 9) (pc := 16) dX11_toll_16 (by decide) ?_
      refine ro_icmp_gt (tgt := 30) (pc := 18) dX11_toll_18 (by decide) (fun _ => ?_) (fun _ => ?_)
      · skip
        refine ro_iconst (v := (-1)) (pc := 30) dX11_toll_30 (by decide) ?_
        exact ro_iret (pc := 31) rfl rfl dX11_toll_31
      · skip
        refine ro_iload_n (pc := 21) 2 dX11_toll_21 rfl rfl ?_
        refine ro_if_lt (tgt := 30) (pc := 22) dX11_toll_22 (by decide) (fun _ => ?_) (fun _ => ?_)
        · skip
          refine ro_iconst (v := (-1)) (pc := 30) dX11_toll_30 (by decide) ?_
          exact ro_iret (pc := 31) rfl rfl dX11_toll_31
        · skip
          refine ro_iload_n (pc := 25) 2 dX11_toll_25 rfl rfl ?_
          refine ro_iconst (v := 1) (pc := 26) dX11_toll_26 (by decide) ?_
          refine ro_icmp_le (tgt := 32) (pc := 27) dX11_toll_27 (by decide) (fun _ => ?_) (fun _ => ?_)
          · skip
            refine ro_aload_n (pc := 32) 0 dX11_toll_32 rfl rfl ?_
            refine gf_X11_9 (pc := 33) wd_353 dX11_toll_33 ?_
            refine ro_iconst (v := 0) (pc := 36) dX11_toll_36 (by decide) ?_
            refine ro_cvV (pc := 37) (kc := 2) (avs := [.int 0]) (st := []) ok_Roa_spreadFrom wd_937 cl_37 cv_37 rfl ⟨by decide, by decide⟩ ⟨Nat.zero_le _, Nat.zero_le _⟩ (c_Roa_spreadFrom X N h 0) rfl rfl (Nat.le_of_ble_eq_true rfl) dX11_toll_37 (fun h2 => ?_)
            refine ro_iload_n (pc := 40) 2 dX11_toll_40 rfl rfl ?_
            refine ro_if_ne (tgt := 54) (pc := 41) dX11_toll_41 (by decide) (fun _ => ?_) (fun _ => ?_)
            · skip
              refine ro_iload_n (pc := 54) 1 dX11_toll_54 rfl rfl ?_
              refine ro_aload_n (pc := 55) 0 dX11_toll_55 rfl rfl ?_
              refine gf_X11_9 (pc := 56) wd_353 dX11_toll_56 ?_
              refine ro_cvP (pc := 59) (kc := 4) (avs := []) (st := [.int a1]) ok_Roa_useOfAll wd_1043 cl_37 cv_37 rfl ⟨by decide, by decide⟩ ⟨Nat.zero_le _, Nat.zero_le _⟩ (c_Roa_useOfAll X N h2) rfl rfl (Nat.le_of_ble_eq_true rfl) dX11_toll_59 (fun x3 => ?_)
              refine ro_imul (pc := 62) dX11_toll_62 ?_
              exact ro_iret (pc := 63) rfl rfl dX11_toll_63
            · skip
              refine ro_aload_n (pc := 44) 0 dX11_toll_44 rfl rfl ?_
              refine gf_X11_9 (pc := 45) wd_353 dX11_toll_45 ?_
              refine ro_cvP (pc := 48) (kc := 4) (avs := []) (st := []) ok_Roa_mostUsing wd_1160 cl_37 cv_37 rfl ⟨by decide, by decide⟩ ⟨Nat.zero_le _, Nat.zero_le _⟩ (c_Roa_mostUsing X N h2) rfl rfl (Nat.le_of_ble_eq_true rfl) dX11_toll_48 (fun x4 => ?_)
              refine ro_goto (tgt := 63) (pc := 51) dX11_toll_51 (by decide) ?_
              exact ro_iret (pc := 63) rfl rfl dX11_toll_63
          · skip
            refine ro_iconst (v := (-1)) (pc := 30) dX11_toll_30 (by decide) ?_
            exact ro_iret (pc := 31) rfl rfl dX11_toll_31
theorem c_Owe_toll (X : mu_X) (N : Nat) (h : mu_H) (a1 : Int32) (a2 : Int32) : ∀ r, f_Owe_toll N h a1 a2 = some r → mI X m_Owe_toll 5 [.ref (xa X 0), .int a1, .int a2] h r.1 r.2 := fun r hr => mI_of (by decide) rfl (Nat.le_of_ble_eq_true rfl) rfl (cb_Owe_toll X N h a1 a2 r hr)
set_option maxRecDepth 20000 in
theorem cb_Owe_undo (X : mu_X) (N : Nat) (h : mu_H) : aG X m_Owe_undo (rmk 3) (fun _ => ax X) (fun _ _ _ => True) 0 0 (fun r : Int32 × mu_H => qI X r.1 r.2) (f_Owe_undo N h) 0 [(0, .ref (xa X 0))] [] h := by
  unfold f_Owe_undo
  refine ro_aload_n (pc := 0) 0 dX11_undo_0 rfl rfl ?_
  refine gf_X11_7 (pc := 1) wd_351 dX11_undo_1 ?_
  refine ro_aload_n (pc := 4) 0 dX11_undo_4 rfl rfl ?_
  refine gf_X11_4 (pc := 5) wd_348 dX11_undo_5 ?_
  refine ro_cvI (pc := 8) (kc := 2) (avs := [.ref (xa X 14)]) (st := []) ok_Pas_bringBack wd_875 cl_20 cv_20 rfl ⟨by decide, by decide⟩ ⟨Nat.zero_le _, Nat.zero_le _⟩ (c_Pas_bringBack X N h 14 isT_i14) rfl rfl (Nat.le_of_ble_eq_true rfl) dX11_undo_8 (fun x1 h2 => ?_)
  refine ro_if_eq (tgt := 24) (pc := 11) dX11_undo_11 (by decide) (fun _ => ?_) (fun _ => ?_)
  · skip
    refine ro_iconst (v := (-1)) (pc := 24) dX11_undo_24 (by decide) ?_
    exact ro_iret (pc := 25) rfl rfl dX11_undo_25
  · skip
    refine ro_aload_n (pc := 14) 0 dX11_undo_14 rfl rfl ?_
    refine gf_X11_7 (pc := 15) wd_351 dX11_undo_15 ?_
    refine ro_cvP (pc := 18) (kc := 1) (avs := []) (st := []) ok_Pas_size wd_883 cl_20 cv_20 rfl ⟨by decide, by decide⟩ ⟨Nat.zero_le _, Nat.zero_le _⟩ (c_Pas_size X N h2) rfl rfl (Nat.le_of_ble_eq_true rfl) dX11_undo_18 (fun x4 => ?_)
    refine ro_goto (tgt := 25) (pc := 21) dX11_undo_21 (by decide) ?_
    exact ro_iret (pc := 25) rfl rfl dX11_undo_25
theorem c_Owe_undo (X : mu_X) (N : Nat) (h : mu_H) : ∀ r, f_Owe_undo N h = some r → mI X m_Owe_undo 3 [.ref (xa X 0)] h r.1 r.2 := fun r hr => mI_of (by decide) rfl (Nat.le_of_ble_eq_true rfl) rfl (cb_Owe_undo X N h r hr)
set_option maxRecDepth 20000 in
theorem cb_Owe_way (X : mu_X) (N : Nat) (h : mu_H) (a1 : Int32) (a2 : Int32) (a3 : Int32) : aG X m_Owe_way (rmk 3) (fun _ => ax X) (fun _ _ _ => True) 0 0 (fun r : Int32 × mu_H => qI X r.1 r.2) (f_Owe_way N h a1 a2 a3) 0 [(0, .ref (xa X 0)), (1, .int a1), (2, .int a2), (3, .int a3)] [] h := by
  unfold f_Owe_way
  refine ro_aload_n (pc := 0) 0 dX11_way_0 rfl rfl ?_
  refine gf_X11_1 (pc := 1) wd_345 dX11_way_1 ?_
  refine ro_cvP (pc := 4) (kc := 1) (avs := []) (st := []) ok_Par_isNone wd_637 cl_3 cv_3 rfl ⟨by decide, by decide⟩ ⟨Nat.zero_le _, Nat.zero_le _⟩ (c_Par_isNone X N h 3 isP_i3) rfl rfl (Nat.le_of_ble_eq_true rfl) dX11_way_4 (fun x1 => ?_)
  refine ro_if_ne (tgt := 30) (pc := 7) dX11_way_7 (by decide) (fun _ => ?_) (fun _ => ?_)
  · skip
    refine ro_iconst (v := (-1)) (pc := 30) dX11_way_30 (by decide) ?_
    exact ro_iret (pc := 31) rfl rfl dX11_way_31
  · skip
    refine ro_iload_n (pc := 10) 1 dX11_way_10 rfl rfl ?_
    refine ro_if_lt (tgt := 30) (pc := 11) dX11_way_11 (by decide) (fun _ => ?_) (fun _ => ?_)
    · skip
      refine ro_iconst (v := (-1)) (pc := 30) dX11_way_30 (by decide) ?_
      exact ro_iret (pc := 31) rfl rfl dX11_way_31
    · skip
      refine ro_iload_n (pc := 14) 1 dX11_way_14 rfl rfl ?_
      refine ro_bipush (v := 8) (pc := 15) dX11_way_15 (by decide) ?_
      refine ro_icmp_ge (tgt := 30) (pc := 17) dX11_way_17 (by decide) (fun _ => ?_) (fun _ => ?_)
      · skip
        refine ro_iconst (v := (-1)) (pc := 30) dX11_way_30 (by decide) ?_
        exact ro_iret (pc := 31) rfl rfl dX11_way_31
      · skip
        refine ro_iload_n (pc := 20) 2 dX11_way_20 rfl rfl ?_
        refine ro_if_lt (tgt := 30) (pc := 21) dX11_way_21 (by decide) (fun _ => ?_) (fun _ => ?_)
        · skip
          refine ro_iconst (v := (-1)) (pc := 30) dX11_way_30 (by decide) ?_
          exact ro_iret (pc := 31) rfl rfl dX11_way_31
        · skip
          refine ro_iload_n (pc := 24) 2 dX11_way_24 rfl rfl ?_
          refine ro_bipush (v := 8) (pc := 25) dX11_way_25 (by decide) ?_
          refine ro_icmp_lt (tgt := 32) (pc := 27) dX11_way_27 (by decide) (fun _ => ?_) (fun _ => ?_)
          · skip
            refine ro_aload_n (pc := 32) 0 dX11_way_32 rfl rfl ?_
            refine gf_X11_9 (pc := 33) wd_353 dX11_way_33 ?_
            refine ro_iload_n (pc := 36) 1 dX11_way_36 rfl rfl ?_
            refine ro_cvV (pc := 37) (kc := 2) (avs := [.int a1]) (st := []) ok_Roa_spreadFrom wd_937 cl_37 cv_37 rfl ⟨by decide, by decide⟩ ⟨Nat.zero_le _, Nat.zero_le _⟩ (c_Roa_spreadFrom X N h a1) rfl rfl (Nat.le_of_ble_eq_true rfl) dX11_way_37 (fun h2 => ?_)
            refine ro_aload_n (pc := 40) 0 dX11_way_40 rfl rfl ?_
            refine gf_X11_9 (pc := 41) wd_353 dX11_way_41 ?_
            refine ro_iload_n (pc := 44) 2 dX11_way_44 rfl rfl ?_
            refine ro_cvP (pc := 45) (kc := 1) (avs := [.int a2]) (st := []) ok_Roa_reaches wd_947 cl_37 cv_37 rfl ⟨by decide, by decide⟩ ⟨Nat.zero_le _, Nat.zero_le _⟩ (c_Roa_reaches X N h2 a2) rfl rfl (Nat.le_of_ble_eq_true rfl) dX11_way_45 (fun x3 => ?_)
            refine ro_if_ne (tgt := 53) (pc := 48) dX11_way_48 (by decide) (fun _ => ?_) (fun _ => ?_)
            · skip
              refine ro_iload_n (pc := 53) 3 dX11_way_53 rfl rfl ?_
              refine ro_if_ne (tgt := 66) (pc := 54) dX11_way_54 (by decide) (fun _ => ?_) (fun _ => ?_)
              · skip
                refine ro_iload_n (pc := 66) 3 dX11_way_66 rfl rfl ?_
                refine ro_iconst (v := 1) (pc := 67) dX11_way_67 (by decide) ?_
                refine ro_icmp_ne (tgt := 82) (pc := 68) dX11_way_68 (by decide) (fun _ => ?_) (fun _ => ?_)
                · skip
                  refine ro_iconst (v := (-1)) (pc := 82) dX11_way_82 (by decide) ?_
                  exact ro_iret (pc := 83) rfl rfl dX11_way_83
                · skip
                  refine ro_aload_n (pc := 71) 0 dX11_way_71 rfl rfl ?_
                  refine gf_X11_9 (pc := 72) wd_353 dX11_way_72 ?_
                  refine ro_iload_n (pc := 75) 2 dX11_way_75 rfl rfl ?_
                  refine ro_cvP (pc := 76) (kc := 1) (avs := [.int a2]) (st := []) ok_Roa_stretchesTo wd_955 cl_37 cv_37 rfl ⟨by decide, by decide⟩ ⟨Nat.zero_le _, Nat.zero_le _⟩ (c_Roa_stretchesTo X N h2 a2) rfl rfl (Nat.le_of_ble_eq_true rfl) dX11_way_76 (fun x4 => ?_)
                  refine ro_goto (tgt := 83) (pc := 79) dX11_way_79 (by decide) ?_
                  exact ro_iret (pc := 83) rfl rfl dX11_way_83
              · skip
                refine ro_aload_n (pc := 57) 0 dX11_way_57 rfl rfl ?_
                refine gf_X11_9 (pc := 58) wd_353 dX11_way_58 ?_
                refine ro_iload_n (pc := 61) 2 dX11_way_61 rfl rfl ?_
                refine ro_cvP (pc := 62) (kc := 1) (avs := [.int a2]) (st := []) ok_Roa_wearTo wd_951 cl_37 cv_37 rfl ⟨by decide, by decide⟩ ⟨Nat.zero_le _, Nat.zero_le _⟩ (c_Roa_wearTo X N h2 a2) rfl rfl (Nat.le_of_ble_eq_true rfl) dX11_way_62 (fun x5 => ?_)
                exact ro_iret (pc := 65) rfl rfl dX11_way_65
            · skip
              refine ro_iconst (v := (-1)) (pc := 51) dX11_way_51 (by decide) ?_
              exact ro_iret (pc := 52) rfl rfl dX11_way_52
          · skip
            refine ro_iconst (v := (-1)) (pc := 30) dX11_way_30 (by decide) ?_
            exact ro_iret (pc := 31) rfl rfl dX11_way_31
theorem c_Owe_way (X : mu_X) (N : Nat) (h : mu_H) (a1 : Int32) (a2 : Int32) (a3 : Int32) : ∀ r, f_Owe_way N h a1 a2 a3 = some r → mI X m_Owe_way 3 [.ref (xa X 0), .int a1, .int a2, .int a3] h r.1 r.2 := fun r hr => mI_of (by decide) rfl (Nat.le_of_ble_eq_true rfl) rfl (cb_Owe_way X N h a1 a2 a3 r hr)
set_option maxRecDepth 20000 in
theorem cb_Owe_whose (X : mu_X) (N : Nat) (h : mu_H) (a1 : Int32) (a2 : Int32) : aG X m_Owe_whose (rmk 8) (fun _ => ax X) (fun _ _ _ => True) 0 0 (fun r : Int32 × mu_H => qI X r.1 r.2) (f_Owe_whose N h a1 a2) 0 [(0, .ref (xa X 0)), (1, .int a1), (2, .int a2)] [] h := by
  unfold f_Owe_whose
  refine ro_aload_n (pc := 0) 0 dX11_whose_0 rfl rfl ?_
  refine gf_X11_1 (pc := 1) wd_345 dX11_whose_1 ?_
  refine ro_iload_n (pc := 4) 1 dX11_whose_4 rfl rfl ?_
  refine ro_cvP (pc := 5) (kc := 1) (avs := [.int a1]) (st := []) ok_Par_hasStretch wd_646 cl_3 cv_3 rfl ⟨by decide, by decide⟩ ⟨Nat.zero_le _, Nat.zero_le _⟩ (c_Par_hasStretch X N h 3 isP_i3 a1) rfl rfl (Nat.le_of_ble_eq_true rfl) dX11_whose_5 (fun x1 => ?_)
  refine ro_if_eq (tgt := 21) (pc := 8) dX11_whose_8 (by decide) (fun _ => ?_) (fun _ => ?_)
  · skip
    refine ro_iconst (v := (-1)) (pc := 21) dX11_whose_21 (by decide) ?_
    exact ro_iret (pc := 22) rfl rfl dX11_whose_22
  · skip
    refine ro_iload_n (pc := 11) 2 dX11_whose_11 rfl rfl ?_
    refine ro_if_lt (tgt := 21) (pc := 12) dX11_whose_12 (by decide) (fun _ => ?_) (fun _ => ?_)
    · skip
      refine ro_iconst (v := (-1)) (pc := 21) dX11_whose_21 (by decide) ?_
      exact ro_iret (pc := 22) rfl rfl dX11_whose_22
    · skip
      refine ro_iload_n (pc := 15) 2 dX11_whose_15 rfl rfl ?_
      refine ro_bipush (v := 99) (pc := 16) dX11_whose_16 (by decide) ?_
      refine ro_icmp_le (tgt := 23) (pc := 18) dX11_whose_18 (by decide) (fun _ => ?_) (fun _ => ?_)
      · skip
        refine ro_aload_n (pc := 23) 0 dX11_whose_23 rfl rfl ?_
        refine gf_X11_8 (pc := 24) wd_352 dX11_whose_24 ?_
        refine ro_iload_n (pc := 27) 1 dX11_whose_27 rfl rfl ?_
        refine ro_iload_n (pc := 28) 2 dX11_whose_28 rfl rfl ?_
        refine ro_cvI (pc := 29) (kc := 7) (avs := [.int a1, .int a2]) (st := []) ok_Lab_doersOf wd_1122 cl_22 cv_22 rfl ⟨by decide, by decide⟩ ⟨Nat.zero_le _, Nat.zero_le _⟩ (c_Lab_doersOf X N h a1 a2) rfl rfl (Nat.le_of_ble_eq_true rfl) dX11_whose_29 (fun x2 h3 => ?_)
        exact ro_iret (pc := 32) rfl rfl dX11_whose_32
      · skip
        refine ro_iconst (v := (-1)) (pc := 21) dX11_whose_21 (by decide) ?_
        exact ro_iret (pc := 22) rfl rfl dX11_whose_22
theorem c_Owe_whose (X : mu_X) (N : Nat) (h : mu_H) (a1 : Int32) (a2 : Int32) : ∀ r, f_Owe_whose N h a1 a2 = some r → mI X m_Owe_whose 8 [.ref (xa X 0), .int a1, .int a2] h r.1 r.2 := fun r hr => mI_of (by decide) rfl (Nat.le_of_ble_eq_true rfl) rfl (cb_Owe_whose X N h a1 a2 r hr)
set_option maxRecDepth 20000 in
theorem cb_Owe_work (X : mu_X) (N : Nat) (h : mu_H) (a1 : Int32) (a2 : Int32) (a3 : Int32) : aG X m_Owe_work (rmk 7) (fun _ => ax X) (fun _ _ _ => True) 0 0 (fun r : Int32 × mu_H => qI X r.1 r.2) (f_Owe_work N h a1 a2 a3) 0 [(0, .ref (xa X 0)), (1, .int a1), (2, .int a2), (3, .int a3)] [] h := by
  unfold f_Owe_work
  refine ro_aload_n (pc := 0) 0 dX11_work_0 rfl rfl ?_
  refine gf_X11_1 (pc := 1) wd_345 dX11_work_1 ?_
  refine ro_iload_n (pc := 4) 1 dX11_work_4 rfl rfl ?_
  refine ro_cvP (pc := 5) (kc := 1) (avs := [.int a1]) (st := []) ok_Par_hasHouse wd_671 cl_3 cv_3 rfl ⟨by decide, by decide⟩ ⟨Nat.zero_le _, Nat.zero_le _⟩ (c_Par_hasHouse X N h 3 isP_i3 a1) rfl rfl (Nat.le_of_ble_eq_true rfl) dX11_work_5 (fun x1 => ?_)
  refine ro_jn (pcj := 22) (lvs := fun (s : Unit) => [(0, .ref (xa X 0))]) (hs := fun (s : Unit) => h) (sts := fun (s : Unit) => []) (fun s => ?_) (fun j2 hj2 => ?_)
  · try dsimp only
    refine ro_aload_n (pc := 22) 0 dX11_work_22 rfl rfl ?_
    refine ro_iconst (v := 0) (pc := 23) dX11_work_23 (by decide) ?_
    refine ro_cvI (pc := 24) (kc := 1) (avs := [.int 0]) (st := []) ok_Owe_refuse wd_732 cl_0 cv_0 rfl ⟨by decide, by decide⟩ ⟨Nat.zero_le _, Nat.zero_le _⟩ (c_Owe_refuse X N h 0) rfl rfl (Nat.le_of_ble_eq_true rfl) dX11_work_24 (fun x3 h4 => ?_)
    exact ro_iret (pc := 27) rfl rfl dX11_work_27
  · skip
    refine ro_if_eq (tgt := 22) (pc := 8) dX11_work_8 (by decide) (fun _ => ?_) (fun _ => ?_)
    · skip
      refine ro_lv [0] rfl ?_
      exact hj2 ()
    · skip
      refine ro_aload_n (pc := 11) 0 dX11_work_11 rfl rfl ?_
      refine gf_X11_1 (pc := 12) wd_345 dX11_work_12 ?_
      refine ro_iload_n (pc := 15) 2 dX11_work_15 rfl rfl ?_
      refine ro_cvP (pc := 16) (kc := 1) (avs := [.int a2]) (st := []) ok_Par_hasStretch wd_646 cl_3 cv_3 rfl ⟨by decide, by decide⟩ ⟨Nat.zero_le _, Nat.zero_le _⟩ (c_Par_hasStretch X N h 3 isP_i3 a2) rfl rfl (Nat.le_of_ble_eq_true rfl) dX11_work_16 (fun x6 => ?_)
      refine ro_if_ne (tgt := 28) (pc := 19) dX11_work_19 (by decide) (fun _ => ?_) (fun _ => ?_)
      · skip
        refine ro_iload_n (pc := 28) 3 dX11_work_28 rfl rfl ?_
        refine ro_jn (pcj := 37) (lvs := fun (s : Unit) => [(0, .ref (xa X 0))]) (hs := fun (s : Unit) => h) (sts := fun (s : Unit) => []) (fun s => ?_) (fun j7 hj7 => ?_)
        · try dsimp only
          refine ro_aload_n (pc := 37) 0 dX11_work_37 rfl rfl ?_
          refine ro_iconst (v := 1) (pc := 38) dX11_work_38 (by decide) ?_
          refine ro_cvI (pc := 39) (kc := 1) (avs := [.int 1]) (st := []) ok_Owe_refuse wd_732 cl_0 cv_0 rfl ⟨by decide, by decide⟩ ⟨Nat.zero_le _, Nat.zero_le _⟩ (c_Owe_refuse X N h 1) rfl rfl (Nat.le_of_ble_eq_true rfl) dX11_work_39 (fun x8 h9 => ?_)
          exact ro_iret (pc := 42) rfl rfl dX11_work_42
        · skip
          refine ro_if_lt (tgt := 37) (pc := 29) dX11_work_29 (by decide) (fun _ => ?_) (fun _ => ?_)
          · skip
            refine ro_lv [0] rfl ?_
            exact hj7 ()
          · skip
            refine ro_iload_n (pc := 32) 3 dX11_work_32 rfl rfl ?_
            refine ro_iconst (v := 4) (pc := 33) dX11_work_33 (by decide) ?_
            refine ro_icmp_lt (tgt := 43) (pc := 34) dX11_work_34 (by decide) (fun _ => ?_) (fun _ => ?_)
            · skip
              refine ro_aload_n (pc := 43) 0 dX11_work_43 rfl rfl ?_
              refine gf_X11_4 (pc := 44) wd_348 dX11_work_44 ?_
              refine ro_iload_n (pc := 47) 1 dX11_work_47 rfl rfl ?_
              refine ro_cvP (pc := 48) (kc := 1) (avs := [.int a1]) (st := []) ok_Sta_owed wd_736 cl_14 cv_14 rfl ⟨by decide, by decide⟩ ⟨Nat.zero_le _, Nat.zero_le _⟩ (c_Sta_owed X N h 14 isT_i14 a1) rfl rfl (Nat.le_of_ble_eq_true rfl) dX11_work_48 (fun x11 => ?_)
              refine ro_iconst (v := 1) (pc := 51) dX11_work_51 (by decide) ?_
              refine ro_jn (pcj := 68) (lvs := fun (s : Unit) => [(0, .ref (xa X 0))]) (hs := fun (s : Unit) => h) (sts := fun (s : Unit) => []) (fun s => ?_) (fun j12 hj12 => ?_)
              · try dsimp only
                refine ro_aload_n (pc := 68) 0 dX11_work_68 rfl rfl ?_
                refine ro_iconst (v := 2) (pc := 69) dX11_work_69 (by decide) ?_
                refine ro_cvI (pc := 70) (kc := 1) (avs := [.int 2]) (st := []) ok_Owe_refuse wd_732 cl_0 cv_0 rfl ⟨by decide, by decide⟩ ⟨Nat.zero_le _, Nat.zero_le _⟩ (c_Owe_refuse X N h 2) rfl rfl (Nat.le_of_ble_eq_true rfl) dX11_work_70 (fun x13 h14 => ?_)
                exact ro_iret (pc := 73) rfl rfl dX11_work_73
              · skip
                refine ro_icmp_lt (tgt := 68) (pc := 52) dX11_work_52 (by decide) (fun _ => ?_) (fun _ => ?_)
                · skip
                  refine ro_lv [0] rfl ?_
                  exact hj12 ()
                · skip
                  refine ro_aload_n (pc := 55) 0 dX11_work_55 rfl rfl ?_
                  refine gf_X11_8 (pc := 56) wd_352 dX11_work_56 ?_
                  refine ro_iload_n (pc := 59) 1 dX11_work_59 rfl rfl ?_
                  refine ro_iload_n (pc := 60) 2 dX11_work_60 rfl rfl ?_
                  refine ro_iload_n (pc := 61) 3 dX11_work_61 rfl rfl ?_
                  refine ro_cvP (pc := 62) (kc := 4) (avs := [.int a1, .int a2, .int a3]) (st := []) ok_Lab_canWork wd_687 cl_22 cv_22 rfl ⟨by decide, by decide⟩ ⟨Nat.zero_le _, Nat.zero_le _⟩ (c_Lab_canWork X N h a1 a2 a3) rfl rfl (Nat.le_of_ble_eq_true rfl) dX11_work_62 (fun x16 => ?_)
                  refine ro_if_ne (tgt := 74) (pc := 65) dX11_work_65 (by decide) (fun _ => ?_) (fun _ => ?_)
                  · skip
                    refine ro_aload_n (pc := 74) 0 dX11_work_74 rfl rfl ?_
                    refine gf_X11_7 (pc := 75) wd_351 dX11_work_75 ?_
                    refine ro_aload_n (pc := 78) 0 dX11_work_78 rfl rfl ?_
                    refine gf_X11_4 (pc := 79) wd_348 dX11_work_79 ?_
                    refine ro_cvV (pc := 82) (kc := 2) (avs := [.ref (xa X 14)]) (st := []) ok_Pas_keep wd_740 cl_20 cv_20 rfl ⟨by decide, by decide⟩ ⟨Nat.zero_le _, Nat.zero_le _⟩ (c_Pas_keep X N h 14 isT_i14) rfl rfl (Nat.le_of_ble_eq_true rfl) dX11_work_82 (fun h17 => ?_)
                    refine ro_aload_n (pc := 85) 0 dX11_work_85 rfl rfl ?_
                    refine gf_X11_8 (pc := 86) wd_352 dX11_work_86 ?_
                    refine ro_iload_n (pc := 89) 1 dX11_work_89 rfl rfl ?_
                    refine ro_iload_n (pc := 90) 2 dX11_work_90 rfl rfl ?_
                    refine ro_iload_n (pc := 91) 3 dX11_work_91 rfl rfl ?_
                    refine ro_cvV (pc := 92) (kc := 6) (avs := [.int a1, .int a2, .int a3]) (st := []) ok_Lab_workDay wd_749 cl_22 cv_22 rfl ⟨by decide, by decide⟩ ⟨Nat.zero_le _, Nat.zero_le _⟩ (c_Lab_workDay X N h17 a1 a2 a3) rfl rfl (Nat.le_of_ble_eq_true rfl) dX11_work_92 (fun h18 => ?_)
                    refine ro_aload_n (pc := 95) 0 dX11_work_95 rfl rfl ?_
                    refine gf_X11_4 (pc := 96) wd_348 dX11_work_96 ?_
                    refine ro_iload_n (pc := 99) 2 dX11_work_99 rfl rfl ?_
                    refine ro_cvP (pc := 100) (kc := 1) (avs := [.int a2]) (st := []) ok_Sta_wear wd_651 cl_14 cv_14 rfl ⟨by decide, by decide⟩ ⟨Nat.zero_le _, Nat.zero_le _⟩ (c_Sta_wear X N h18 14 isT_i14 a2) rfl rfl (Nat.le_of_ble_eq_true rfl) dX11_work_100 (fun x19 => ?_)
                    exact ro_iret (pc := 103) rfl rfl dX11_work_103
                  · skip
                    refine ro_lv [0] rfl ?_
                    exact hj12 ()
            · skip
              refine ro_lv [0] rfl ?_
              exact hj7 ()
      · skip
        refine ro_lv [0] rfl ?_
        exact hj2 ()
theorem c_Owe_work (X : mu_X) (N : Nat) (h : mu_H) (a1 : Int32) (a2 : Int32) (a3 : Int32) : ∀ r, f_Owe_work N h a1 a2 a3 = some r → mI X m_Owe_work 7 [.ref (xa X 0), .int a1, .int a2, .int a3] h r.1 r.2 := fun r hr => mI_of (by decide) rfl (Nat.le_of_ble_eq_true rfl) rfl (cb_Owe_work X N h a1 a2 a3 r hr)
set_option maxRecDepth 20000 in
theorem cb_Owe_worst (X : mu_X) (N : Nat) (h : mu_H) : aG X m_Owe_worst (rmk 3) (fun _ => ax X) (fun _ _ _ => True) 0 0 (fun r : Int32 => qI X r h) (f_Owe_worst N h) 0 [(0, .ref (xa X 0))] [] h := by
  unfold f_Owe_worst
  refine ro_aload_n (pc := 0) 0 dX11_worst_0 rfl rfl ?_
  refine gf_X11_1 (pc := 1) wd_345 dX11_worst_1 ?_
  refine ro_cvP (pc := 4) (kc := 1) (avs := []) (st := []) ok_Par_isNone wd_637 cl_3 cv_3 rfl ⟨by decide, by decide⟩ ⟨Nat.zero_le _, Nat.zero_le _⟩ (c_Par_isNone X N h 3 isP_i3) rfl rfl (Nat.le_of_ble_eq_true rfl) dX11_worst_4 (fun x1 => ?_)
  refine ro_if_eq (tgt := 14) (pc := 7) dX11_worst_7 (by decide) (fun _ => ?_) (fun _ => ?_)
  · skip
    refine ro_aload_n (pc := 14) 0 dX11_worst_14 rfl rfl ?_
    refine gf_X11_9 (pc := 15) wd_353 dX11_worst_15 ?_
    refine ro_cvP (pc := 18) (kc := 2) (avs := []) (st := []) ok_Roa_mostWorn wd_1168 cl_37 cv_37 rfl ⟨by decide, by decide⟩ ⟨Nat.zero_le _, Nat.zero_le _⟩ (c_Roa_mostWorn X N h) rfl rfl (Nat.le_of_ble_eq_true rfl) dX11_worst_18 (fun x2 => ?_)
    exact ro_iret (pc := 21) rfl rfl dX11_worst_21
  · skip
    refine ro_iconst (v := (-1)) (pc := 10) dX11_worst_10 (by decide) ?_
    refine ro_goto (tgt := 21) (pc := 11) dX11_worst_11 (by decide) ?_
    exact ro_iret (pc := 21) rfl rfl dX11_worst_21
theorem c_Owe_worst (X : mu_X) (N : Nat) (h : mu_H) : ∀ r, f_Owe_worst N h = some r → mI X m_Owe_worst 3 [.ref (xa X 0)] h r h := fun r hr => mI_of (by decide) rfl (Nat.le_of_ble_eq_true rfl) rfl (cb_Owe_worst X N h r hr)
set_option maxRecDepth 20000 in
theorem cb_Owe_worth (X : mu_X) (N : Nat) (h : mu_H) (a1 : Int32) : aG X m_Owe_worth (rmk 8) (fun _ => ax X) (fun _ _ _ => True) 0 0 (fun r : Int32 × mu_H => qI X r.1 r.2) (f_Owe_worth N h a1) 0 [(0, .ref (xa X 0)), (1, .int a1)] [] h := by
  unfold f_Owe_worth
  refine ro_aload_n (pc := 0) 0 dX11_worth_0 rfl rfl ?_
  refine gf_X11_1 (pc := 1) wd_345 dX11_worth_1 ?_
  refine ro_iload_n (pc := 4) 1 dX11_worth_4 rfl rfl ?_
  refine ro_cvP (pc := 5) (kc := 1) (avs := [.int a1]) (st := []) ok_Par_hasHouse wd_671 cl_3 cv_3 rfl ⟨by decide, by decide⟩ ⟨Nat.zero_le _, Nat.zero_le _⟩ (c_Par_hasHouse X N h 3 isP_i3 a1) rfl rfl (Nat.le_of_ble_eq_true rfl) dX11_worth_5 (fun x1 => ?_)
  refine ro_if_eq (tgt := 22) (pc := 8) dX11_worth_8 (by decide) (fun _ => ?_) (fun _ => ?_)
  · skip
    refine ro_iconst (v := (-1)) (pc := 22) dX11_worth_22 (by decide) ?_
    exact ro_iret (pc := 23) rfl rfl dX11_worth_23
  · skip
    refine ro_aload_n (pc := 11) 0 dX11_worth_11 rfl rfl ?_
    refine gf_X11_8 (pc := 12) wd_352 dX11_worth_12 ?_
    refine ro_iload_n (pc := 15) 1 dX11_worth_15 rfl rfl ?_
    refine ro_cvI (pc := 16) (kc := 7) (avs := [.int a1]) (st := []) ok_Lab_mostWorth wd_963 cl_22 cv_22 rfl ⟨by decide, by decide⟩ ⟨Nat.zero_le _, Nat.zero_le _⟩ (c_Lab_mostWorth X N h a1) rfl rfl (Nat.le_of_ble_eq_true rfl) dX11_worth_16 (fun x2 h3 => ?_)
    refine ro_goto (tgt := 23) (pc := 19) dX11_worth_19 (by decide) ?_
    exact ro_iret (pc := 23) rfl rfl dX11_worth_23
theorem c_Owe_worth (X : mu_X) (N : Nat) (h : mu_H) (a1 : Int32) : ∀ r, f_Owe_worth N h a1 = some r → mI X m_Owe_worth 8 [.ref (xa X 0), .int a1] h r.1 r.2 := fun r hr => mI_of (by decide) rfl (Nat.le_of_ble_eq_true rfl) rfl (cb_Owe_worth X N h a1 r hr)
set_option maxRecDepth 20000 in
theorem cb_Owe_years (X : mu_X) (N : Nat) (h : mu_H) (a1 : Int32) (a2 : Int64) : aG X m_Owe_years (rmk 8) (fun _ => ax X) (fun _ _ _ => True) 0 0 (fun r : Int32 × mu_H => qI X r.1 r.2) (f_Owe_years N h a1 a2) 0 [(0, .ref (xa X 0)), (1, .int a1), (2, .long a2)] [] h := by
  unfold f_Owe_years
  refine ro_aload_n (pc := 0) 0 dX11_years_0 rfl rfl ?_
  refine gf_X11_1 (pc := 1) wd_345 dX11_years_1 ?_
  refine ro_cvP (pc := 4) (kc := 1) (avs := []) (st := []) ok_Par_isNone wd_637 cl_3 cv_3 rfl ⟨by decide, by decide⟩ ⟨Nat.zero_le _, Nat.zero_le _⟩ (c_Par_isNone X N h 3 isP_i3) rfl rfl (Nat.le_of_ble_eq_true rfl) dX11_years_4 (fun x1 => ?_)
  refine ro_if_ne (tgt := 36) (pc := 7) dX11_years_7 (by decide) (fun _ => ?_) (fun _ => ?_)
  · skip
    refine ro_iconst (v := (-1)) (pc := 36) dX11_years_36 (by decide) ?_
    exact ro_iret (pc := 37) rfl rfl dX11_years_37
  · skip
    refine ro_iload_n (pc := 10) 1 dX11_years_10 rfl rfl ?_
    refine ro_iconst (v := 1) (pc := 11) dX11_years_11 (by decide) ?_
    refine ro_icmp_lt (tgt := 36) (pc := 12) dX11_years_12 (by decide) (fun _ => ?_) (fun _ => ?_)
    · skip
      refine ro_iconst (v := (-1)) (pc := 36) dX11_years_36 (by decide) ?_
      exact ro_iret (pc := 37) rfl rfl dX11_years_37
    · skip
      refine ro_iload_n (pc := 15) 1 dX11_years_15 rfl rfl ?_
      refine ro_bipush (v := 60) (pc := 16) dX11_years_16 (by decide) ?_
      refine ro_icmp_gt (tgt := 36) (pc := 18) dX11_years_18 (by decide) (fun _ => ?_) (fun _ => ?_)
      · skip
        refine ro_iconst (v := (-1)) (pc := 36) dX11_years_36 (by decide) ?_
        exact ro_iret (pc := 37) rfl rfl dX11_years_37
      · skip
        refine ro_aload_n (pc := 21) 0 dX11_years_21 rfl rfl ?_
        refine gf_X11_4 (pc := 22) wd_348 dX11_years_22 ?_
        refine ro_cvP (pc := 25) (kc := 1) (avs := []) (st := []) ok_Sta_season wd_805 cl_14 cv_14 rfl ⟨by decide, by decide⟩ ⟨Nat.zero_le _, Nat.zero_le _⟩ (c_Sta_season X N h 14 isT_i14) rfl rfl (Nat.le_of_ble_eq_true rfl) dX11_years_25 (fun x2 => ?_)
        refine ro_iload_n (pc := 28) 1 dX11_years_28 rfl rfl ?_
        refine ro_iadd (pc := 29) dX11_years_29 ?_
        refine ro_sipush (v := 3999) (pc := 30) dX11_years_30 (by decide) ?_
        refine ro_icmp_le (tgt := 38) (pc := 33) dX11_years_33 (by decide) (fun _ => ?_) (fun _ => ?_)
        · skip
          refine ro_aload_n (pc := 38) 0 dX11_years_38 rfl rfl ?_
          refine gf_X11_8 (pc := 39) wd_352 dX11_years_39 ?_
          refine ro_lload_n (pc := 42) 2 dX11_years_42 rfl rfl ?_
          refine ro_cvV (pc := 43) (kc := 1) (avs := [.long a2]) (st := []) ok_Lab_sow wd_852 cl_22 cv_22 rfl ⟨by decide, by decide⟩ ⟨Nat.zero_le _, Nat.zero_le _⟩ (c_Lab_sow X N h a2) rfl rfl (Nat.le_of_ble_eq_true rfl) dX11_years_43 (fun h3 => ?_)
          refine ro_iconst (v := 0) (pc := 46) dX11_years_46 (by decide) ?_
          refine ro_istore (pc := 47) (lv' := [(4, .int 0), (0, .ref (xa X 0)), (1, .int a1), (2, .long a2)]) dX11_years_47 (by decide) rfl ?_
          refine ro_jn (pcj := 86) (lvs := fun (s : mu_H) => [(0, .ref (xa X 0))]) (hs := fun (s : mu_H) => s) (sts := fun (s : mu_H) => []) (fun h5 => ?_) (fun k4 hk4 => ?_)
          · try dsimp only
            refine ro_aload_n (pc := 86) 0 dX11_years_86 rfl rfl ?_
            refine gf_X11_4 (pc := 87) wd_348 dX11_years_87 ?_
            refine ro_cvP (pc := 90) (kc := 1) (avs := []) (st := []) ok_Sta_season wd_805 cl_14 cv_14 rfl ⟨by decide, by decide⟩ ⟨Nat.zero_le _, Nat.zero_le _⟩ (c_Sta_season X N h5 14 isT_i14) rfl rfl (Nat.le_of_ble_eq_true rfl) dX11_years_90 (fun x6 => ?_)
            exact ro_iret (pc := 93) rfl rfl dX11_years_93
          · skip
            refine ro_lv [1, 2, 0] rfl ?_
            refine ro_lp (pc := 49) (lvs := fun (s : Int32 × mu_H) => [(0, .ref (xa X 0)), (1, .int a1), (4, .int s.1)]) (hs := fun (s : Int32 × mu_H) => s.2) (fun rec7 hrec7 s => ?_) N (0, h3)
            obtain ⟨x8, h9⟩ := s; unfold f_Owe_years_L49; try dsimp only
            refine ro_iload (pc := 49) 2 dX11_years_49 rfl ?_
            refine ro_iload_n (pc := 51) 1 dX11_years_51 rfl rfl ?_
            refine ro_icmp_ge (tgt := 86) (pc := 52) dX11_years_52 (by decide) (fun _ => ?_) (fun _ => ?_)
            · skip
              refine ro_lv [0] rfl ?_
              exact hk4 h9
            · skip
              refine ro_aload_n (pc := 55) 0 dX11_years_55 rfl rfl ?_
              refine gf_X11_7 (pc := 56) wd_351 dX11_years_56 ?_
              refine ro_aload_n (pc := 59) 0 dX11_years_59 rfl rfl ?_
              refine gf_X11_4 (pc := 60) wd_348 dX11_years_60 ?_
              refine ro_cvV (pc := 63) (kc := 2) (avs := [.ref (xa X 14)]) (st := []) ok_Pas_keep wd_740 cl_20 cv_20 rfl ⟨by decide, by decide⟩ ⟨Nat.zero_le _, Nat.zero_le _⟩ (c_Pas_keep X N h9 14 isT_i14) rfl rfl (Nat.le_of_ble_eq_true rfl) dX11_years_63 (fun h10 => ?_)
              refine ro_aload_n (pc := 66) 0 dX11_years_66 rfl rfl ?_
              refine gf_X11_8 (pc := 67) wd_352 dX11_years_67 ?_
              refine ro_cvV (pc := 70) (kc := 7) (avs := []) (st := []) ok_Lab_workDrawnDays wd_856 cl_22 cv_22 rfl ⟨by decide, by decide⟩ ⟨Nat.zero_le _, Nat.zero_le _⟩ (c_Lab_workDrawnDays X N h10) rfl rfl (Nat.le_of_ble_eq_true rfl) dX11_years_70 (fun h11 => ?_)
              refine ro_aload_n (pc := 73) 0 dX11_years_73 rfl rfl ?_
              refine gf_X11_8 (pc := 74) wd_352 dX11_years_74 ?_
              refine ro_cvV (pc := 77) (kc := 4) (avs := []) (st := []) ok_Lab_passSeason wd_806 cl_22 cv_22 rfl ⟨by decide, by decide⟩ ⟨Nat.zero_le _, Nat.zero_le _⟩ (c_Lab_passSeason X N h11) rfl rfl (Nat.le_of_ble_eq_true rfl) dX11_years_77 (fun h12 => ?_)
              refine ro_iinc (pc := 80) (v := x8 + 1) (lv' := [(4, .int (x8 + 1)), (0, .ref (xa X 0)), (1, .int a1)]) 2 dX11_years_80 rfl rfl (by decide) rfl ?_
              refine ro_goto (tgt := 49) (pc := 83) dX11_years_83 (by decide) ?_
              refine ro_lv [1, 2, 0] rfl ?_
              exact hrec7 (x8 + 1, h12)
        · skip
          refine ro_iconst (v := (-1)) (pc := 36) dX11_years_36 (by decide) ?_
          exact ro_iret (pc := 37) rfl rfl dX11_years_37
theorem c_Owe_years (X : mu_X) (N : Nat) (h : mu_H) (a1 : Int32) (a2 : Int64) : ∀ r, f_Owe_years N h a1 a2 = some r → mI X m_Owe_years 8 [.ref (xa X 0), .int a1, .long a2] h r.1 r.2 := fun r hr => mI_of (by decide) rfl (Nat.le_of_ble_eq_true rfl) rfl (cb_Owe_years X N h a1 a2 r hr)
