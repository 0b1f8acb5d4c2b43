def m_Mod_count : mu_M := (RX12, yX12_count, cX12_count, 2, some .int)
theorem ok_Mod_count : mOKv m_Mod_count 1 := ⟨wd_1921, wd_1922, wd_107, wd_1923, by decide, by decide, by decide +kernel⟩
def m_Mod_reachedBut : mu_M := (RX12, yX12_reachedBut, cX12_reachedBut, 5, some .int)
theorem ok_Mod_reachedBut : mOKv m_Mod_reachedBut 1 := ⟨wd_1906, wd_93, wd_107, wd_1907, by decide, by decide, by decide +kernel⟩
def m_Mod_cut : mu_M := (RX12, yX12_cut, cX12_cut, 3, some .int)
theorem ok_Mod_cut : mOKv m_Mod_cut 0 := ⟨wd_1901, wd_1902, wd_107, wd_1903, by decide, by decide, by decide +kernel⟩
def m_Mod_isRefused : mu_M := (RX12, yX12_isRefused, cX12_isRefused, 2, some .boolean)
theorem ok_Mod_isRefused : mOKv m_Mod_isRefused 1 := ⟨wd_1703, wd_71, wd_107, wd_1704, by decide, by decide, by decide +kernel⟩
def m_Mod_keep : mu_M := (RX12, yX12_keep, cX12_keep, 2, none)
theorem ok_Mod_keep : mOKv m_Mod_keep 0 := ⟨wd_1707, wd_72, wd_107, wd_1708, by decide, by decide, by decide +kernel⟩
def m_Mod_isAt : mu_M := (RX12, yX12_isAt, cX12_isAt, 3, some .boolean)
theorem ok_Mod_isAt : mOKv m_Mod_isAt 2 := ⟨wd_1723, wd_74, wd_107, wd_1724, by decide, by decide, by decide +kernel⟩
def m_Mod_ditch : mu_M := (RX12, yX12_ditch, cX12_ditch, 3, some .int)
theorem ok_Mod_ditch : mOKv m_Mod_ditch 1 := ⟨wd_1718, wd_1719, wd_107, wd_1720, by decide, by decide, by decide +kernel⟩
def m_Mod_does : mu_M := (RX12, yX12_does, cX12_does, 4, some .int)
theorem ok_Mod_does : mOKv m_Mod_does 3 := ⟨wd_1659, wd_1660, wd_107, wd_1661, by decide, by decide, by decide +kernel⟩
def m_Mod_draw : mu_M := (RX12, yX12_draw, cX12_draw, 2, some .int)
theorem ok_Mod_draw : mOKv m_Mod_draw 1 := ⟨wd_1755, wd_80, wd_107, wd_1756, by decide, by decide, by decide +kernel⟩
def m_Mod_workNow : mu_M := (RX12, yX12_workNow, cX12_workNow, 4, none)
theorem ok_Mod_workNow : mOKv m_Mod_workNow 3 := ⟨wd_1711, wd_73, wd_107, wd_1712, by decide, by decide, by decide +kernel⟩
def m_Mod_drawDay : mu_M := (RX12, yX12_drawDay, cX12_drawDay, 4, none)
theorem ok_Mod_drawDay : mOKv m_Mod_drawDay 1 := ⟨wd_1751, wd_79, wd_107, wd_1752, by decide, by decide, by decide +kernel⟩
def m_Mod_end : mu_M := (RX12, yX12_end, cX12_end, 2, some .boolean)
theorem ok_Mod_end : mOKv m_Mod_end 1 := ⟨wd_1474, wd_1475, wd_107, wd_1476, by decide, by decide, by decide +kernel⟩
def m_Mod_ends : mu_M := (RX12, yX12_ends, cX12_ends, 5, some .int)
theorem ok_Mod_ends : mOKv m_Mod_ends 0 := ⟨wd_1897, wd_1898, wd_107, wd_1899, by decide, by decide, by decide +kernel⟩
def m_Mod_worn : mu_M := (RX12, yX12_worn, cX12_worn, 2, some .int)
theorem ok_Mod_worn : mOKv m_Mod_worn 0 := ⟨wd_1884, wd_92, wd_107, wd_1885, by decide, by decide, by decide +kernel⟩
def m_Mod_wearOn : mu_M := (RX12, yX12_wearOn, cX12_wearOn, 4, none)
theorem ok_Mod_wearOn : mOKv m_Mod_wearOn 1 := ⟨wd_1739, wd_77, wd_107, wd_1740, by decide, by decide, by decide +kernel⟩
def m_Mod_fails : mu_M := (RX12, yX12_fails, cX12_fails, 5, some .int)
theorem ok_Mod_fails : mOKv m_Mod_fails 1 := ⟨wd_1879, wd_1880, wd_107, wd_1881, by decide, by decide, by decide +kernel⟩
def m_Mod_usual : mu_M := (RX12, yX12_usual, cX12_usual, 2, some .int)
theorem ok_Mod_usual : mOKs m_Mod_usual 2 := ⟨wd_1486, wd_107, wd_1487, by decide, by decide, by decide +kernel⟩
def m_Mod_itemOf : mu_M := (RX12, yX12_itemOf, cX12_itemOf, 2, some .int)
theorem ok_Mod_itemOf : mOKs m_Mod_itemOf 2 := ⟨wd_1501, wd_107, wd_1502, by decide, by decide, by decide +kernel⟩
def m_Mod_lowest : mu_M := (RX12, yX12_lowest, cX12_lowest, 2, some .int)
theorem ok_Mod_lowest : mOKs m_Mod_lowest 2 := ⟨wd_1507, wd_107, wd_1508, by decide, by decide, by decide +kernel⟩
def m_Mod_highest : mu_M := (RX12, yX12_highest, cX12_highest, 2, some .int)
theorem ok_Mod_highest : mOKs m_Mod_highest 2 := ⟨wd_1510, wd_107, wd_1511, by decide, by decide, by decide +kernel⟩
def m_Mod_number : mu_M := (RX12, yX12_number, cX12_number, 4, some .int)
theorem ok_Mod_number : mOKv m_Mod_number 2 := ⟨wd_1514, wd_39, wd_107, wd_1515, by decide, by decide, by decide +kernel⟩
def m_Mod_items : mu_M := (RX12, yX12_items, cX12_items, 7, none)
theorem ok_Mod_items : mOKv m_Mod_items 4 := ⟨wd_1498, wd_38, wd_107, wd_1499, by decide, by decide, by decide +kernel⟩
def m_Mod_isWhole : mu_M := (RX12, yX12_isWhole, cX12_isWhole, 3, some .boolean)
theorem ok_Mod_isWhole : mOKv m_Mod_isWhole 0 := ⟨wd_1528, wd_41, wd_107, wd_1529, by decide, by decide, by decide +kernel⟩
def m_Mod_readParish : mu_M := (RX12, yX12_readParish, cX12_readParish, 4, some .int)
theorem ok_Mod_readParish : mOKv m_Mod_readParish 0 := ⟨wd_1483, wd_35, wd_107, wd_1484, by decide, by decide, by decide +kernel⟩
def m_Mod_open : mu_M := (RX12, yX12_open, cX12_open, 2, none)
theorem ok_Mod_open : mOKv m_Mod_open 1 := ⟨wd_1536, wd_43, wd_107, wd_1537, by decide, by decide, by decide +kernel⟩
def m_Mod_readLaw : mu_M := (RX12, yX12_readLaw, cX12_readLaw, 2, some .int)
theorem ok_Mod_readLaw : mOKv m_Mod_readLaw 1 := ⟨wd_1532, wd_42, wd_107, wd_1533, by decide, by decide, by decide +kernel⟩
def m_Mod_fault : mu_M := (RX12, yX12_fault, cX12_fault, 2, some .int)
theorem ok_Mod_fault : mOKv m_Mod_fault 1 := ⟨wd_1478, wd_1479, wd_107, wd_1480, by decide, by decide, by decide +kernel⟩
def m_Mod_feed : mu_M := (RX12, yX12_feed, cX12_feed, 9, some .int)
theorem ok_Mod_feed : mOKv m_Mod_feed 5 := ⟨wd_1467, wd_1468, wd_107, wd_1469, by decide, by decide, by decide +kernel⟩
def m_Mod_isGameKind : mu_M := (RX12, yX12_isGameKind, cX12_isGameKind, 1, some .boolean)
theorem ok_Mod_isGameKind : mOKs m_Mod_isGameKind 1 := ⟨wd_1808, wd_107, wd_1809, by decide, by decide, by decide +kernel⟩
def m_Mod_gameOf : mu_M := (RX12, yX12_gameOf, cX12_gameOf, 6, some .int)
theorem ok_Mod_gameOf : mOKv m_Mod_gameOf 5 := ⟨wd_1813, wd_85, wd_107, wd_1814, by decide, by decide, by decide +kernel⟩
def m_Mod_game : mu_M := (RX12, yX12_game, cX12_game, 7, some .int)
theorem ok_Mod_game : mOKv m_Mod_game 6 := ⟨wd_1800, wd_1801, wd_107, wd_1802, by decide, by decide, by decide +kernel⟩
def m_Mod_haul : mu_M := (RX12, yX12_haul, cX12_haul, 3, some .int)
theorem ok_Mod_haul : mOKv m_Mod_haul 2 := ⟨wd_1647, wd_1648, wd_107, wd_1649, by decide, by decide, by decide +kernel⟩
def m_Mod_honest : mu_M := (RX12, yX12_honest, cX12_honest, 4, some .int)
theorem ok_Mod_honest : mOKv m_Mod_honest 1 := ⟨wd_1865, wd_1866, wd_107, wd_1867, by decide, by decide, by decide +kernel⟩
def m_Mod_house : mu_M := (RX12, yX12_house, cX12_house, 3, some .int)
theorem ok_Mod_house : mOKv m_Mod_house 2 := ⟨wd_1631, wd_1632, wd_107, wd_1633, by decide, by decide, by decide +kernel⟩
def m_Mod_image : mu_M := (RX12, yX12_image, cX12_image, 2, some .int)
theorem ok_Mod_image : mOKv m_Mod_image 0 := ⟨wd_1913, wd_1914, wd_107, wd_1915, by decide, by decide, by decide +kernel⟩
def m_Mod_isRest : mu_M := (RX12, yX12_isRest, cX12_isRest, 7, some .boolean)
theorem ok_Mod_isRest : mOKv m_Mod_isRest 5 := ⟨wd_1821, wd_86, wd_107, wd_1822, by decide, by decide, by decide +kernel⟩
def m_Mod_law : mu_M := (RX12, yX12_law, cX12_law, 2, some .boolean)
theorem ok_Mod_law : mOKv m_Mod_law 1 := ⟨wd_1643, wd_1644, wd_107, wd_1645, by decide, by decide, by decide +kernel⟩
def f_Mod_count (N : Nat) (h : mu_H) (a1 : Int32) : Option Int32 :=
  if a1 = 0 then
    some (h.1 51 25)
  else if a1 = 1 then
    some (h.1 51 26)
  else if a1 = 2 then
    some (h.1 51 13)
  else if a1 = 3 then
    some (h.1 51 2)
  else if a1 = 4 then
    some (h.1 51 29)
  else if a1 = 5 then
    gd (ix 32 214) <|
    some (h.1 68 (32 : Int32).toNatClampNeg)
  else if a1 = 6 then
    gd (ix 30 214) <|
    some (h.1 68 (30 : Int32).toNatClampNeg)
  else if a1 = 7 then
    (f_Mod_sumOf N h 0 (h.1 51 25)).bind fun x1 =>
    some x1
  else if a1 = 8 then
    (f_Mod_sumOf N h 18 (h.1 51 26)).bind fun x2 =>
    some x2
  else if a1 = 9 then
    (f_Mod_sumOf N h 24 (h.1 51 26)).bind fun x3 =>
    some x3
  else if a1 = 10 then
    gd (ix 31 214) <|
    some (h.1 68 (31 : Int32).toNatClampNeg)
  else if a1 = 11 then
    some (h.1 51 40)
  else if a1 = 12 then
    gd (ix 33 214) <|
    some (h.1 68 (33 : Int32).toNatClampNeg)
  else if a1 = 13 then
    some (h.1 51 32)
  else 
    some (-1000000)
def f_Mod_reachedBut_L13 (N : Nat) (h : mu_H) (a1 : Int32) (k4 : Int32 → Option Int32) (rec6 : (Int32 × Int32) → Option Int32) : (Int32 × Int32) → Option Int32 := fun ((x7, x8) : Int32 × Int32) =>
  if h.1 51 25 ≤ x8 then
    k4 x7
  else
    jn (fun (x10 : Int32) =>
      rec6 (x10, x8 + 1)) fun j9 =>
    if x8 = a1 then
      j9 x7
    else
      (f_Mod_of N h x8 0).bind fun x11 =>
      (f_Mod_has N h x7 x11).bind fun x12 =>
      jn (fun (_ : Unit) =>
        (f_Mod_of N h x8 0).bind fun x14 =>
        (f_Mod_of N h x8 1).bind fun x15 =>
        bn (x7 ||| (((1 : Int32) <<< (x14 &&& 31)) ||| ((1 : Int32) <<< (x15 &&& 31)))) fun x16 =>
        j9 x16) fun j13 =>
      if x12 = 0 then
        (f_Mod_of N h x8 1).bind fun x17 =>
        (f_Mod_has N h x7 x17).bind fun x18 =>
        if x18 = 0 then
          j9 x7
        else
          j13 ()
      else
        j13 ()
def f_Mod_reachedBut_L4 (N : Nat) (h : mu_H) (a1 : Int32) (rec1 : (Int32 × Int32) → Option Int32) : (Int32 × Int32) → Option Int32 := fun ((x2, x3) : Int32 × Int32) =>
  if 8 ≤ x3 then
    some x2
  else
    jn (fun (x5 : Int32) =>
      rec1 (x5, x3 + 1)) fun k4 =>
    lp (f_Mod_reachedBut_L13 N h a1 k4) N (x2, 0)
def f_Mod_reachedBut (N : Nat) (h : mu_H) (a1 : Int32) : Option Int32 :=
  lp (f_Mod_reachedBut_L4 N h a1) N (1, 0)
def f_Mod_cut_L13 (N : Nat) (h : mu_H) (rec1 : (Int32 × Int32) → Option Int32) : (Int32 × Int32) → Option Int32 := fun ((x2, x3) : Int32 × Int32) =>
  if h.1 51 25 ≤ x3 then
    some x2
  else
    (f_Mod_reachedBut N h x3).bind fun x4 =>
    (f_Mod_reachedBut N h (-1)).bind fun x5 =>
    jn (fun (x7 : Int32) =>
      bn (x2 ||| x7) fun x8 =>
      rec1 (x8, x3 + 1)) fun j6 =>
    if x4 = x5 then
      j6 0
    else
      j6 ((1 : Int32) <<< (x3 &&& 31))
def f_Mod_cut (N : Nat) (h : mu_H) : Option Int32 :=
  if h.1 51 25 = 0 then
    some (-1)
  else
    lp (f_Mod_cut_L13 N h) N (0, 0)
def f_Mod_isRefused (N : Nat) (h : mu_H) (a1 : Int32) : Option (Int32 × mu_H) :=
  jn (fun (h2 : mu_H) =>
    if a1 = (-1) then
      some (0, h2)
    else
      some (1, h2)) fun j1 =>
  if a1 = (-1) then
    j1 h
  else
    gd (ix a1 5) <|
    gd (ix a1 5) <|
    bn (ui h 69 a1.toNatClampNeg ((h.1 69 a1.toNatClampNeg) + 1)) fun h3 =>
    j1 h3
def f_Mod_keep_L54 (k3 : mu_H → Option mu_H) (rec6 : (Int32 × mu_H) → Option mu_H) : (Int32 × mu_H) → Option mu_H := fun ((x7, h8) : Int32 × mu_H) =>
  if 214 ≤ x7 then
    k3 h8
  else
    gd (ix x7 214) <|
    gd (ix ((214 * (h8.1 51 32)) + x7) 8560) <|
    bn (ui h8 71 ((214 * (h8.1 51 32)) + x7).toNatClampNeg (h8.1 68 x7.toNatClampNeg)) fun h9 =>
    rec6 (x7 + 1, h9)
def f_Mod_keep_L13 (k10 : mu_H → Option mu_H) (rec13 : (Int32 × mu_H) → Option mu_H) : (Int32 × mu_H) → Option mu_H := fun ((x14, h15) : Int32 × mu_H) =>
  if 8560 ≤ x14 then
    k10 h15
  else
    gd (ix x14 8560) <|
    gd (ix (x14 - 214) 8560) <|
    bn (ui h15 71 (x14 - 214).toNatClampNeg (h15.1 71 x14.toNatClampNeg)) fun h16 =>
    rec13 (x14 + 1, h16)
def f_Mod_keep (N : Nat) (h : mu_H) : Option mu_H :=
  jn (fun (h2 : mu_H) =>
    jn (fun (h4 : mu_H) =>
      bn (ui h4 51 32 ((h4.1 51 32) + 1)) fun h5 =>
      some h5) fun k3 =>
    lp (f_Mod_keep_L54 k3) N (0, h2)) fun j1 =>
  if h.1 51 32 = 40 then
    jn (fun (h11 : mu_H) =>
      bn (ui h11 51 32 ((h11.1 51 32) - 1)) fun h12 =>
      j1 h12) fun k10 =>
    lp (f_Mod_keep_L13 k10) N (214, h)
  else
    j1 h
def f_Mod_isAt (N : Nat) (h : mu_H) (a1 : Int32) (a2 : Int32) : Option Int32 :=
  (f_Mod_of N h a1 0).bind fun x1 =>
  if x1 = a2 then
    some 1
  else
    (f_Mod_of N h a1 1).bind fun x2 =>
    if x2 = a2 then
      some 1
    else
      some 0
def f_Mod_ditch_L79 (N : Nat) (a1 : Int32) (k10 : mu_H → Option (Int32 × mu_H)) (rec12 : (Int32 × mu_H) → Option (Int32 × mu_H)) : (Int32 × mu_H) → Option (Int32 × mu_H) := fun ((x13, h14) : Int32 × mu_H) =>
  if h14.1 51 25 ≤ x13 then
    k10 h14
  else
    jn (fun (h16 : mu_H) =>
      rec12 (x13 + 1, h16)) fun j15 =>
    if x13 = a1 then
      j15 h14
    else
      (f_Mod_of N h14 a1 1).bind fun x17 =>
      (f_Mod_isAt N h14 x13 x17).bind fun x18 =>
      if x18 = 0 then
        j15 h14
      else
        gd (ix (9 + x13) 214) <|
        gd (ix (9 + x13) 214) <|
        bn (ui h14 68 (9 + x13).toNatClampNeg (z_mmin 9 ((h14.1 68 (9 + x13).toNatClampNeg) + 1))) fun h19 =>
        j15 h19
def f_Mod_ditch (N : Nat) (h : mu_H) (a1 : Int32) : Option (Int32 × mu_H) :=
  (f_Mod_isStretch N h a1).bind fun x1 =>
  jn (fun (x3 : Int32) =>
    bi (f_Mod_isRefused N h x3) fun x4 h5 =>
    if x4 = 0 then
      (f_Mod_keep N h5).bind fun h7 =>
      gd (ix 30 214) <|
      gd (ix 30 214) <|
      bn (ui h7 68 (30 : Int32).toNatClampNeg ((h7.1 68 (30 : Int32).toNatClampNeg) - 2)) fun h8 =>
      gd (ix (9 + a1) 214) <|
      gd (ix (9 + a1) 214) <|
      bn (ui h8 68 (9 + a1).toNatClampNeg ((h8.1 68 (9 + a1).toNatClampNeg) - 1)) fun h9 =>
      jn (fun (h11 : mu_H) =>
        gd (ix (9 + a1) 214) <|
        some (h11.1 68 (9 + a1).toNatClampNeg, h11)) fun k10 =>
      lp (f_Mod_ditch_L79 N a1 k10) N (0, h9)
    else
      some ((-1), h5)) fun j2 =>
  if x1 = 0 then
    j2 0
  else
    gd (ix 30 214) <|
    jn (fun (_ : Unit) =>
      j2 3) fun j20 =>
    if h.1 68 (30 : Int32).toNatClampNeg < 2 then
      j20 ()
    else
      gd (ix (9 + a1) 214) <|
      if h.1 68 (9 + a1).toNatClampNeg = 0 then
        j20 ()
      else
        j2 (-1)
def f_Mod_does (N : Nat) (h : mu_H) (a1 : Int32) (a2 : Int32) (a3 : Int32) : Option (Int32 × mu_H) :=
  (f_Mod_isHouse N h a1).bind fun x1 =>
  if x1 = 0 then
    some ((-1), h)
  else
    (f_Mod_isStretch N h a2).bind fun x2 =>
    if x2 = 0 then
      some ((-1), h)
    else
      (f_Mod_in N h a3 0 3).bind fun x3 =>
      if x3 = 0 then
        some ((-1), h)
      else
        jn (fun (_ : Unit) =>
          bi (f_Mod_doesNow N h a1 a2 a3) fun x5 h6 =>
          some (x5, h6)) fun j4 =>
        if a3 = 2 then
          j4 ()
        else
          (f_Mod_comes N h a1 a2).bind fun x8 =>
          if x8 = 0 then
            some ((-1), h)
          else
            j4 ()
def f_Mod_draw (N : Nat) (h : mu_H) (a1 : Int32) : Option (Int32 × mu_H) :=
  bn (ul h 51 33 (((h.2 51 33) * 6364136223846793005) + 1442695040888963407)) fun h1 =>
  gd (decide (¬ a1.toInt64 = 0)) <|
  some (((((h1.2 51 33).toUInt64 >>> ((33 : Int32).toInt64.toUInt64 &&& Int64.toUInt64 63)).toInt64) - (((h1.2 51 33).toUInt64 >>> ((33 : Int32).toInt64.toUInt64 &&& Int64.toUInt64 63)).toInt64) / a1.toInt64 * a1.toInt64).toInt32, h1)
def f_Mod_workNow (N : Nat) (h : mu_H) (a1 : Int32) (a2 : Int32) (a3 : Int32) : Option mu_H :=
  gd (ix (0 + a2) 214) <|
  bi (f_Mod_doesNow N h a1 a2 a3) fun x1 h2 =>
  gd (ix (0 + a2) 214) <|
  bn (ui h2 68 (0 + a2).toNatClampNeg (z_mmax 0 ((h.1 68 (0 + a2).toNatClampNeg) - x1))) fun h4 =>
  gd (ix (18 + a1) 214) <|
  gd (ix (18 + a1) 214) <|
  bn (ui h4 68 (18 + a1).toNatClampNeg ((h4.1 68 (18 + a1).toNatClampNeg) - 1)) fun h5 =>
  gd (ix 31 214) <|
  gd (ix 31 214) <|
  bn (ui h5 68 (31 : Int32).toNatClampNeg ((h5.1 68 (31 : Int32).toNatClampNeg) + 1)) fun h6 =>
  gd (ix 30 214) <|
  jn (fun (x8 : Int32) =>
    gd (ix 30 214) <|
    bn (ui h6 68 (30 : Int32).toNatClampNeg ((h6.1 68 (30 : Int32).toNatClampNeg) + x8)) fun h9 =>
    some h9) fun j7 =>
  if a3 = 2 then
    gd (ix 2 3) <|
    j7 (h6.1 65 (2 : Int32).toNatClampNeg)
  else
    j7 0
def f_Mod_drawDay (N : Nat) (h : mu_H) (a1 : Int32) : Option mu_H :=
  bi (f_Mod_draw N h (h.1 51 25)) fun x1 h2 =>
  bi (f_Mod_draw N h2 10) fun x4 h5 =>
  (f_Mod_ofHouse N h5 a1 2).bind fun x7 =>
  jn (fun ((x9, h10) : Int32 × mu_H) =>
    (f_Mod_comes N h10 a1 x1).bind fun x11 =>
    if x11 = 0 then
      some h10
    else
      (f_Mod_workNow N h10 a1 x1 x9).bind fun h12 =>
      some h12) fun j8 =>
  if x7 ≤ x4 then
    bi (f_Mod_draw N h5 2) fun x13 h14 =>
    if x13 = 0 then
      j8 (1, h14)
    else
      j8 (3, h14)
  else
    j8 (0, h5)
def f_Mod_end (N : Nat) (h : mu_H) (a1 : Int32) : Option (Int32 × mu_H) :=
  if a1 < 0 then
    some (0, h)
  else
    if a1 ≤ h.1 51 2 then
      bn (ui h 51 2 a1) fun h1 =>
      some (1, h1)
    else
      some (0, h)
def f_Mod_ends_L24 (N : Nat) (h : mu_H) (x3 : Int32) (k4 : Int32 → Option Int32) (rec9 : (Int32 × Int32) → Option Int32) : (Int32 × Int32) → Option Int32 := fun ((x10, x11) : Int32 × Int32) =>
  if h.1 51 25 ≤ x11 then
    k4 x10
  else
    (f_Mod_isAt N h x11 x3).bind fun x12 =>
    jn (fun (x14 : Int32) =>
      bn (x10 + x14) fun x15 =>
      rec9 (x15, x11 + 1)) fun j13 =>
    if x12 = 0 then
      j13 0
    else
      j13 1
def f_Mod_ends_L13 (N : Nat) (h : mu_H) (rec1 : (Int32 × Int32) → Option Int32) : (Int32 × Int32) → Option Int32 := fun ((x2, x3) : Int32 × Int32) =>
  if 8 ≤ x3 then
    some x2
  else
    jn (fun (x5 : Int32) =>
      jn (fun (x7 : Int32) =>
        bn (x2 ||| x7) fun x8 =>
        rec1 (x8, x3 + 1)) fun j6 =>
      if x5 = 1 then
        j6 ((1 : Int32) <<< (x3 &&& 31))
      else
        j6 0) fun k4 =>
    lp (f_Mod_ends_L24 N h x3 k4) N (0, 0)
def f_Mod_ends (N : Nat) (h : mu_H) : Option Int32 :=
  if h.1 51 25 = 0 then
    some (-1)
  else
    lp (f_Mod_ends_L13 N h) N (0, 0)
def f_Mod_worn_L2 (h : mu_H) (rec1 : Int32 → Option Int32) : Int32 → Option Int32 := fun (x2 : Int32) =>
  if h.1 51 25 ≤ x2 then
    some (-1)
  else
    gd (ix (0 + x2) 214) <|
    if h.1 68 (0 + x2).toNatClampNeg = 99 then
      some x2
    else
      rec1 (x2 + 1)
def f_Mod_worn (N : Nat) (h : mu_H) : Option Int32 :=
  lp (f_Mod_worn_L2 h) N 0
def f_Mod_wearOn_L2 (N : Nat) (a1 : Int32) (rec1 : (Int32 × mu_H) → Option mu_H) : (Int32 × mu_H) → Option mu_H := fun ((x2, h3) : Int32 × mu_H) =>
  if h3.1 51 25 ≤ x2 then
    some h3
  else
    (f_Mod_of N h3 x2 4).bind fun x4 =>
    (f_Mod_isWinter N h3 a1).bind fun x5 =>
    jn (fun (x7 : Int32) =>
      bn (x4 + x7) fun x8 =>
      gd (ix (0 + x2) 214) <|
      gd (ix (0 + x2) 214) <|
      bn (ui h3 68 (0 + x2).toNatClampNeg (z_mmin 99 ((h3.1 68 (0 + x2).toNatClampNeg) + x8))) fun h9 =>
      rec1 (x2 + 1, h9)) fun j6 =>
    if x5 = 0 then
      j6 0
    else
      gd (ix 1 3) <|
      gd (ix (9 + x2) 214) <|
      j6 ((h3.1 65 (1 : Int32).toNatClampNeg) + (h3.1 68 (9 + x2).toNatClampNeg))
def f_Mod_wearOn (N : Nat) (h : mu_H) (a1 : Int32) : Option mu_H :=
  lp (f_Mod_wearOn_L2 N a1) N (0, h)
def f_Mod_fails_L92 (k8 : mu_H → Option (Int32 × mu_H)) (rec10 : (Int32 × mu_H) → Option (Int32 × mu_H)) : (Int32 × mu_H) → Option (Int32 × mu_H) := fun ((x11, h12) : Int32 × mu_H) =>
  if h12.1 51 25 ≤ x11 then
    k8 h12
  else
    gd (ix x11 9) <|
    gd (ix (0 + x11) 214) <|
    bn (ui h12 68 (0 + x11).toNatClampNeg (h12.1 75 x11.toNatClampNeg)) fun h13 =>
    rec10 (x11 + 1, h13)
def f_Mod_fails_L50 (N : Nat) (k4 : (Int32 × mu_H) → Option (Int32 × mu_H)) (rec14 : (Int32 × mu_H) → Option (Int32 × mu_H)) : (Int32 × mu_H) → Option (Int32 × mu_H) := fun ((x15, h16) : Int32 × mu_H) =>
  if 200 ≤ x15 then
    k4 (x15, h16)
  else
    (f_Mod_worn N h16).bind fun x17 =>
    if x17 = (-1) then
      gd (ix 32 214) <|
      (f_Mod_wearOn N h16 ((h16.1 68 (32 : Int32).toNatClampNeg) + x15)).bind fun h18 =>
      rec14 (x15 + 1, h18)
    else
      k4 (x15, h16)
def f_Mod_fails_L20 (k2 : mu_H → Option (Int32 × mu_H)) (rec19 : (Int32 × mu_H) → Option (Int32 × mu_H)) : (Int32 × mu_H) → Option (Int32 × mu_H) := fun ((x20, h21) : Int32 × mu_H) =>
  if h21.1 51 25 ≤ x20 then
    k2 h21
  else
    gd (ix (0 + x20) 214) <|
    gd (ix x20 9) <|
    bn (ui h21 75 x20.toNatClampNeg (h21.1 68 (0 + x20).toNatClampNeg)) fun h22 =>
    rec19 (x20 + 1, h22)
def f_Mod_fails (N : Nat) (h : mu_H) (a1 : Int32) : Option (Int32 × mu_H) :=
  if h.1 51 25 = 0 then
    some ((-1), h)
  else
    (f_Mod_in N h a1 0 1).bind fun x1 =>
    if x1 = 0 then
      some ((-1), h)
    else
      jn (fun (h3 : mu_H) =>
        jn (fun ((x5, h6) : Int32 × mu_H) =>
          (f_Mod_worn N h6).bind fun x7 =>
          jn (fun (h9 : mu_H) =>
            if x7 = (-1) then
              some (x7, h9)
            else
              if a1 = 0 then
                some (x7, h9)
              else
                some (x5, h9)) fun k8 =>
          lp (f_Mod_fails_L92 k8) N (0, h6)) fun k4 =>
        lp (f_Mod_fails_L50 N k4) N (0, h3)) fun k2 =>
      lp (f_Mod_fails_L20 k2) N (0, h)
def f_Mod_usual (N : Nat) (h : mu_H) (a0 : Int32) (a1 : Int32) : Option Int32 :=
  if a0 = 114 then
    if a1 = 0 then
      some 0
    else
      if a1 = 1 then
        some 1
      else
        if a1 = 2 then
          some 20
        else
          if a1 = 3 then
            some 2
          else
            some 3
  else if a0 = 115 then
    if a1 = 0 then
      some 6
    else
      if a1 = 1 then
        some 2
      else
        some 3
  else 
    if a1 = 0 then
      some 0
    else
      if a1 = 1 then
        some 3
      else
        some 5
def f_Mod_itemOf (N : Nat) (h : mu_H) (a0 : Int32) (a1 : Int32) : Option Int32 :=
  if a0 = 114 then
    if a1 = 97 then
      some 0
    else
      if a1 = 98 then
        some 1
      else
        if a1 = 119 then
          some 2
        else
          if a1 = 101 then
            some 3
          else
            if a1 = 117 then
              some 4
            else
              some (-1)
  else if a0 = 115 then
    if a1 = 100 then
      some 0
    else
      if a1 = 102 then
        some 1
      else
        if a1 = 112 then
          some 2
        else
          some (-1)
  else 
    if a1 = 99 then
      some 0
    else
      if a1 = 113 then
        some 1
      else
        if a1 = 122 then
          some 2
        else
          some (-1)
def f_Mod_lowest (N : Nat) (h : mu_H) (a0 : Int32) (a1 : Int32) : Option Int32 :=
  jn (fun (_ : Unit) =>
    if a0 = 104 then
      if a1 = 1 then
        some 1
      else
        some 0
    else
      some 0) fun j1 =>
  if a0 = 115 then
    if a1 = 0 then
      some 1
    else
      j1 ()
  else
    j1 ()
def f_Mod_highest (N : Nat) (h : mu_H) (a0 : Int32) (a1 : Int32) : Option Int32 :=
  if a0 = 114 then
    if 1 < a1 then
      if a1 = 2 then
        some 99
      else
        some 9
    else
      some 7
  else if a0 = 115 then
    some 9
  else 
    if a1 = 0 then
      some 7
    else
      some 9
def f_Mod_number (N : Nat) (h : mu_H) (a1 : Int32) (a2 : Int32) : Option (Int32 × mu_H) :=
  bi (f_Mod_look N h) fun x1 h2 =>
  (f_Mod_isDigit N h2 x1).bind fun x4 =>
  if x4 = 0 then
    (f_Mod_bad N h2).bind fun h22 =>
    some (a1, h22)
  else
    (f_Mod_here N h2).bind fun x5 =>
    bn (x5 - 48) fun x6 =>
    bn (ui h2 51 3 ((h2.1 51 3) + 1)) fun h7 =>
    (f_Mod_here N h7).bind fun x8 =>
    (f_Mod_isDigit N h7 x8).bind fun x9 =>
    jn (fun ((x11, h12) : Int32 × mu_H) =>
      (f_Mod_here N h12).bind fun x13 =>
      (f_Mod_isDigit N h12 x13).bind fun x14 =>
      if x14 = 0 then
        (f_Mod_in N h12 x11 a1 a2).bind fun x15 =>
        if x15 = 0 then
          bn (ui h12 51 3 ((h12.1 51 3) - 1)) fun h16 =>
          (f_Mod_bad N h16).bind fun h17 =>
          some (x11, h17)
        else
          some (x11, h12)
      else
        (f_Mod_bad N h12).bind fun h18 =>
        some (x11, h18)) fun j10 =>
    if x9 = 0 then
      j10 (x6, h7)
    else
      (f_Mod_here N h7).bind fun x19 =>
      bn (((10 * x6) + x19) - 48) fun x20 =>
      bn (ui h7 51 3 ((h7.1 51 3) + 1)) fun h21 =>
      j10 (x20, h21)
def f_Mod_items_L41 (N : Nat) (a1 : Int32) (q2 : Nat) (n2 : Nat) (a3 : Int32) (rec7 : (Int32 × Int32 × mu_H) → Option mu_H) : (Int32 × Int32 × mu_H) → Option mu_H := fun ((x8, x9, h10) : Int32 × Int32 × mu_H) =>
  if h10.1 51 4 = (-1) then
    if x9 = (-1) then
      some h10
    else
      (f_Mod_has N h10 x8 x9).bind fun x11 =>
      if x11 = 0 then
        bn (x8 ||| ((1 : Int32) <<< (x9 &&& 31))) fun x12 =>
        bn (ui h10 51 3 ((h10.1 51 3) + 1)) fun h13 =>
        (f_Mod_lowest N h13 a1 x9).bind fun x14 =>
        (f_Mod_highest N h13 a1 x9).bind fun x15 =>
        bi (f_Mod_number N h13 x14 x15) fun x16 h17 =>
        gd (ix (a3 + x9) n2) <|
        bn (ui h17 q2 (a3 + x9).toNatClampNeg x16) fun h19 =>
        jn (fun ((x21, h22) : Int32 × mu_H) =>
          rec7 (x12, x21, h22)) fun j20 =>
        if h19.1 51 4 = (-1) then
          bi (f_Mod_look N h19) fun x23 h24 =>
          (f_Mod_itemOf N h24 a1 x23).bind fun x26 =>
          j20 (x26, h24)
        else
          j20 ((-1), h19)
      else
        some h10
  else
    some h10
def f_Mod_items_L3 (N : Nat) (a1 : Int32) (q2 : Nat) (n2 : Nat) (a3 : Int32) (a4 : Int32) (k1 : mu_H → Option mu_H) (rec27 : (Int32 × mu_H) → Option mu_H) : (Int32 × mu_H) → Option mu_H := fun ((x28, h29) : Int32 × mu_H) =>
  if a4 ≤ x28 then
    k1 h29
  else
    (f_Mod_usual N h29 a1 x28).bind fun x30 =>
    gd (ix (a3 + x28) n2) <|
    bn (ui h29 q2 (a3 + x28).toNatClampNeg x30) fun h31 =>
    rec27 (x28 + 1, h31)
def f_Mod_items (N : Nat) (h : mu_H) (a1 : Int32) (q2 : Nat) (n2 : Nat) (a3 : Int32) (a4 : Int32) : Option mu_H :=
  jn (fun (h2 : mu_H) =>
    bi (f_Mod_look N h2) fun x3 h4 =>
    (f_Mod_itemOf N h4 a1 x3).bind fun x6 =>
    lp (f_Mod_items_L41 N a1 q2 n2 a3) N (0, x6, h4)) fun k1 =>
  lp (f_Mod_items_L3 N a1 q2 n2 a3 a4 k1) N (0, h)
def f_Mod_isWhole_L22 (h : mu_H) (rec3 : (Int32 × Int32) → Option Int32) : (Int32 × Int32) → Option Int32 := fun ((x4, x5) : Int32 × Int32) =>
  if h.1 51 20 ≤ x5 then
    gd (zb x4) (some x4)
  else
    jn (fun (x7 : Int32) =>
      rec3 (x7, x5 + 1)) fun j6 =>
    jn (fun (_ : Unit) =>
      j6 0) fun j8 =>
    if x4 = 0 then
      j8 ()
    else
      gd (ix ((5 * x5) + 0) 45) <|
      gd (ix ((5 * x5) + 1) 45) <|
      if h.1 63 ((5 * x5) + 0).toNatClampNeg = h.1 63 ((5 * x5) + 1).toNatClampNeg then
        j8 ()
      else
        j6 1
def f_Mod_isWhole (N : Nat) (h : mu_H) : Option Int32 :=
  jn (fun (x2 : Int32) =>
    lp (f_Mod_isWhole_L22 h) N (x2, 0)) fun j1 =>
  jn (fun (_ : Unit) =>
    j1 0) fun j9 =>
  if h.1 51 20 ≤ 0 then
    j9 ()
  else
    if h.1 51 21 ≤ 0 then
      j9 ()
    else
      j1 1
def f_Mod_readParish_L49 (N : Nat) (k7 : mu_H → Option (Int32 × mu_H)) (rec17 : (Int32 × Int32 × mu_H) → Option (Int32 × mu_H)) : (Int32 × Int32 × mu_H) → Option (Int32 × mu_H) := fun ((x18, x19, h20) : Int32 × Int32 × mu_H) =>
  if x19 = 0 then
    k7 h20
  else
    if h20.1 51 4 = (-1) then
      bi (f_Mod_look N h20) fun x21 h22 =>
      jn (fun ((x25, h26) : Int32 × mu_H) =>
        jn (fun ((x28, h29) : Int32 × mu_H) =>
          jn (fun (x31 : Int32) =>
            bn (ui h29 51 3 ((h29.1 51 3) + x31)) fun h32 =>
            rec17 (x25, x28, h32)) fun j30 =>
          if x28 = 0 then
            j30 0
          else
            j30 1) fun j27 =>
        jn (fun (h34 : mu_H) =>
          j27 (0, h34)) fun j33 =>
        if h26.1 51 4 = (-1) then
          bi (f_Mod_look N h26) fun x35 h36 =>
          if x35 = 59 then
            j27 (1, h36)
          else
            j33 h36
        else
          j33 h26) fun j24 =>
      jn (fun (_ : Unit) =>
        jn (fun (_ : Unit) =>
          jn (fun (_ : Unit) =>
            (f_Mod_bad N h22).bind fun h41 =>
            j24 (x18, h41)) fun j40 =>
          if x21 = 104 then
            if 6 ≤ h22.1 51 21 then
              j40 ()
            else
              bn (ui h22 51 3 ((h22.1 51 3) + 1)) fun h42 =>
              (f_Mod_items N h42 x21 64 18 (3 * (h42.1 51 21)) 3).bind fun h43 =>
              bn (ui h43 51 21 ((h43.1 51 21) + 1)) fun h44 =>
              j24 (x18, h44)
          else
            j40 ()) fun j39 =>
        if x21 = 114 then
          if 9 ≤ h22.1 51 20 then
            j39 ()
          else
            bn (ui h22 51 3 ((h22.1 51 3) + 1)) fun h45 =>
            (f_Mod_items N h45 x21 63 45 (5 * (h45.1 51 20)) 5).bind fun h46 =>
            bn (ui h46 51 20 ((h46.1 51 20) + 1)) fun h47 =>
            j24 (x18, h47)
        else
          j39 ()) fun j38 =>
      if x21 = 115 then
        if x18 = 0 then
          bn (ui h22 51 3 ((h22.1 51 3) + 1)) fun h48 =>
          (f_Mod_items N h48 x21 62 3 0 3).bind fun h49 =>
          j24 (1, h49)
        else
          j38 ()
      else
        j38 ()
    else
      k7 h20
def f_Mod_readParish_L24 (N : Nat) (k5 : mu_H → Option (Int32 × mu_H)) (rec50 : (Int32 × mu_H) → Option (Int32 × mu_H)) : (Int32 × mu_H) → Option (Int32 × mu_H) := fun ((x51, h52) : Int32 × mu_H) =>
  if 3 ≤ x51 then
    k5 h52
  else
    (f_Mod_usual N h52 115 x51).bind fun x53 =>
    gd (ix x51 3) <|
    bn (ui h52 62 x51.toNatClampNeg x53) fun h54 =>
    rec50 (x51 + 1, h54)
def f_Mod_readParish (N : Nat) (h : mu_H) : Option (Int32 × mu_H) :=
  bn (ui h 51 3 0) fun h1 =>
  bn (ui h1 51 4 (-1)) fun h2 =>
  bn (ui h2 51 20 0) fun h3 =>
  bn (ui h3 51 21 0) fun h4 =>
  jn (fun (h6 : mu_H) =>
    jn (fun (h8 : mu_H) =>
      jn (fun (h10 : mu_H) =>
        some (h10.1 51 4, h10)) fun j9 =>
      if h8.1 51 4 = (-1) then
        bi (f_Mod_look N h8) fun x11 h12 =>
        jn (fun (_ : Unit) =>
          (f_Mod_bad N h12).bind fun h15 =>
          j9 h15) fun j14 =>
        if x11 = (-1) then
          (f_Mod_isWhole N h12).bind fun x16 =>
          if x16 = 0 then
            j14 ()
          else
            j9 h12
        else
          j14 ()
      else
        j9 h8) fun k7 =>
    lp (f_Mod_readParish_L49 N k7) N (0, 1, h6)) fun k5 =>
  lp (f_Mod_readParish_L24 N k5) N (0, h4)
def f_Mod_open (N : Nat) (h : mu_H) (a1 : Int32) : Option mu_H :=
  bn (ui h 51 14 a1) fun h1 =>
  bn (ui h1 51 3 0) fun h2 =>
  bn (ui h2 51 4 (-1)) fun h3 =>
  bn (ui h3 51 5 0) fun h4 =>
  gd (ix a1 5) <|
  bn (ui h4 55 a1.toNatClampNeg 0) fun h5 =>
  gd (ix a1 5) <|
  bn (ui h5 56 a1.toNatClampNeg 0) fun h6 =>
  some h6
def f_Mod_readLaw_L9 (N : Nat) (k3 : mu_H → Option (Int32 × mu_H)) (rec8 : mu_H → Option (Int32 × mu_H)) : mu_H → Option (Int32 × mu_H) := fun (h9 : mu_H) =>
  if h9.1 51 4 = (-1) then
    bi (f_Mod_look N h9) fun x10 h11 =>
    if x10 = 59 then
      bn (ui h11 51 3 ((h11.1 51 3) + 1)) fun h13 =>
      (f_Mod_clause N h13).bind fun h14 =>
      rec8 h14
    else
      k3 h11
  else
    k3 h9
def f_Mod_readLaw (N : Nat) (h : mu_H) (a1 : Int32) : Option (Int32 × mu_H) :=
  (f_Mod_open N h a1).bind fun h1 =>
  (f_Mod_clause N h1).bind fun h2 =>
  jn (fun (h4 : mu_H) =>
    bi (f_Mod_atEnd N h4) fun x5 h6 =>
    some (x5, h6)) fun k3 =>
  lp (f_Mod_readLaw_L9 N k3) N h2
def f_Mod_fault (N : Nat) (h : mu_H) (a1 : Int32) : Option (Int32 × mu_H) :=
  if a1 = 0 then
    bi (f_Mod_readParish N h) fun x4 h5 =>
    some (x4, h5)
  else
    if a1 = 1 then
      bi (f_Mod_readLaw N h 4) fun x1 h2 =>
      some (x1, h2)
    else
      some ((-2), h)
def f_Mod_feed_L62 (N : Nat) (a1 : Int32) (a2 : Int32) (a3 : Int32) (a4 : Int32) (a5 : Int32) (k3 : mu_H → Option (Int32 × mu_H)) (rec5 : (Int32 × mu_H) → Option (Int32 × mu_H)) : (Int32 × mu_H) → Option (Int32 × mu_H) := fun ((x6, h7) : Int32 × mu_H) =>
  if 20 ≤ x6 then
    k3 h7
  else
    (f_Mod_byteOf N h7 a1 a2 a3 a4 a5 x6).bind fun x8 =>
    jn (fun (h10 : mu_H) =>
      rec5 (x6 + 1, h10)) fun j9 =>
    if x8 = 0 then
      j9 h7
    else
      gd (ix (h7.1 51 2) 240) <|
      bn (ui h7 52 (h7.1 51 2).toNatClampNeg x8) fun h11 =>
      bn (ui h11 51 2 ((h11.1 51 2) + 1)) fun h12 =>
      j9 h12
def f_Mod_feed_L6 (N : Nat) (h : mu_H) (a1 : Int32) (a2 : Int32) (a3 : Int32) (a4 : Int32) (a5 : Int32) (k1 : Int32 → Option (Int32 × mu_H)) (rec13 : (Int32 × Int32) → Option (Int32 × mu_H)) : (Int32 × Int32) → Option (Int32 × mu_H) := fun ((x14, x15) : Int32 × Int32) =>
  if 20 ≤ x15 then
    k1 x14
  else
    (f_Mod_byteOf N h a1 a2 a3 a4 a5 x15).bind fun x16 =>
    jn (fun (x18 : Int32) =>
      bn (x14 + x18) fun x19 =>
      rec13 (x19, x15 + 1)) fun j17 =>
    if x16 = 0 then
      j17 0
    else
      j17 1
def f_Mod_feed (N : Nat) (h : mu_H) (a1 : Int32) (a2 : Int32) (a3 : Int32) (a4 : Int32) (a5 : Int32) : Option (Int32 × mu_H) :=
  jn (fun (x2 : Int32) =>
    if (h.1 51 2) + x2 ≤ 240 then
      jn (fun (h4 : mu_H) =>
        some (h4.1 51 2, h4)) fun k3 =>
      lp (f_Mod_feed_L62 N a1 a2 a3 a4 a5 k3) N (0, h)
    else
      some ((-1), h)) fun k1 =>
  lp (f_Mod_feed_L6 N h a1 a2 a3 a4 a5 k1) N (0, 0)
def f_Mod_isGameKind (N : Nat) (h : mu_H) (a0 : Int32) : Option Int32 :=
  if a0 = 0 then
    some 1
  else
    if a0 = 1 then
      some 1
    else
      if a0 = 3 then
        some 1
      else
        some 0
def f_Mod_gameOf (N : Nat) (h : mu_H) (a1 : Int32) (a2 : Int32) (a3 : Int32) (a4 : Int32) (a5 : Int32) : Option (Int32 × mu_H) :=
  bi (f_Mod_doesNow N h a1 a3 a4) fun x1 h2 =>
  bi (f_Mod_doesNow N h2 a2 a3 a5) fun x4 h5 =>
  jn (fun (x8 : Int32) =>
    some (((x1 + x4) / 2) - x8, h5)) fun j7 =>
  if a4 = 0 then
    j7 4
  else
    if a4 = 1 then
      j7 2
    else
      j7 0
def f_Mod_game (N : Nat) (h : mu_H) (a1 : Int32) (a2 : Int32) (a3 : Int32) (a4 : Int32) (a5 : Int32) (a6 : Int32) : Option (Int32 × mu_H) :=
  (f_Mod_areTwo N h a1 a2 a3).bind fun x1 =>
  jn (fun (_ : Unit) =>
    some ((-1000000), h)) fun j2 =>
  if x1 = 0 then
    j2 ()
  else
    (f_Mod_isGameKind N h a4).bind fun x3 =>
    if x3 = 0 then
      j2 ()
    else
      (f_Mod_isGameKind N h a5).bind fun x4 =>
      if x4 = 0 then
        j2 ()
      else
        (f_Mod_in N h a6 0 1).bind fun x5 =>
        if x5 = 0 then
          j2 ()
        else
          if a6 = 0 then
            bi (f_Mod_gameOf N h a1 a2 a3 a4 a5) fun x9 h10 =>
            some (x9, h10)
          else
            bi (f_Mod_gameOf N h a2 a1 a3 a5 a4) fun x6 h7 =>
            some (x6, h7)
def f_Mod_haul (N : Nat) (h : mu_H) (a1 : Int32) (a2 : Int32) : Option Int32 :=
  (f_Mod_isHouse N h a1).bind fun x1 =>
  if x1 = 0 then
    some (-1)
  else
    (f_Mod_isStretch N h a2).bind fun x2 =>
    if x2 = 0 then
      some (-1)
    else
      (f_Mod_comes N h a1 a2).bind fun x3 =>
      if x3 = 0 then
        some (-1)
      else
        (f_Mod_haulOf N h a1 a2).bind fun x4 =>
        some x4
def f_Mod_honest_L24 (N : Nat) (h : mu_H) (a1 : Int32) (k3 : Int32 → Option Int32) (rec5 : (Int32 × Int32) → Option Int32) : (Int32 × Int32) → Option Int32 := fun ((x6, x7) : Int32 × Int32) =>
  if (1 : Int32) <<< ((h.1 51 26) &&& 31) ≤ x7 then
    k3 x6
  else
    (f_Mod_isFeigned N h a1 x7).bind fun x8 =>
    jn (fun (x10 : Int32) =>
      bn (x6 ||| x10) fun x11 =>
      rec5 (x11, x7 + 1)) fun j9 =>
    if x8 = 0 then
      j9 0
    else
      j9 x7
def f_Mod_honest (N : Nat) (h : mu_H) (a1 : Int32) : Option Int32 :=
  (f_Mod_areFeigning N h a1).bind fun x1 =>
  if x1 = 0 then
    some (-1)
  else
    (f_Mod_feigned N h a1 0).bind fun x2 =>
    if x2 = (-1) then
      some (-1)
    else
      jn (fun (x4 : Int32) =>
        some ((((1 : Int32) <<< ((h.1 51 26) &&& 31)) - 1) &&& (x4 ^^^ (-1)))) fun k3 =>
      lp (f_Mod_honest_L24 N h a1 k3) N (0, 0)
def f_Mod_house (N : Nat) (h : mu_H) (a1 : Int32) (a2 : Int32) : Option (Int32 × mu_H) :=
  (f_Mod_isHouse N h a1).bind fun x1 =>
  jn (fun (x3 : Int32) =>
    bn (ui h 51 0 x3) fun h4 =>
    if h4.1 51 0 = 1 then
      some (0, h4)
    else
      if 3 ≤ a2 then
        if a2 = 3 then
          gd (ix (18 + a1) 214) <|
          some (h4.1 68 (18 + a1).toNatClampNeg, h4)
        else
          gd (ix (24 + a1) 214) <|
          some (h4.1 68 (24 + a1).toNatClampNeg, h4)
      else
        (f_Mod_ofHouse N h4 a1 a2).bind fun x5 =>
        some (x5, h4)) fun j2 =>
  jn (fun (_ : Unit) =>
    j2 1) fun j6 =>
  if x1 = 0 then
    j6 ()
  else
    (f_Mod_in N h a2 0 4).bind fun x7 =>
    if x7 = 0 then
      j6 ()
    else
      j2 0
def f_Mod_image_L11 (k1 : mu_H → Option (Int32 × mu_H)) (rec4 : (Int32 × mu_H) → Option (Int32 × mu_H)) : (Int32 × mu_H) → Option (Int32 × mu_H) := fun ((x5, h6) : Int32 × mu_H) =>
  if 214 ≤ x5 then
    k1 h6
  else
    gd (ix x5 214) <|
    gd (ix x5 214) <|
    bn (ui h6 78 x5.toNatClampNeg (h6.1 68 x5.toNatClampNeg)) fun h7 =>
    rec4 (x5 + 1, h7)
def f_Mod_image (N : Nat) (h : mu_H) : Option (Int32 × mu_H) :=
  if h.1 51 25 = 0 then
    some ((-1), h)
  else
    jn (fun (h2 : mu_H) =>
      bn (ui h2 51 45 1) fun h3 =>
      gd (ix 32 214) <|
      some (h3.1 68 (32 : Int32).toNatClampNeg, h3)) fun k1 =>
    lp (f_Mod_image_L11 k1) N (0, h)
def f_Mod_isRest_L3 (N : Nat) (a1 : Int32) (a2 : Int32) (a3 : Int32) (a4 : Int32) (a5 : Int32) (rec1 : (Int32 × mu_H) → Option (Int32 × mu_H)) : (Int32 × mu_H) → Option (Int32 × mu_H) := fun ((x2, h3) : Int32 × mu_H) =>
  if 3 < x2 then
    some (1, h3)
  else
    (f_Mod_isGameKind N h3 x2).bind fun x4 =>
    jn (fun (h6 : mu_H) =>
      rec1 (x2 + 1, h6)) fun j5 =>
    if x4 = 0 then
      j5 h3
    else
      bi (f_Mod_gameOf N h3 a1 a2 a3 x2 a5) fun x7 h8 =>
      bi (f_Mod_gameOf N h8 a1 a2 a3 a4 a5) fun x10 h11 =>
      if x10 < x7 then
        some (0, h11)
      else
        bi (f_Mod_gameOf N h11 a2 a1 a3 x2 a4) fun x13 h14 =>
        bi (f_Mod_gameOf N h14 a2 a1 a3 a5 a4) fun x16 h17 =>
        if x13 ≤ x16 then
          j5 h17
        else
          some (0, h17)
def f_Mod_isRest (N : Nat) (h : mu_H) (a1 : Int32) (a2 : Int32) (a3 : Int32) (a4 : Int32) (a5 : Int32) : Option (Int32 × mu_H) :=
  lp (f_Mod_isRest_L3 N a1 a2 a3 a4 a5) N (0, h)
def f_Mod_law (N : Nat) (h : mu_H) (a1 : Int32) : Option (Int32 × mu_H) :=
  (f_Mod_in N h a1 (-1) ((h.1 51 13) - 1)).bind fun x1 =>
  if x1 = 0 then
    some (0, h)
  else
    bn (ui h 51 29 a1) fun h2 =>
    some (1, h2)
set_option maxRecDepth 20000 in
theorem cb_Mod_count (X : mu_X) (N : Nat) (h : mu_H) (a1 : Int32) : aG X m_Mod_count (rmk 2) (fun _ => ax X) (fun _ _ _ => True) 0 0 (fun r : Int32 => qI X r h) (f_Mod_count N h a1) 0 [(0, .ref (xa X 51)), (1, .int a1)] [] h := by
  unfold f_Mod_count
  refine ro_iload_n (pc := 0) 1 dX12_count_0 rfl rfl ?_
  refine ro_tsk (key := 0) (tgt := 72) (pc := 1) dX12_count_1 (by decide) (by decide) rfl (by decide) (fun _ => ?_) (fun c1_0 => ?_)
  · skip
    refine ro_aload_n (pc := 72) 0 dX12_count_72 rfl rfl ?_
    refine gf_X12_25 (pc := 73) wd_1347 dX12_count_73 ?_
    exact ro_iret (pc := 76) rfl rfl dX12_count_76
  refine ro_tsk (key := 1) (tgt := 77) (pc := 1) dX12_count_1 (by decide) (by decide) rfl (by decide) (fun _ => ?_) (fun c1_1 => ?_)
  · skip
    refine ro_aload_n (pc := 77) 0 dX12_count_77 rfl rfl ?_
    refine gf_X12_26 (pc := 78) wd_1348 dX12_count_78 ?_
    exact ro_iret (pc := 81) rfl rfl dX12_count_81
  refine ro_tsk (key := 2) (tgt := 82) (pc := 1) dX12_count_1 (by decide) (by decide) rfl (by decide) (fun _ => ?_) (fun c1_2 => ?_)
  · skip
    refine ro_aload_n (pc := 82) 0 dX12_count_82 rfl rfl ?_
    refine gf_X12_13 (pc := 83) wd_1335 dX12_count_83 ?_
    exact ro_iret (pc := 86) rfl rfl dX12_count_86
  refine ro_tsk (key := 3) (tgt := 87) (pc := 1) dX12_count_1 (by decide) (by decide) rfl (by decide) (fun _ => ?_) (fun c1_3 => ?_)
  · skip
    refine ro_aload_n (pc := 87) 0 dX12_count_87 rfl rfl ?_
    refine gf_X12_2 (pc := 88) wd_1324 dX12_count_88 ?_
    exact ro_iret (pc := 91) rfl rfl dX12_count_91
  refine ro_tsk (key := 4) (tgt := 92) (pc := 1) dX12_count_1 (by decide) (by decide) rfl (by decide) (fun _ => ?_) (fun c1_4 => ?_)
  · skip
    refine ro_aload_n (pc := 92) 0 dX12_count_92 rfl rfl ?_
    refine gf_X12_29 (pc := 93) wd_1351 dX12_count_93 ?_
    exact ro_iret (pc := 96) rfl rfl dX12_count_96
  refine ro_tsk (key := 5) (tgt := 97) (pc := 1) dX12_count_1 (by decide) (by decide) rfl (by decide) (fun _ => ?_) (fun c1_5 => ?_)
  · skip
    refine ro_aload_n (pc := 97) 0 dX12_count_97 rfl rfl ?_
    refine gf_X12_27 (pc := 98) wd_1349 dX12_count_98 ?_
    refine ro_bipush (v := 32) (pc := 101) dX12_count_101 (by decide) ?_
    refine ro_iald (pc := 103) (n := 214) cl_68 cv_68 dX12_count_103 ?_
    exact ro_iret (pc := 104) rfl rfl dX12_count_104
  refine ro_tsk (key := 6) (tgt := 105) (pc := 1) dX12_count_1 (by decide) (by decide) rfl (by decide) (fun _ => ?_) (fun c1_6 => ?_)
  · skip
    refine ro_aload_n (pc := 105) 0 dX12_count_105 rfl rfl ?_
    refine gf_X12_27 (pc := 106) wd_1349 dX12_count_106 ?_
    refine ro_bipush (v := 30) (pc := 109) dX12_count_109 (by decide) ?_
    refine ro_iald (pc := 111) (n := 214) cl_68 cv_68 dX12_count_111 ?_
    exact ro_iret (pc := 112) rfl rfl dX12_count_112
  refine ro_tsk (key := 7) (tgt := 113) (pc := 1) dX12_count_1 (by decide) (by decide) rfl (by decide) (fun _ => ?_) (fun c1_7 => ?_)
  · skip
    refine ro_aload_n (pc := 113) 0 dX12_count_113 rfl rfl ?_
    refine ro_iconst (v := 0) (pc := 114) dX12_count_114 (by decide) ?_
    refine ro_aload_n (pc := 115) 0 dX12_count_115 rfl rfl ?_
    refine gf_X12_25 (pc := 116) wd_1347 dX12_count_116 ?_
    refine ro_cvP (pc := 119) (kc := 1) (avs := [.int 0, .int (h.1 51 25)]) (st := []) ok_Mod_sumOf wd_1741 cl_51 cv_51 rfl ⟨by decide, by decide⟩ ⟨Nat.zero_le _, Nat.zero_le _⟩ (c_Mod_sumOf X N h 0 (h.1 51 25)) rfl rfl (Nat.le_of_ble_eq_true rfl) dX12_count_119 (fun x1 => ?_)
    exact ro_iret (pc := 122) rfl rfl dX12_count_122
  refine ro_tsk (key := 8) (tgt := 123) (pc := 1) dX12_count_1 (by decide) (by decide) rfl (by decide) (fun _ => ?_) (fun c1_8 => ?_)
  · skip
    refine ro_aload_n (pc := 123) 0 dX12_count_123 rfl rfl ?_
    refine ro_bipush (v := 18) (pc := 124) dX12_count_124 (by decide) ?_
    refine ro_aload_n (pc := 126) 0 dX12_count_126 rfl rfl ?_
    refine gf_X12_26 (pc := 127) wd_1348 dX12_count_127 ?_
    refine ro_cvP (pc := 130) (kc := 1) (avs := [.int 18, .int (h.1 51 26)]) (st := []) ok_Mod_sumOf wd_1741 cl_51 cv_51 rfl ⟨by decide, by decide⟩ ⟨Nat.zero_le _, Nat.zero_le _⟩ (c_Mod_sumOf X N h 18 (h.1 51 26)) rfl rfl (Nat.le_of_ble_eq_true rfl) dX12_count_130 (fun x2 => ?_)
    exact ro_iret (pc := 133) rfl rfl dX12_count_133
  refine ro_tsk (key := 9) (tgt := 134) (pc := 1) dX12_count_1 (by decide) (by decide) rfl (by decide) (fun _ => ?_) (fun c1_9 => ?_)
  · skip
    refine ro_aload_n (pc := 134) 0 dX12_count_134 rfl rfl ?_
    refine ro_bipush (v := 24) (pc := 135) dX12_count_135 (by decide) ?_
    refine ro_aload_n (pc := 137) 0 dX12_count_137 rfl rfl ?_
    refine gf_X12_26 (pc := 138) wd_1348 dX12_count_138 ?_
    refine ro_cvP (pc := 141) (kc := 1) (avs := [.int 24, .int (h.1 51 26)]) (st := []) ok_Mod_sumOf wd_1741 cl_51 cv_51 rfl ⟨by decide, by decide⟩ ⟨Nat.zero_le _, Nat.zero_le _⟩ (c_Mod_sumOf X N h 24 (h.1 51 26)) rfl rfl (Nat.le_of_ble_eq_true rfl) dX12_count_141 (fun x3 => ?_)
    exact ro_iret (pc := 144) rfl rfl dX12_count_144
  refine ro_tsk (key := 10) (tgt := 145) (pc := 1) dX12_count_1 (by decide) (by decide) rfl (by decide) (fun _ => ?_) (fun c1_10 => ?_)
  · skip
    refine ro_aload_n (pc := 145) 0 dX12_count_145 rfl rfl ?_
    refine gf_X12_27 (pc := 146) wd_1349 dX12_count_146 ?_
    refine ro_bipush (v := 31) (pc := 149) dX12_count_149 (by decide) ?_
    refine ro_iald (pc := 151) (n := 214) cl_68 cv_68 dX12_count_151 ?_
    exact ro_iret (pc := 152) rfl rfl dX12_count_152
  refine ro_tsk (key := 11) (tgt := 153) (pc := 1) dX12_count_1 (by decide) (by decide) rfl (by decide) (fun _ => ?_) (fun c1_11 => ?_)
  · skip
    refine ro_aload_n (pc := 153) 0 dX12_count_153 rfl rfl ?_
    refine gf_X12_40 (pc := 154) wd_1362 dX12_count_154 ?_
    exact ro_iret (pc := 157) rfl rfl dX12_count_157
  refine ro_tsk (key := 12) (tgt := 158) (pc := 1) dX12_count_1 (by decide) (by decide) rfl (by decide) (fun _ => ?_) (fun c1_12 => ?_)
  · skip
    refine ro_aload_n (pc := 158) 0 dX12_count_158 rfl rfl ?_
    refine gf_X12_27 (pc := 159) wd_1349 dX12_count_159 ?_
    refine ro_bipush (v := 33) (pc := 162) dX12_count_162 (by decide) ?_
    refine ro_iald (pc := 164) (n := 214) cl_68 cv_68 dX12_count_164 ?_
    exact ro_iret (pc := 165) rfl rfl dX12_count_165
  refine ro_tsk (key := 13) (tgt := 166) (pc := 1) dX12_count_1 (by decide) (by decide) rfl (by decide) (fun _ => ?_) (fun c1_13 => ?_)
  · skip
    refine ro_aload_n (pc := 166) 0 dX12_count_166 rfl rfl ?_
    refine gf_X12_32 (pc := 167) wd_1354 dX12_count_167 ?_
    exact ro_iret (pc := 170) rfl rfl dX12_count_170
  refine ro_tsd (tgt := 171) (pc := 1) dX12_count_1 (by have a0 := ne_int c1_0 (k := 0) (z := 0) (by decide); have a1 := ne_int c1_1 (k := 1) (z := 1) (by decide); have a2 := ne_int c1_2 (k := 2) (z := 2) (by decide); have a3 := ne_int c1_3 (k := 3) (z := 3) (by decide); have a4 := ne_int c1_4 (k := 4) (z := 4) (by decide); have a5 := ne_int c1_5 (k := 5) (z := 5) (by decide); have a6 := ne_int c1_6 (k := 6) (z := 6) (by decide); have a7 := ne_int c1_7 (k := 7) (z := 7) (by decide); have a8 := ne_int c1_8 (k := 8) (z := 8) (by decide); have a9 := ne_int c1_9 (k := 9) (z := 9) (by decide); have a10 := ne_int c1_10 (k := 10) (z := 10) (by decide); have a11 := ne_int c1_11 (k := 11) (z := 11) (by decide); have a12 := ne_int c1_12 (k := 12) (z := 12) (by decide); have a13 := ne_int c1_13 (k := 13) (z := 13) (by decide); omega) (by decide) ?_
  refine ro_ldcw (v := (-1000000)) (pc := 171) dX12_count_171 wd_1810 ?_
  exact ro_iret (pc := 174) rfl rfl dX12_count_174
theorem c_Mod_count (X : mu_X) (N : Nat) (h : mu_H) (a1 : Int32) : ∀ r, f_Mod_count N h a1 = some r → mI X m_Mod_count 2 [.ref (xa X 51), .int a1] h r h := fun r hr => mI_of (by decide) rfl (Nat.le_of_ble_eq_true rfl) rfl (cb_Mod_count X N h a1 r hr)
set_option maxRecDepth 20000 in
theorem cb_Mod_reachedBut (X : mu_X) (N : Nat) (h : mu_H) (a1 : Int32) : aG X m_Mod_reachedBut (rmk 2) (fun _ => ax X) (fun _ _ _ => True) 0 0 (fun r : Int32 => qI X r h) (f_Mod_reachedBut N h a1) 0 [(0, .ref (xa X 51)), (1, .int a1)] [] h := by
  unfold f_Mod_reachedBut
  refine ro_iconst (v := 1) (pc := 0) dX12_reachedBut_0 (by decide) ?_
  refine ro_istore_n (pc := 1) (lv' := [(2, .int 1), (0, .ref (xa X 51)), (1, .int a1)]) dX12_reachedBut_1 rfl (by decide) rfl ?_
  refine ro_iconst (v := 0) (pc := 2) dX12_reachedBut_2 (by decide) ?_
  refine ro_istore_n (pc := 3) (lv' := [(3, .int 0), (2, .int 1), (0, .ref (xa X 51)), (1, .int a1)]) dX12_reachedBut_3 rfl (by decide) rfl ?_
  refine ro_lv [2, 3, 1, 0] rfl ?_
  refine ro_lp (pc := 4) (lvs := fun (s : Int32 × Int32) => [(0, .ref (xa X 51)), (1, .int a1), (2, .int s.1), (3, .int s.2)]) (hs := fun (s : Int32 × Int32) => h) (fun rec1 hrec1 s => ?_) N (1, 0)
  obtain ⟨x2, x3⟩ := s; unfold f_Mod_reachedBut_L4; try dsimp only
  refine ro_iload_n (pc := 4) 3 dX12_reachedBut_4 rfl rfl ?_
  refine ro_bipush (v := 8) (pc := 5) dX12_reachedBut_5 (by decide) ?_
  refine ro_icmp_ge (tgt := 90) (pc := 7) dX12_reachedBut_7 (by decide) (fun _ => ?_) (fun _ => ?_)
  · skip
    refine ro_iload_n (pc := 90) 2 dX12_reachedBut_90 rfl rfl ?_
    exact ro_iret (pc := 91) rfl rfl dX12_reachedBut_91
  · skip
    refine ro_iconst (v := 0) (pc := 10) dX12_reachedBut_10 (by decide) ?_
    refine ro_istore (pc := 11) (lv' := [(4, .int 0), (0, .ref (xa X 51)), (1, .int a1), (2, .int x2), (3, .int x3)]) dX12_reachedBut_11 (by decide) rfl ?_
    refine ro_jn (pcj := 84) (lvs := fun (s : Int32) => [(0, .ref (xa X 51)), (1, .int a1), (2, .int s), (3, .int x3)]) (hs := fun (s : Int32) => h) (sts := fun (s : Int32) => []) (fun x5 => ?_) (fun k4 hk4 => ?_)
    · try dsimp only
      refine ro_iinc (pc := 84) (v := x3 + 1) (lv' := [(3, .int (x3 + 1)), (0, .ref (xa X 51)), (1, .int a1), (2, .int x5)]) 3 dX12_reachedBut_84 rfl rfl (by decide) rfl ?_
      refine ro_goto (tgt := 4) (pc := 87) dX12_reachedBut_87 (by decide) ?_
      refine ro_lv [1, 2, 3, 0] rfl ?_
      exact hrec1 (x5, x3 + 1)
    · skip
      refine ro_lv [1, 2, 3, 4, 0] rfl ?_
      refine ro_lp (pc := 13) (lvs := fun (s : Int32 × Int32) => [(0, .ref (xa X 51)), (1, .int a1), (2, .int s.1), (3, .int x3), (4, .int s.2)]) (hs := fun (s : Int32 × Int32) => h) (fun rec6 hrec6 s => ?_) N (x2, 0)
      obtain ⟨x7, x8⟩ := s; unfold f_Mod_reachedBut_L13; try dsimp only
      refine ro_iload (pc := 13) 4 dX12_reachedBut_13 rfl ?_
      refine ro_aload_n (pc := 15) 0 dX12_reachedBut_15 rfl rfl ?_
      refine gf_X12_25 (pc := 16) wd_1347 dX12_reachedBut_16 ?_
      refine ro_icmp_ge (tgt := 84) (pc := 19) dX12_reachedBut_19 (by decide) (fun _ => ?_) (fun _ => ?_)
      · skip
        refine ro_lv [0, 1, 2, 3] rfl ?_
        exact hk4 x7
      · skip
        refine ro_iload (pc := 22) 4 dX12_reachedBut_22 rfl ?_
        refine ro_iload_n (pc := 24) 1 dX12_reachedBut_24 rfl rfl ?_
        refine ro_jn (pcj := 78) (lvs := fun (s : Int32) => [(0, .ref (xa X 51)), (1, .int a1), (2, .int s), (3, .int x3), (4, .int x8)]) (hs := fun (s : Int32) => h) (sts := fun (s : Int32) => []) (fun x10 => ?_) (fun j9 hj9 => ?_)
        · try dsimp only
          refine ro_iinc (pc := 78) (v := x8 + 1) (lv' := [(4, .int (x8 + 1)), (0, .ref (xa X 51)), (1, .int a1), (2, .int x10), (3, .int x3)]) 4 dX12_reachedBut_78 rfl rfl (by decide) rfl ?_
          refine ro_goto (tgt := 13) (pc := 81) dX12_reachedBut_81 (by decide) ?_
          refine ro_lv [1, 2, 3, 4, 0] rfl ?_
          exact hrec6 (x10, x8 + 1)
        · skip
          refine ro_icmp_eq (tgt := 78) (pc := 25) dX12_reachedBut_25 (by decide) (fun _ => ?_) (fun _ => ?_)
          · skip
            exact hj9 x7
          · skip
            refine ro_iload_n (pc := 28) 2 dX12_reachedBut_28 rfl rfl ?_
            refine ro_aload_n (pc := 29) 0 dX12_reachedBut_29 rfl rfl ?_
            refine ro_iload (pc := 30) 4 dX12_reachedBut_30 rfl ?_
            refine ro_iconst (v := 0) (pc := 32) dX12_reachedBut_32 (by decide) ?_
            refine ro_cvP (pc := 33) (kc := 1) (avs := [.int x8, .int 0]) (st := [.int x7]) ok_Mod_of wd_1608 cl_51 cv_51 rfl ⟨by decide, by decide⟩ ⟨Nat.zero_le _, Nat.zero_le _⟩ (c_Mod_of X N h x8 0) rfl rfl (Nat.le_of_ble_eq_true rfl) dX12_reachedBut_33 (fun x11 => ?_)
            refine ro_csP (pc := 36) (kc := 1) (avs := [.int x7, .int x11]) (st := []) ok_Mod_has wd_1503 ⟨by decide, by decide⟩ ⟨Nat.zero_le _, Nat.zero_le _⟩ (c_Mod_has X N h x7 x11) rfl rfl (Nat.le_of_ble_eq_true rfl) dX12_reachedBut_36 (fun x12 => ?_)
            refine ro_jn (pcj := 56) (lvs := fun (s : Unit) => [(0, .ref (xa X 51)), (1, .int a1), (2, .int x7), (3, .int x3), (4, .int x8)]) (hs := fun (s : Unit) => h) (sts := fun (s : Unit) => []) (fun s => ?_) (fun j13 hj13 => ?_)
            · try dsimp only
              refine ro_iload_n (pc := 56) 2 dX12_reachedBut_56 rfl rfl ?_
              refine ro_iconst (v := 1) (pc := 57) dX12_reachedBut_57 (by decide) ?_
              refine ro_aload_n (pc := 58) 0 dX12_reachedBut_58 rfl rfl ?_
              refine ro_iload (pc := 59) 4 dX12_reachedBut_59 rfl ?_
              refine ro_iconst (v := 0) (pc := 61) dX12_reachedBut_61 (by decide) ?_
              refine ro_cvP (pc := 62) (kc := 1) (avs := [.int x8, .int 0]) (st := [.int 1, .int x7]) ok_Mod_of wd_1608 cl_51 cv_51 rfl ⟨by decide, by decide⟩ ⟨Nat.zero_le _, Nat.zero_le _⟩ (c_Mod_of X N h x8 0) rfl rfl (Nat.le_of_ble_eq_true rfl) dX12_reachedBut_62 (fun x14 => ?_)
              refine ro_ishl (pc := 65) dX12_reachedBut_65 ?_
              refine ro_iconst (v := 1) (pc := 66) dX12_reachedBut_66 (by decide) ?_
              refine ro_aload_n (pc := 67) 0 dX12_reachedBut_67 rfl rfl ?_
              refine ro_iload (pc := 68) 4 dX12_reachedBut_68 rfl ?_
              refine ro_iconst (v := 1) (pc := 70) dX12_reachedBut_70 (by decide) ?_
              refine ro_cvP (pc := 71) (kc := 1) (avs := [.int x8, .int 1]) (st := [.int 1, .int ((1 : Int32) <<< (x14 &&& 31)), .int x7]) ok_Mod_of wd_1608 cl_51 cv_51 rfl ⟨by decide, by decide⟩ ⟨Nat.zero_le _, Nat.zero_le _⟩ (c_Mod_of X N h x8 1) rfl rfl (Nat.le_of_ble_eq_true rfl) dX12_reachedBut_71 (fun x15 => ?_)
              refine ro_ishl (pc := 74) dX12_reachedBut_74 ?_
              refine ro_ior (pc := 75) dX12_reachedBut_75 ?_
              refine ro_ior (pc := 76) dX12_reachedBut_76 ?_
              refine ro_bn (fun x16 => ?_)
              refine ro_istore_n (pc := 77) (lv' := [(2, .int x16), (0, .ref (xa X 51)), (1, .int a1), (3, .int x3), (4, .int x8)]) dX12_reachedBut_77 rfl (by decide) rfl ?_
              refine ro_lv [1, 2, 0, 3, 4] rfl ?_
              exact hj9 x16
            · skip
              refine ro_if_ne (tgt := 56) (pc := 39) dX12_reachedBut_39 (by decide) (fun _ => ?_) (fun _ => ?_)
              · skip
                exact hj13 ()
              · skip
                refine ro_iload_n (pc := 42) 2 dX12_reachedBut_42 rfl rfl ?_
                refine ro_aload_n (pc := 43) 0 dX12_reachedBut_43 rfl rfl ?_
                refine ro_iload (pc := 44) 4 dX12_reachedBut_44 rfl ?_
                refine ro_iconst (v := 1) (pc := 46) dX12_reachedBut_46 (by decide) ?_
                refine ro_cvP (pc := 47) (kc := 1) (avs := [.int x8, .int 1]) (st := [.int x7]) ok_Mod_of wd_1608 cl_51 cv_51 rfl ⟨by decide, by decide⟩ ⟨Nat.zero_le _, Nat.zero_le _⟩ (c_Mod_of X N h x8 1) rfl rfl (Nat.le_of_ble_eq_true rfl) dX12_reachedBut_47 (fun x17 => ?_)
                refine ro_csP (pc := 50) (kc := 1) (avs := [.int x7, .int x17]) (st := []) ok_Mod_has wd_1503 ⟨by decide, by decide⟩ ⟨Nat.zero_le _, Nat.zero_le _⟩ (c_Mod_has X N h x7 x17) rfl rfl (Nat.le_of_ble_eq_true rfl) dX12_reachedBut_50 (fun x18 => ?_)
                refine ro_if_eq (tgt := 78) (pc := 53) dX12_reachedBut_53 (by decide) (fun _ => ?_) (fun _ => ?_)
                · skip
                  exact hj9 x7
                · skip
                  exact hj13 ()
theorem c_Mod_reachedBut (X : mu_X) (N : Nat) (h : mu_H) (a1 : Int32) : ∀ r, f_Mod_reachedBut N h a1 = some r → mI X m_Mod_reachedBut 2 [.ref (xa X 51), .int a1] h r h := fun r hr => mI_of (by decide) rfl (Nat.le_of_ble_eq_true rfl) rfl (cb_Mod_reachedBut X N h a1 r hr)
set_option maxRecDepth 20000 in
theorem cb_Mod_cut (X : mu_X) (N : Nat) (h : mu_H) : aG X m_Mod_cut (rmk 3) (fun _ => ax X) (fun _ _ _ => True) 0 0 (fun r : Int32 => qI X r h) (f_Mod_cut N h) 0 [(0, .ref (xa X 51))] [] h := by
  unfold f_Mod_cut
  refine ro_aload_n (pc := 0) 0 dX12_cut_0 rfl rfl ?_
  refine gf_X12_25 (pc := 1) wd_1347 dX12_cut_1 ?_
  refine ro_if_ne (tgt := 9) (pc := 4) dX12_cut_4 (by decide) (fun _ => ?_) (fun _ => ?_)
  · skip
    refine ro_iconst (v := 0) (pc := 9) dX12_cut_9 (by decide) ?_
    refine ro_istore_n (pc := 10) (lv' := [(1, .int 0), (0, .ref (xa X 51))]) dX12_cut_10 rfl (by decide) rfl ?_
    refine ro_iconst (v := 0) (pc := 11) dX12_cut_11 (by decide) ?_
    refine ro_istore_n (pc := 12) (lv' := [(2, .int 0), (1, .int 0), (0, .ref (xa X 51))]) dX12_cut_12 rfl (by decide) rfl ?_
    refine ro_lv [2, 1, 0] rfl ?_
    refine ro_lp (pc := 13) (lvs := fun (s : Int32 × Int32) => [(0, .ref (xa X 51)), (1, .int s.1), (2, .int s.2)]) (hs := fun (s : Int32 × Int32) => h) (fun rec1 hrec1 s => ?_) N (0, 0)
    obtain ⟨x2, x3⟩ := s; unfold f_Mod_cut_L13; try dsimp only
    refine ro_iload_n (pc := 13) 2 dX12_cut_13 rfl rfl ?_
    refine ro_aload_n (pc := 14) 0 dX12_cut_14 rfl rfl ?_
    refine gf_X12_25 (pc := 15) wd_1347 dX12_cut_15 ?_
    refine ro_icmp_ge (tgt := 50) (pc := 18) dX12_cut_18 (by decide) (fun _ => ?_) (fun _ => ?_)
    · skip
      refine ro_iload_n (pc := 50) 1 dX12_cut_50 rfl rfl ?_
      exact ro_iret (pc := 51) rfl rfl dX12_cut_51
    · skip
      refine ro_iload_n (pc := 21) 1 dX12_cut_21 rfl rfl ?_
      refine ro_aload_n (pc := 22) 0 dX12_cut_22 rfl rfl ?_
      refine ro_iload_n (pc := 23) 2 dX12_cut_23 rfl rfl ?_
      refine ro_cvP (pc := 24) (kc := 2) (avs := [.int x3]) (st := [.int x2]) ok_Mod_reachedBut wd_1904 cl_51 cv_51 rfl ⟨by decide, by decide⟩ ⟨Nat.zero_le _, Nat.zero_le _⟩ (c_Mod_reachedBut X N h x3) rfl rfl (Nat.le_of_ble_eq_true rfl) dX12_cut_24 (fun x4 => ?_)
      refine ro_aload_n (pc := 27) 0 dX12_cut_27 rfl rfl ?_
      refine ro_iconst (v := (-1)) (pc := 28) dX12_cut_28 (by decide) ?_
      refine ro_cvP (pc := 29) (kc := 2) (avs := [.int (-1)]) (st := [.int x4, .int x2]) ok_Mod_reachedBut wd_1904 cl_51 cv_51 rfl ⟨by decide, by decide⟩ ⟨Nat.zero_le _, Nat.zero_le _⟩ (c_Mod_reachedBut X N h (-1)) rfl rfl (Nat.le_of_ble_eq_true rfl) dX12_cut_29 (fun x5 => ?_)
      refine ro_jn (pcj := 42) (lvs := fun (s : Int32) => [(0, .ref (xa X 51)), (2, .int x3)]) (hs := fun (s : Int32) => h) (sts := fun (s : Int32) => [.int s, .int x2]) (fun x7 => ?_) (fun j6 hj6 => ?_)
      · try dsimp only
        refine ro_ior (pc := 42) dX12_cut_42 ?_
        refine ro_bn (fun x8 => ?_)
        refine ro_istore_n (pc := 43) (lv' := [(1, .int x8), (0, .ref (xa X 51)), (2, .int x3)]) dX12_cut_43 rfl (by decide) rfl ?_
        refine ro_iinc (pc := 44) (v := x3 + 1) (lv' := [(2, .int (x3 + 1)), (1, .int x8), (0, .ref (xa X 51))]) 2 dX12_cut_44 rfl rfl (by decide) rfl ?_
        refine ro_goto (tgt := 13) (pc := 47) dX12_cut_47 (by decide) ?_
        refine ro_lv [2, 1, 0] rfl ?_
        exact hrec1 (x8, x3 + 1)
      · skip
        refine ro_icmp_eq (tgt := 41) (pc := 32) dX12_cut_32 (by decide) (fun _ => ?_) (fun _ => ?_)
        · skip
          refine ro_iconst (v := 0) (pc := 41) dX12_cut_41 (by decide) ?_
          refine ro_lv [0, 2] rfl ?_
          exact hj6 0
        · skip
          refine ro_iconst (v := 1) (pc := 35) dX12_cut_35 (by decide) ?_
          refine ro_iload_n (pc := 36) 2 dX12_cut_36 rfl rfl ?_
          refine ro_ishl (pc := 37) dX12_cut_37 ?_
          refine ro_goto (tgt := 42) (pc := 38) dX12_cut_38 (by decide) ?_
          refine ro_lv [0, 2] rfl ?_
          exact hj6 ((1 : Int32) <<< (x3 &&& 31))
  · skip
    refine ro_iconst (v := (-1)) (pc := 7) dX12_cut_7 (by decide) ?_
    exact ro_iret (pc := 8) rfl rfl dX12_cut_8
theorem c_Mod_cut (X : mu_X) (N : Nat) (h : mu_H) : ∀ r, f_Mod_cut N h = some r → mI X m_Mod_cut 3 [.ref (xa X 51)] h r h := fun r hr => mI_of (by decide) rfl (Nat.le_of_ble_eq_true rfl) rfl (cb_Mod_cut X N h r hr)
set_option maxRecDepth 20000 in
theorem cb_Mod_isRefused (X : mu_X) (N : Nat) (h : mu_H) (a1 : Int32) : aG X m_Mod_isRefused (rmk 1) (fun _ => ax X) (fun _ _ _ => True) 0 0 (fun r : Int32 × mu_H => qI X r.1 r.2) (f_Mod_isRefused N h a1) 0 [(0, .ref (xa X 51)), (1, .int a1)] [] h := by
  unfold f_Mod_isRefused
  refine ro_iload_n (pc := 0) 1 dX12_isRefused_0 rfl rfl ?_
  refine ro_iconst (v := (-1)) (pc := 1) dX12_isRefused_1 (by decide) ?_
  refine ro_jn (pcj := 15) (lvs := fun (s : mu_H) => [(1, .int a1)]) (hs := fun (s : mu_H) => s) (sts := fun (s : mu_H) => []) (fun h2 => ?_) (fun j1 hj1 => ?_)
  · try dsimp only
    refine ro_iload_n (pc := 15) 0 dX12_isRefused_15 rfl rfl ?_
    refine ro_iconst (v := (-1)) (pc := 16) dX12_isRefused_16 (by decide) ?_
    refine ro_icmp_eq (tgt := 24) (pc := 17) dX12_isRefused_17 (by decide) (fun _ => ?_) (fun _ => ?_)
    · skip
      refine ro_iconst (v := 0) (pc := 24) dX12_isRefused_24 (by decide) ?_
      exact ro_zret (pc := 25) rfl rfl rfl dX12_isRefused_25
    · skip
      refine ro_iconst (v := 1) (pc := 20) dX12_isRefused_20 (by decide) ?_
      refine ro_goto (tgt := 25) (pc := 21) dX12_isRefused_21 (by decide) ?_
      exact ro_zret (pc := 25) rfl rfl rfl dX12_isRefused_25
  · skip
    refine ro_icmp_eq (tgt := 15) (pc := 2) dX12_isRefused_2 (by decide) (fun _ => ?_) (fun _ => ?_)
    · skip
      refine ro_lv [1] rfl ?_
      exact hj1 h
    · skip
      refine ro_aload_n (pc := 5) 0 dX12_isRefused_5 rfl rfl ?_
      refine gf_X12_28 (pc := 6) wd_1350 dX12_isRefused_6 ?_
      refine ro_iload_n (pc := 9) 1 dX12_isRefused_9 rfl rfl ?_
      refine ro_dup2_11 (pc := 10) dX12_isRefused_10 rfl rfl ?_
      refine ro_iald (pc := 11) (n := 5) cl_69 cv_69 dX12_isRefused_11 ?_
      refine ro_iconst (v := 1) (pc := 12) dX12_isRefused_12 (by decide) ?_
      refine ro_iadd (pc := 13) dX12_isRefused_13 ?_
      refine ro_iast (pc := 14) (n := 5) cl_69 cv_69 dX12_isRefused_14 ?_
      refine ro_bnh (fun h3 => ?_)
      refine ro_lv [1] rfl ?_
      exact hj1 h3
theorem c_Mod_isRefused (X : mu_X) (N : Nat) (h : mu_H) (a1 : Int32) : ∀ r, f_Mod_isRefused N h a1 = some r → mI X m_Mod_isRefused 1 [.ref (xa X 51), .int a1] h r.1 r.2 := fun r hr => mI_of (by decide) rfl (Nat.le_of_ble_eq_true rfl) rfl (cb_Mod_isRefused X N h a1 r hr)
set_option maxRecDepth 20000 in
theorem cb_Mod_keep (X : mu_X) (N : Nat) (h : mu_H) : aG X m_Mod_keep (rmk 1) (fun _ => ax X) (fun _ _ _ => True) 0 0 (fun r : mu_H => qV X r) (f_Mod_keep N h) 0 [(0, .ref (xa X 51))] [] h := by
  unfold f_Mod_keep
  refine ro_aload_n (pc := 0) 0 dX12_keep_0 rfl rfl ?_
  refine gf_X12_32 (pc := 1) wd_1354 dX12_keep_1 ?_
  refine ro_bipush (v := 40) (pc := 4) dX12_keep_4 (by decide) ?_
  refine ro_jn (pcj := 52) (lvs := fun (s : mu_H) => [(0, .ref (xa X 51))]) (hs := fun (s : mu_H) => s) (sts := fun (s : mu_H) => []) (fun h2 => ?_) (fun j1 hj1 => ?_)
  · try dsimp only
    refine ro_iconst (v := 0) (pc := 52) dX12_keep_52 (by decide) ?_
    refine ro_istore_n (pc := 53) (lv' := [(1, .int 0), (0, .ref (xa X 51))]) dX12_keep_53 rfl (by decide) rfl ?_
    refine ro_jn (pcj := 88) (lvs := fun (s : mu_H) => [(0, .ref (xa X 51))]) (hs := fun (s : mu_H) => s) (sts := fun (s : mu_H) => []) (fun h4 => ?_) (fun k3 hk3 => ?_)
    · try dsimp only
      refine ro_aload_n (pc := 88) 0 dX12_keep_88 rfl rfl ?_
      refine ro_dup (pc := 89) dX12_keep_89 rfl ?_
      refine gf_X12_32 (pc := 90) wd_1354 dX12_keep_90 ?_
      refine ro_iconst (v := 1) (pc := 93) dX12_keep_93 (by decide) ?_
      refine ro_iadd (pc := 94) dX12_keep_94 ?_
      refine pf_X12_32 (pc := 95) wd_1354 dX12_keep_95 ?_
      refine ro_bnh (fun h5 => ?_)
      exact ro_vret (pc := 98) rfl rfl dX12_keep_98
    · skip
      refine ro_lv [1, 0] rfl ?_
      refine ro_lp (pc := 54) (lvs := fun (s : Int32 × mu_H) => [(0, .ref (xa X 51)), (1, .int s.1)]) (hs := fun (s : Int32 × mu_H) => s.2) (fun rec6 hrec6 s => ?_) N (0, h2)
      obtain ⟨x7, h8⟩ := s; unfold f_Mod_keep_L54; try dsimp only
      refine ro_iload_n (pc := 54) 1 dX12_keep_54 rfl rfl ?_
      refine ro_sipush (v := 214) (pc := 55) dX12_keep_55 (by decide) ?_
      refine ro_icmp_ge (tgt := 88) (pc := 58) dX12_keep_58 (by decide) (fun _ => ?_) (fun _ => ?_)
      · skip
        refine ro_lv [0] rfl ?_
        exact hk3 h8
      · skip
        refine ro_aload_n (pc := 61) 0 dX12_keep_61 rfl rfl ?_
        refine gf_X12_31 (pc := 62) wd_1353 dX12_keep_62 ?_
        refine ro_sipush (v := 214) (pc := 65) dX12_keep_65 (by decide) ?_
        refine ro_aload_n (pc := 68) 0 dX12_keep_68 rfl rfl ?_
        refine gf_X12_32 (pc := 69) wd_1354 dX12_keep_69 ?_
        refine ro_imul (pc := 72) dX12_keep_72 ?_
        refine ro_iload_n (pc := 73) 1 dX12_keep_73 rfl rfl ?_
        refine ro_iadd (pc := 74) dX12_keep_74 ?_
        refine ro_aload_n (pc := 75) 0 dX12_keep_75 rfl rfl ?_
        refine gf_X12_27 (pc := 76) wd_1349 dX12_keep_76 ?_
        refine ro_iload_n (pc := 79) 1 dX12_keep_79 rfl rfl ?_
        refine ro_iald (pc := 80) (n := 214) cl_68 cv_68 dX12_keep_80 ?_
        refine ro_iast (pc := 81) (n := 8560) cl_71 cv_71 dX12_keep_81 ?_
        refine ro_bnh (fun h9 => ?_)
        refine ro_iinc (pc := 82) (v := x7 + 1) (lv' := [(1, .int (x7 + 1)), (0, .ref (xa X 51))]) 1 dX12_keep_82 rfl rfl (by decide) rfl ?_
        refine ro_goto (tgt := 54) (pc := 85) dX12_keep_85 (by decide) ?_
        refine ro_lv [1, 0] rfl ?_
        exact hrec6 (x7 + 1, h9)
  · skip
    refine ro_icmp_ne (tgt := 52) (pc := 6) dX12_keep_6 (by decide) (fun _ => ?_) (fun _ => ?_)
    · skip
      exact hj1 h
    · skip
      refine ro_sipush (v := 214) (pc := 9) dX12_keep_9 (by decide) ?_
      refine ro_istore_n (pc := 12) (lv' := [(1, .int 214), (0, .ref (xa X 51))]) dX12_keep_12 rfl (by decide) rfl ?_
      refine ro_jn (pcj := 42) (lvs := fun (s : mu_H) => [(0, .ref (xa X 51))]) (hs := fun (s : mu_H) => s) (sts := fun (s : mu_H) => []) (fun h11 => ?_) (fun k10 hk10 => ?_)
      · try dsimp only
        refine ro_aload_n (pc := 42) 0 dX12_keep_42 rfl rfl ?_
        refine ro_dup (pc := 43) dX12_keep_43 rfl ?_
        refine gf_X12_32 (pc := 44) wd_1354 dX12_keep_44 ?_
        refine ro_iconst (v := 1) (pc := 47) dX12_keep_47 (by decide) ?_
        refine ro_isub (pc := 48) dX12_keep_48 ?_
        refine pf_X12_32 (pc := 49) wd_1354 dX12_keep_49 ?_
        refine ro_bnh (fun h12 => ?_)
        exact hj1 h12
      · skip
        refine ro_lv [1, 0] rfl ?_
        refine ro_lp (pc := 13) (lvs := fun (s : Int32 × mu_H) => [(0, .ref (xa X 51)), (1, .int s.1)]) (hs := fun (s : Int32 × mu_H) => s.2) (fun rec13 hrec13 s => ?_) N (214, h)
        obtain ⟨x14, h15⟩ := s; unfold f_Mod_keep_L13; try dsimp only
        refine ro_iload_n (pc := 13) 1 dX12_keep_13 rfl rfl ?_
        refine ro_sipush (v := 8560) (pc := 14) dX12_keep_14 (by decide) ?_
        refine ro_icmp_ge (tgt := 42) (pc := 17) dX12_keep_17 (by decide) (fun _ => ?_) (fun _ => ?_)
        · skip
          refine ro_lv [0] rfl ?_
          exact hk10 h15
        · skip
          refine ro_aload_n (pc := 20) 0 dX12_keep_20 rfl rfl ?_
          refine gf_X12_31 (pc := 21) wd_1353 dX12_keep_21 ?_
          refine ro_iload_n (pc := 24) 1 dX12_keep_24 rfl rfl ?_
          refine ro_sipush (v := 214) (pc := 25) dX12_keep_25 (by decide) ?_
          refine ro_isub (pc := 28) dX12_keep_28 ?_
          refine ro_aload_n (pc := 29) 0 dX12_keep_29 rfl rfl ?_
          refine gf_X12_31 (pc := 30) wd_1353 dX12_keep_30 ?_
          refine ro_iload_n (pc := 33) 1 dX12_keep_33 rfl rfl ?_
          refine ro_iald (pc := 34) (n := 8560) cl_71 cv_71 dX12_keep_34 ?_
          refine ro_iast (pc := 35) (n := 8560) cl_71 cv_71 dX12_keep_35 ?_
          refine ro_bnh (fun h16 => ?_)
          refine ro_iinc (pc := 36) (v := x14 + 1) (lv' := [(1, .int (x14 + 1)), (0, .ref (xa X 51))]) 1 dX12_keep_36 rfl rfl (by decide) rfl ?_
          refine ro_goto (tgt := 13) (pc := 39) dX12_keep_39 (by decide) ?_
          refine ro_lv [1, 0] rfl ?_
          exact hrec13 (x14 + 1, h16)
theorem c_Mod_keep (X : mu_X) (N : Nat) (h : mu_H) : ∀ r, f_Mod_keep N h = some r → mV X m_Mod_keep 1 [.ref (xa X 51)] h r := fun r hr => mV_of (by decide) rfl (Nat.le_of_ble_eq_true rfl) rfl (cb_Mod_keep X N h r hr)
set_option maxRecDepth 20000 in
theorem cb_Mod_isAt (X : mu_X) (N : Nat) (h : mu_H) (a1 : Int32) (a2 : Int32) : aG X m_Mod_isAt (rmk 2) (fun _ => ax X) (fun _ _ _ => True) 0 0 (fun r : Int32 => qI X r h) (f_Mod_isAt N h a1 a2) 0 [(0, .ref (xa X 51)), (1, .int a1), (2, .int a2)] [] h := by
  unfold f_Mod_isAt
  refine ro_aload_n (pc := 0) 0 dX12_isAt_0 rfl rfl ?_
  refine ro_iload_n (pc := 1) 1 dX12_isAt_1 rfl rfl ?_
  refine ro_iconst (v := 0) (pc := 2) dX12_isAt_2 (by decide) ?_
  refine ro_cvP (pc := 3) (kc := 1) (avs := [.int a1, .int 0]) (st := []) ok_Mod_of wd_1608 cl_51 cv_51 rfl ⟨by decide, by decide⟩ ⟨Nat.zero_le _, Nat.zero_le _⟩ (c_Mod_of X N h a1 0) rfl rfl (Nat.le_of_ble_eq_true rfl) dX12_isAt_3 (fun x1 => ?_)
  refine ro_iload_n (pc := 6) 2 dX12_isAt_6 rfl rfl ?_
  refine ro_icmp_eq (tgt := 20) (pc := 7) dX12_isAt_7 (by decide) (fun _ => ?_) (fun _ => ?_)
  · skip
    refine ro_iconst (v := 1) (pc := 20) dX12_isAt_20 (by decide) ?_
    refine ro_goto (tgt := 25) (pc := 21) dX12_isAt_21 (by decide) ?_
    exact ro_zret (pc := 25) rfl rfl rfl dX12_isAt_25
  · skip
    refine ro_aload_n (pc := 10) 0 dX12_isAt_10 rfl rfl ?_
    refine ro_iload_n (pc := 11) 1 dX12_isAt_11 rfl rfl ?_
    refine ro_iconst (v := 1) (pc := 12) dX12_isAt_12 (by decide) ?_
    refine ro_cvP (pc := 13) (kc := 1) (avs := [.int a1, .int 1]) (st := []) ok_Mod_of wd_1608 cl_51 cv_51 rfl ⟨by decide, by decide⟩ ⟨Nat.zero_le _, Nat.zero_le _⟩ (c_Mod_of X N h a1 1) rfl rfl (Nat.le_of_ble_eq_true rfl) dX12_isAt_13 (fun x2 => ?_)
    refine ro_iload_n (pc := 16) 2 dX12_isAt_16 rfl rfl ?_
    refine ro_icmp_ne (tgt := 24) (pc := 17) dX12_isAt_17 (by decide) (fun _ => ?_) (fun _ => ?_)
    · skip
      refine ro_iconst (v := 0) (pc := 24) dX12_isAt_24 (by decide) ?_
      exact ro_zret (pc := 25) rfl rfl rfl dX12_isAt_25
    · skip
      refine ro_iconst (v := 1) (pc := 20) dX12_isAt_20 (by decide) ?_
      refine ro_goto (tgt := 25) (pc := 21) dX12_isAt_21 (by decide) ?_
      exact ro_zret (pc := 25) rfl rfl rfl dX12_isAt_25
theorem c_Mod_isAt (X : mu_X) (N : Nat) (h : mu_H) (a1 : Int32) (a2 : Int32) : ∀ r, f_Mod_isAt N h a1 a2 = some r → mI X m_Mod_isAt 2 [.ref (xa X 51), .int a1, .int a2] h r h := fun r hr => mI_of (by decide) rfl (Nat.le_of_ble_eq_true rfl) rfl (cb_Mod_isAt X N h a1 a2 r hr)
set_option maxRecDepth 20000 in
theorem cb_Mod_ditch (X : mu_X) (N : Nat) (h : mu_H) (a1 : Int32) : aG X m_Mod_ditch (rmk 3) (fun _ => ax X) (fun _ _ _ => True) 0 0 (fun r : Int32 × mu_H => qI X r.1 r.2) (f_Mod_ditch N h a1) 0 [(0, .ref (xa X 51)), (1, .int a1)] [] h := by
  unfold f_Mod_ditch
  refine ro_aload_n (pc := 0) 0 dX12_ditch_0 rfl rfl ?_
  refine ro_aload_n (pc := 1) 0 dX12_ditch_1 rfl rfl ?_
  refine ro_iload_n (pc := 2) 1 dX12_ditch_2 rfl rfl ?_
  refine ro_cvP (pc := 3) (kc := 2) (avs := [.int a1]) (st := [.ref (xa X 51)]) ok_Mod_isStretch wd_1626 cl_51 cv_51 rfl ⟨by decide, by decide⟩ ⟨Nat.zero_le _, Nat.zero_le _⟩ (c_Mod_isStretch X N h a1) rfl rfl (Nat.le_of_ble_eq_true rfl) dX12_ditch_3 (fun x1 => ?_)
  refine ro_jn (pcj := 41) (lvs := fun (s : Int32) => [(0, .ref (xa X 51)), (1, .int a1)]) (hs := fun (s : Int32) => h) (sts := fun (s : Int32) => [.int s, .ref (xa X 51)]) (fun x3 => ?_) (fun j2 hj2 => ?_)
  · try dsimp only
    refine ro_cvI (pc := 41) (kc := 1) (avs := [.int x3]) (st := []) ok_Mod_isRefused wd_1701 cl_51 cv_51 rfl ⟨by decide, by decide⟩ ⟨Nat.zero_le _, Nat.zero_le _⟩ (c_Mod_isRefused X N h x3) rfl rfl (Nat.le_of_ble_eq_true rfl) dX12_ditch_41 (fun x4 h5 => ?_)
    refine ro_if_eq (tgt := 49) (pc := 44) dX12_ditch_44 (by decide) (fun _ => ?_) (fun _ => ?_)
    · skip
      refine ro_aload_n (pc := 49) 0 dX12_ditch_49 rfl rfl ?_
      refine ro_cvV (pc := 50) (kc := 1) (avs := []) (st := []) ok_Mod_keep wd_1705 cl_51 cv_51 rfl ⟨by decide, by decide⟩ ⟨Nat.zero_le _, Nat.zero_le _⟩ (c_Mod_keep X N h5) rfl rfl (Nat.le_of_ble_eq_true rfl) dX12_ditch_50 (fun h7 => ?_)
      refine ro_aload_n (pc := 53) 0 dX12_ditch_53 rfl rfl ?_
      refine gf_X12_27 (pc := 54) wd_1349 dX12_ditch_54 ?_
      refine ro_bipush (v := 30) (pc := 57) dX12_ditch_57 (by decide) ?_
      refine ro_dup2_11 (pc := 59) dX12_ditch_59 rfl rfl ?_
      refine ro_iald (pc := 60) (n := 214) cl_68 cv_68 dX12_ditch_60 ?_
      refine ro_iconst (v := 2) (pc := 61) dX12_ditch_61 (by decide) ?_
      refine ro_isub (pc := 62) dX12_ditch_62 ?_
      refine ro_iast (pc := 63) (n := 214) cl_68 cv_68 dX12_ditch_63 ?_
      refine ro_bnh (fun h8 => ?_)
      refine ro_aload_n (pc := 64) 0 dX12_ditch_64 rfl rfl ?_
      refine gf_X12_27 (pc := 65) wd_1349 dX12_ditch_65 ?_
      refine ro_bipush (v := 9) (pc := 68) dX12_ditch_68 (by decide) ?_
      refine ro_iload_n (pc := 70) 1 dX12_ditch_70 rfl rfl ?_
      refine ro_iadd (pc := 71) dX12_ditch_71 ?_
      refine ro_dup2_11 (pc := 72) dX12_ditch_72 rfl rfl ?_
      refine ro_iald (pc := 73) (n := 214) cl_68 cv_68 dX12_ditch_73 ?_
      refine ro_iconst (v := 1) (pc := 74) dX12_ditch_74 (by decide) ?_
      refine ro_isub (pc := 75) dX12_ditch_75 ?_
      refine ro_iast (pc := 76) (n := 214) cl_68 cv_68 dX12_ditch_76 ?_
      refine ro_bnh (fun h9 => ?_)
      refine ro_iconst (v := 0) (pc := 77) dX12_ditch_77 (by decide) ?_
      refine ro_istore_n (pc := 78) (lv' := [(2, .int 0), (0, .ref (xa X 51)), (1, .int a1)]) dX12_ditch_78 rfl (by decide) rfl ?_
      refine ro_jn (pcj := 137) (lvs := fun (s : mu_H) => [(0, .ref (xa X 51)), (1, .int a1)]) (hs := fun (s : mu_H) => s) (sts := fun (s : mu_H) => []) (fun h11 => ?_) (fun k10 hk10 => ?_)
      · try dsimp only
        refine ro_aload_n (pc := 137) 0 dX12_ditch_137 rfl rfl ?_
        refine gf_X12_27 (pc := 138) wd_1349 dX12_ditch_138 ?_
        refine ro_bipush (v := 9) (pc := 141) dX12_ditch_141 (by decide) ?_
        refine ro_iload_n (pc := 143) 1 dX12_ditch_143 rfl rfl ?_
        refine ro_iadd (pc := 144) dX12_ditch_144 ?_
        refine ro_iald (pc := 145) (n := 214) cl_68 cv_68 dX12_ditch_145 ?_
        exact ro_iret (pc := 146) rfl rfl dX12_ditch_146
      · skip
        refine ro_lv [1, 2, 0] rfl ?_
        refine ro_lp (pc := 79) (lvs := fun (s : Int32 × mu_H) => [(0, .ref (xa X 51)), (1, .int a1), (2, .int s.1)]) (hs := fun (s : Int32 × mu_H) => s.2) (fun rec12 hrec12 s => ?_) N (0, h9)
        obtain ⟨x13, h14⟩ := s; unfold f_Mod_ditch_L79; try dsimp only
        refine ro_iload_n (pc := 79) 2 dX12_ditch_79 rfl rfl ?_
        refine ro_aload_n (pc := 80) 0 dX12_ditch_80 rfl rfl ?_
        refine gf_X12_25 (pc := 81) wd_1347 dX12_ditch_81 ?_
        refine ro_icmp_ge (tgt := 137) (pc := 84) dX12_ditch_84 (by decide) (fun _ => ?_) (fun _ => ?_)
        · skip
          refine ro_lv [0, 1] rfl ?_
          exact hk10 h14
        · skip
          refine ro_iload_n (pc := 87) 2 dX12_ditch_87 rfl rfl ?_
          refine ro_iload_n (pc := 88) 1 dX12_ditch_88 rfl rfl ?_
          refine ro_jn (pcj := 131) (lvs := fun (s : mu_H) => [(0, .ref (xa X 51)), (1, .int a1), (2, .int x13)]) (hs := fun (s : mu_H) => s) (sts := fun (s : mu_H) => []) (fun h16 => ?_) (fun j15 hj15 => ?_)
          · try dsimp only
            refine ro_iinc (pc := 131) (v := x13 + 1) (lv' := [(2, .int (x13 + 1)), (0, .ref (xa X 51)), (1, .int a1)]) 2 dX12_ditch_131 rfl rfl (by decide) rfl ?_
            refine ro_goto (tgt := 79) (pc := 134) dX12_ditch_134 (by decide) ?_
            refine ro_lv [1, 2, 0] rfl ?_
            exact hrec12 (x13 + 1, h16)
          · skip
            refine ro_icmp_eq (tgt := 131) (pc := 89) dX12_ditch_89 (by decide) (fun _ => ?_) (fun _ => ?_)
            · skip
              exact hj15 h14
            · skip
              refine ro_aload_n (pc := 92) 0 dX12_ditch_92 rfl rfl ?_
              refine ro_iload_n (pc := 93) 2 dX12_ditch_93 rfl rfl ?_
              refine ro_aload_n (pc := 94) 0 dX12_ditch_94 rfl rfl ?_
              refine ro_iload_n (pc := 95) 1 dX12_ditch_95 rfl rfl ?_
              refine ro_iconst (v := 1) (pc := 96) dX12_ditch_96 (by decide) ?_
              refine ro_cvP (pc := 97) (kc := 1) (avs := [.int a1, .int 1]) (st := [.int x13, .ref (xa X 51)]) ok_Mod_of wd_1608 cl_51 cv_51 rfl ⟨by decide, by decide⟩ ⟨Nat.zero_le _, Nat.zero_le _⟩ (c_Mod_of X N h14 a1 1) rfl rfl (Nat.le_of_ble_eq_true rfl) dX12_ditch_97 (fun x17 => ?_)
              refine ro_cvP (pc := 100) (kc := 2) (avs := [.int x13, .int x17]) (st := []) ok_Mod_isAt wd_1721 cl_51 cv_51 rfl ⟨by decide, by decide⟩ ⟨Nat.zero_le _, Nat.zero_le _⟩ (c_Mod_isAt X N h14 x13 x17) rfl rfl (Nat.le_of_ble_eq_true rfl) dX12_ditch_100 (fun x18 => ?_)
              refine ro_if_eq (tgt := 131) (pc := 103) dX12_ditch_103 (by decide) (fun _ => ?_) (fun _ => ?_)
              · skip
                exact hj15 h14
              · skip
                refine ro_aload_n (pc := 106) 0 dX12_ditch_106 rfl rfl ?_
                refine gf_X12_27 (pc := 107) wd_1349 dX12_ditch_107 ?_
                refine ro_bipush (v := 9) (pc := 110) dX12_ditch_110 (by decide) ?_
                refine ro_iload_n (pc := 112) 2 dX12_ditch_112 rfl rfl ?_
                refine ro_iadd (pc := 113) dX12_ditch_113 ?_
                refine ro_bipush (v := 9) (pc := 114) dX12_ditch_114 (by decide) ?_
                refine ro_aload_n (pc := 116) 0 dX12_ditch_116 rfl rfl ?_
                refine gf_X12_27 (pc := 117) wd_1349 dX12_ditch_117 ?_
                refine ro_bipush (v := 9) (pc := 120) dX12_ditch_120 (by decide) ?_
                refine ro_iload_n (pc := 122) 2 dX12_ditch_122 rfl rfl ?_
                refine ro_iadd (pc := 123) dX12_ditch_123 ?_
                refine ro_iald (pc := 124) (n := 214) cl_68 cv_68 dX12_ditch_124 ?_
                refine ro_iconst (v := 1) (pc := 125) dX12_ditch_125 (by decide) ?_
                refine ro_iadd (pc := 126) dX12_ditch_126 ?_
                refine ro_mmin (pc := 127) (st := [.int (9 + x13), .ref (xa X 68)]) wd_1617 (by decide) (Nat.le_of_ble_eq_true rfl) ⟨Nat.zero_le _, Nat.zero_le _⟩ dX12_ditch_127 ?_
                refine ro_iast (pc := 130) (n := 214) cl_68 cv_68 dX12_ditch_130 ?_
                refine ro_bnh (fun h19 => ?_)
                exact hj15 h19
    · skip
      refine ro_iconst (v := (-1)) (pc := 47) dX12_ditch_47 (by decide) ?_
      exact ro_iret (pc := 48) rfl rfl dX12_ditch_48
  · skip
    refine ro_if_ne (tgt := 13) (pc := 6) dX12_ditch_6 (by decide) (fun _ => ?_) (fun _ => ?_)
    · skip
      refine ro_aload_n (pc := 13) 0 dX12_ditch_13 rfl rfl ?_
      refine gf_X12_27 (pc := 14) wd_1349 dX12_ditch_14 ?_
      refine ro_bipush (v := 30) (pc := 17) dX12_ditch_17 (by decide) ?_
      refine ro_iald (pc := 19) (n := 214) cl_68 cv_68 dX12_ditch_19 ?_
      refine ro_iconst (v := 2) (pc := 20) dX12_ditch_20 (by decide) ?_
      refine ro_jn (pcj := 36) (lvs := fun (s : Unit) => [(0, .ref (xa X 51)), (1, .int a1)]) (hs := fun (s : Unit) => h) (sts := fun (s : Unit) => [.ref (xa X 51)]) (fun s => ?_) (fun j20 hj20 => ?_)
      · try dsimp only
        refine ro_iconst (v := 3) (pc := 36) dX12_ditch_36 (by decide) ?_
        refine ro_goto (tgt := 41) (pc := 37) dX12_ditch_37 (by decide) ?_
        exact hj2 3
      · skip
        refine ro_icmp_lt (tgt := 36) (pc := 21) dX12_ditch_21 (by decide) (fun _ => ?_) (fun _ => ?_)
        · skip
          exact hj20 ()
        · skip
          refine ro_aload_n (pc := 24) 0 dX12_ditch_24 rfl rfl ?_
          refine gf_X12_27 (pc := 25) wd_1349 dX12_ditch_25 ?_
          refine ro_bipush (v := 9) (pc := 28) dX12_ditch_28 (by decide) ?_
          refine ro_iload_n (pc := 30) 1 dX12_ditch_30 rfl rfl ?_
          refine ro_iadd (pc := 31) dX12_ditch_31 ?_
          refine ro_iald (pc := 32) (n := 214) cl_68 cv_68 dX12_ditch_32 ?_
          refine ro_if_ne (tgt := 40) (pc := 33) dX12_ditch_33 (by decide) (fun _ => ?_) (fun _ => ?_)
          · skip
            refine ro_iconst (v := (-1)) (pc := 40) dX12_ditch_40 (by decide) ?_
            exact hj2 (-1)
          · skip
            exact hj20 ()
    · skip
      refine ro_iconst (v := 0) (pc := 9) dX12_ditch_9 (by decide) ?_
      refine ro_goto (tgt := 41) (pc := 10) dX12_ditch_10 (by decide) ?_
      exact hj2 0
theorem c_Mod_ditch (X : mu_X) (N : Nat) (h : mu_H) (a1 : Int32) : ∀ r, f_Mod_ditch N h a1 = some r → mI X m_Mod_ditch 3 [.ref (xa X 51), .int a1] h r.1 r.2 := fun r hr => mI_of (by decide) rfl (Nat.le_of_ble_eq_true rfl) rfl (cb_Mod_ditch X N h a1 r hr)
set_option maxRecDepth 20000 in
theorem cb_Mod_does (X : mu_X) (N : Nat) (h : mu_H) (a1 : Int32) (a2 : Int32) (a3 : Int32) : aG X m_Mod_does (rmk 8) (fun _ => ax X) (fun _ _ _ => True) 0 0 (fun r : Int32 × mu_H => qI X r.1 r.2) (f_Mod_does N h a1 a2 a3) 0 [(0, .ref (xa X 51)), (1, .int a1), (2, .int a2), (3, .int a3)] [] h := by
  unfold f_Mod_does
  refine ro_aload_n (pc := 0) 0 dX12_does_0 rfl rfl ?_
  refine ro_iload_n (pc := 1) 1 dX12_does_1 rfl rfl ?_
  refine ro_cvP (pc := 2) (kc := 2) (avs := [.int a1]) (st := []) ok_Mod_isHouse wd_1634 cl_51 cv_51 rfl ⟨by decide, by decide⟩ ⟨Nat.zero_le _, Nat.zero_le _⟩ (c_Mod_isHouse X N h a1) rfl rfl (Nat.le_of_ble_eq_true rfl) dX12_does_2 (fun x1 => ?_)
  refine ro_if_eq (tgt := 39) (pc := 5) dX12_does_5 (by decide) (fun _ => ?_) (fun _ => ?_)
  · skip
    refine ro_iconst (v := (-1)) (pc := 39) dX12_does_39 (by decide) ?_
    exact ro_iret (pc := 40) rfl rfl dX12_does_40
  · skip
    refine ro_aload_n (pc := 8) 0 dX12_does_8 rfl rfl ?_
    refine ro_iload_n (pc := 9) 2 dX12_does_9 rfl rfl ?_
    refine ro_cvP (pc := 10) (kc := 2) (avs := [.int a2]) (st := []) ok_Mod_isStretch wd_1626 cl_51 cv_51 rfl ⟨by decide, by decide⟩ ⟨Nat.zero_le _, Nat.zero_le _⟩ (c_Mod_isStretch X N h a2) rfl rfl (Nat.le_of_ble_eq_true rfl) dX12_does_10 (fun x2 => ?_)
    refine ro_if_eq (tgt := 39) (pc := 13) dX12_does_13 (by decide) (fun _ => ?_) (fun _ => ?_)
    · skip
      refine ro_iconst (v := (-1)) (pc := 39) dX12_does_39 (by decide) ?_
      exact ro_iret (pc := 40) rfl rfl dX12_does_40
    · skip
      refine ro_iload_n (pc := 16) 3 dX12_does_16 rfl rfl ?_
      refine ro_iconst (v := 0) (pc := 17) dX12_does_17 (by decide) ?_
      refine ro_iconst (v := 3) (pc := 18) dX12_does_18 (by decide) ?_
      refine ro_csP (pc := 19) (kc := 1) (avs := [.int a3, .int 0, .int 3]) (st := []) ok_Mod_in wd_1523 ⟨by decide, by decide⟩ ⟨Nat.zero_le _, Nat.zero_le _⟩ (c_Mod_in X N h a3 0 3) rfl rfl (Nat.le_of_ble_eq_true rfl) dX12_does_19 (fun x3 => ?_)
      refine ro_if_eq (tgt := 39) (pc := 22) dX12_does_22 (by decide) (fun _ => ?_) (fun _ => ?_)
      · skip
        refine ro_iconst (v := (-1)) (pc := 39) dX12_does_39 (by decide) ?_
        exact ro_iret (pc := 40) rfl rfl dX12_does_40
      · skip
        refine ro_iload_n (pc := 25) 3 dX12_does_25 rfl rfl ?_
        refine ro_iconst (v := 2) (pc := 26) dX12_does_26 (by decide) ?_
        refine ro_jn (pcj := 41) (lvs := fun (s : Unit) => [(0, .ref (xa X 51)), (1, .int a1), (2, .int a2), (3, .int a3)]) (hs := fun (s : Unit) => h) (sts := fun (s : Unit) => []) (fun s => ?_) (fun j4 hj4 => ?_)
        · try dsimp only
          refine ro_aload_n (pc := 41) 0 dX12_does_41 rfl rfl ?_
          refine ro_iload_n (pc := 42) 1 dX12_does_42 rfl rfl ?_
          refine ro_iload_n (pc := 43) 2 dX12_does_43 rfl rfl ?_
          refine ro_iload_n (pc := 44) 3 dX12_does_44 rfl rfl ?_
          refine ro_cvI (pc := 45) (kc := 7) (avs := [.int a1, .int a2, .int a3]) (st := []) ok_Mod_doesNow wd_1662 cl_51 cv_51 rfl ⟨by decide, by decide⟩ ⟨Nat.zero_le _, Nat.zero_le _⟩ (c_Mod_doesNow X N h a1 a2 a3) rfl rfl (Nat.le_of_ble_eq_true rfl) dX12_does_45 (fun x5 h6 => ?_)
          exact ro_iret (pc := 48) rfl rfl dX12_does_48
        · skip
          refine ro_icmp_eq (tgt := 41) (pc := 27) dX12_does_27 (by decide) (fun _ => ?_) (fun _ => ?_)
          · skip
            exact hj4 ()
          · skip
            refine ro_aload_n (pc := 30) 0 dX12_does_30 rfl rfl ?_
            refine ro_iload_n (pc := 31) 1 dX12_does_31 rfl rfl ?_
            refine ro_iload_n (pc := 32) 2 dX12_does_32 rfl rfl ?_
            refine ro_cvP (pc := 33) (kc := 3) (avs := [.int a1, .int a2]) (st := []) ok_Mod_comes wd_1650 cl_51 cv_51 rfl ⟨by decide, by decide⟩ ⟨Nat.zero_le _, Nat.zero_le _⟩ (c_Mod_comes X N h a1 a2) rfl rfl (Nat.le_of_ble_eq_true rfl) dX12_does_33 (fun x8 => ?_)
            refine ro_if_ne (tgt := 41) (pc := 36) dX12_does_36 (by decide) (fun _ => ?_) (fun _ => ?_)
            · skip
              exact hj4 ()
            · skip
              refine ro_iconst (v := (-1)) (pc := 39) dX12_does_39 (by decide) ?_
              exact ro_iret (pc := 40) rfl rfl dX12_does_40
theorem c_Mod_does (X : mu_X) (N : Nat) (h : mu_H) (a1 : Int32) (a2 : Int32) (a3 : Int32) : ∀ r, f_Mod_does N h a1 a2 a3 = some r → mI X m_Mod_does 8 [.ref (xa X 51), .int a1, .int a2, .int a3] h r.1 r.2 := fun r hr => mI_of (by decide) rfl (Nat.le_of_ble_eq_true rfl) rfl (cb_Mod_does X N h a1 a2 a3 r hr)
set_option maxRecDepth 20000 in
theorem cb_Mod_draw (X : mu_X) (N : Nat) (h : mu_H) (a1 : Int32) : aG X m_Mod_draw (rmk 1) (fun _ => ax X) (fun _ _ _ => True) 0 0 (fun r : Int32 × mu_H => qI X r.1 r.2) (f_Mod_draw N h a1) 0 [(0, .ref (xa X 51)), (1, .int a1)] [] h := by
  unfold f_Mod_draw
  refine ro_aload_n (pc := 0) 0 dX12_draw_0 rfl rfl ?_
  refine ro_aload_n (pc := 1) 0 dX12_draw_1 rfl rfl ?_
  refine gf_X12_33 (pc := 2) wd_1355 dX12_draw_2 ?_
  refine ro_ldc2 (v := 6364136223846793005) (pc := 5) dX12_draw_5 wd_1757 ?_
  refine ro_lmul (pc := 8) dX12_draw_8 ?_
  refine ro_ldc2 (v := 1442695040888963407) (pc := 9) dX12_draw_9 wd_1758 ?_
  refine ro_ladd (pc := 12) dX12_draw_12 ?_
  refine pf_X12_33 (pc := 13) wd_1355 dX12_draw_13 ?_
  refine ro_bnh (fun h1 => ?_)
  refine ro_aload_n (pc := 16) 0 dX12_draw_16 rfl rfl ?_
  refine gf_X12_33 (pc := 17) wd_1355 dX12_draw_17 ?_
  refine ro_bipush (v := 33) (pc := 20) dX12_draw_20 (by decide) ?_
  refine ro_lushr (pc := 22) dX12_draw_22 ?_
  refine ro_iload_n (pc := 23) 1 dX12_draw_23 rfl rfl ?_
  refine ro_i2l (pc := 24) dX12_draw_24 ?_
  refine ro_lremg (pc := 25) dX12_draw_25 ?_
  refine ro_l2i (pc := 26) dX12_draw_26 ?_
  exact ro_iret (pc := 27) rfl rfl dX12_draw_27
theorem c_Mod_draw (X : mu_X) (N : Nat) (h : mu_H) (a1 : Int32) : ∀ r, f_Mod_draw N h a1 = some r → mI X m_Mod_draw 1 [.ref (xa X 51), .int a1] h r.1 r.2 := fun r hr => mI_of (by decide) rfl (Nat.le_of_ble_eq_true rfl) rfl (cb_Mod_draw X N h a1 r hr)
set_option maxRecDepth 20000 in
theorem cb_Mod_workNow (X : mu_X) (N : Nat) (h : mu_H) (a1 : Int32) (a2 : Int32) (a3 : Int32) : aG X m_Mod_workNow (rmk 8) (fun _ => ax X) (fun _ _ _ => True) 0 0 (fun r : mu_H => qV X r) (f_Mod_workNow N h a1 a2 a3) 0 [(0, .ref (xa X 51)), (1, .int a1), (2, .int a2), (3, .int a3)] [] h := by
  unfold f_Mod_workNow
  refine ro_aload_n (pc := 0) 0 dX12_workNow_0 rfl rfl ?_
  refine gf_X12_27 (pc := 1) wd_1349 dX12_workNow_1 ?_
  refine ro_iconst (v := 0) (pc := 4) dX12_workNow_4 (by decide) ?_
  refine ro_iload_n (pc := 5) 2 dX12_workNow_5 rfl rfl ?_
  refine ro_iadd (pc := 6) dX12_workNow_6 ?_
  refine ro_iconst (v := 0) (pc := 7) dX12_workNow_7 (by decide) ?_
  refine ro_aload_n (pc := 8) 0 dX12_workNow_8 rfl rfl ?_
  refine gf_X12_27 (pc := 9) wd_1349 dX12_workNow_9 ?_
  refine ro_iconst (v := 0) (pc := 12) dX12_workNow_12 (by decide) ?_
  refine ro_iload_n (pc := 13) 2 dX12_workNow_13 rfl rfl ?_
  refine ro_iadd (pc := 14) dX12_workNow_14 ?_
  refine ro_iald (pc := 15) (n := 214) cl_68 cv_68 dX12_workNow_15 ?_
  refine ro_aload_n (pc := 16) 0 dX12_workNow_16 rfl rfl ?_
  refine ro_iload_n (pc := 17) 1 dX12_workNow_17 rfl rfl ?_
  refine ro_iload_n (pc := 18) 2 dX12_workNow_18 rfl rfl ?_
  refine ro_iload_n (pc := 19) 3 dX12_workNow_19 rfl rfl ?_
  refine ro_cvI (pc := 20) (kc := 7) (avs := [.int a1, .int a2, .int a3]) (st := [.int (h.1 68 (0 + a2).toNatClampNeg), .int 0, .int (0 + a2), .ref (xa X 68)]) ok_Mod_doesNow wd_1662 cl_51 cv_51 rfl ⟨by decide, by decide⟩ ⟨Nat.zero_le _, Nat.zero_le _⟩ (c_Mod_doesNow X N h a1 a2 a3) rfl rfl (Nat.le_of_ble_eq_true rfl) dX12_workNow_20 (fun x1 h2 => ?_)
  refine ro_isub (pc := 23) dX12_workNow_23 ?_
  refine ro_mmax (pc := 24) (st := [.int (0 + a2), .ref (xa X 68)]) wd_1692 (by decide) (Nat.le_of_ble_eq_true rfl) ⟨Nat.zero_le _, Nat.zero_le _⟩ dX12_workNow_24 ?_
  refine ro_iast (pc := 27) (n := 214) cl_68 cv_68 dX12_workNow_27 ?_
  refine ro_bnh (fun h4 => ?_)
  refine ro_aload_n (pc := 28) 0 dX12_workNow_28 rfl rfl ?_
  refine gf_X12_27 (pc := 29) wd_1349 dX12_workNow_29 ?_
  refine ro_bipush (v := 18) (pc := 32) dX12_workNow_32 (by decide) ?_
  refine ro_iload_n (pc := 34) 1 dX12_workNow_34 rfl rfl ?_
  refine ro_iadd (pc := 35) dX12_workNow_35 ?_
  refine ro_dup2_11 (pc := 36) dX12_workNow_36 rfl rfl ?_
  refine ro_iald (pc := 37) (n := 214) cl_68 cv_68 dX12_workNow_37 ?_
  refine ro_iconst (v := 1) (pc := 38) dX12_workNow_38 (by decide) ?_
  refine ro_isub (pc := 39) dX12_workNow_39 ?_
  refine ro_iast (pc := 40) (n := 214) cl_68 cv_68 dX12_workNow_40 ?_
  refine ro_bnh (fun h5 => ?_)
  refine ro_aload_n (pc := 41) 0 dX12_workNow_41 rfl rfl ?_
  refine gf_X12_27 (pc := 42) wd_1349 dX12_workNow_42 ?_
  refine ro_bipush (v := 31) (pc := 45) dX12_workNow_45 (by decide) ?_
  refine ro_dup2_11 (pc := 47) dX12_workNow_47 rfl rfl ?_
  refine ro_iald (pc := 48) (n := 214) cl_68 cv_68 dX12_workNow_48 ?_
  refine ro_iconst (v := 1) (pc := 49) dX12_workNow_49 (by decide) ?_
  refine ro_iadd (pc := 50) dX12_workNow_50 ?_
  refine ro_iast (pc := 51) (n := 214) cl_68 cv_68 dX12_workNow_51 ?_
  refine ro_bnh (fun h6 => ?_)
  refine ro_aload_n (pc := 52) 0 dX12_workNow_52 rfl rfl ?_
  refine gf_X12_27 (pc := 53) wd_1349 dX12_workNow_53 ?_
  refine ro_bipush (v := 30) (pc := 56) dX12_workNow_56 (by decide) ?_
  refine ro_dup2_11 (pc := 58) dX12_workNow_58 rfl rfl ?_
  refine ro_iald (pc := 59) (n := 214) cl_68 cv_68 dX12_workNow_59 ?_
  refine ro_iload_n (pc := 60) 3 dX12_workNow_60 rfl rfl ?_
  refine ro_iconst (v := 2) (pc := 61) dX12_workNow_61 (by decide) ?_
  refine ro_jn (pcj := 75) (lvs := fun (s : Int32) => []) (hs := fun (s : Int32) => h6) (sts := fun (s : Int32) => [.int s, .int (h6.1 68 (30 : Int32).toNatClampNeg), .int 30, .ref (xa X 68)]) (fun x8 => ?_) (fun j7 hj7 => ?_)
  · try dsimp only
    refine ro_iadd (pc := 75) dX12_workNow_75 ?_
    refine ro_iast (pc := 76) (n := 214) cl_68 cv_68 dX12_workNow_76 ?_
    refine ro_bnh (fun h9 => ?_)
    exact ro_vret (pc := 77) rfl rfl dX12_workNow_77
  · skip
    refine ro_icmp_ne (tgt := 74) (pc := 62) dX12_workNow_62 (by decide) (fun _ => ?_) (fun _ => ?_)
    · skip
      refine ro_iconst (v := 0) (pc := 74) dX12_workNow_74 (by decide) ?_
      refine ro_lv [] rfl ?_
      exact hj7 0
    · skip
      refine ro_aload_n (pc := 65) 0 dX12_workNow_65 rfl rfl ?_
      refine gf_X12_22 (pc := 66) wd_1344 dX12_workNow_66 ?_
      refine ro_iconst (v := 2) (pc := 69) dX12_workNow_69 (by decide) ?_
      refine ro_iald (pc := 70) (n := 3) cl_65 cv_65 dX12_workNow_70 ?_
      refine ro_goto (tgt := 75) (pc := 71) dX12_workNow_71 (by decide) ?_
      refine ro_lv [] rfl ?_
      exact hj7 (h6.1 65 (2 : Int32).toNatClampNeg)
theorem c_Mod_workNow (X : mu_X) (N : Nat) (h : mu_H) (a1 : Int32) (a2 : Int32) (a3 : Int32) : ∀ r, f_Mod_workNow N h a1 a2 a3 = some r → mV X m_Mod_workNow 8 [.ref (xa X 51), .int a1, .int a2, .int a3] h r := fun r hr => mV_of (by decide) rfl (Nat.le_of_ble_eq_true rfl) rfl (cb_Mod_workNow X N h a1 a2 a3 r hr)
set_option maxRecDepth 20000 in
theorem cb_Mod_drawDay (X : mu_X) (N : Nat) (h : mu_H) (a1 : Int32) : aG X m_Mod_drawDay (rmk 9) (fun _ => ax X) (fun _ _ _ => True) 0 0 (fun r : mu_H => qV X r) (f_Mod_drawDay N h a1) 0 [(0, .ref (xa X 51)), (1, .int a1)] [] h := by
  unfold f_Mod_drawDay
  refine ro_aload_n (pc := 0) 0 dX12_drawDay_0 rfl rfl ?_
  refine ro_aload_n (pc := 1) 0 dX12_drawDay_1 rfl rfl ?_
  refine gf_X12_25 (pc := 2) wd_1347 dX12_drawDay_2 ?_
  refine ro_cvI (pc := 5) (kc := 1) (avs := [.int (h.1 51 25)]) (st := []) ok_Mod_draw wd_1753 cl_51 cv_51 rfl ⟨by decide, by decide⟩ ⟨Nat.zero_le _, Nat.zero_le _⟩ (c_Mod_draw X N h (h.1 51 25)) rfl rfl (Nat.le_of_ble_eq_true rfl) dX12_drawDay_5 (fun x1 h2 => ?_)
  refine ro_istore_n (pc := 8) (lv' := [(2, .int x1), (0, .ref (xa X 51)), (1, .int a1)]) dX12_drawDay_8 rfl (by decide) rfl ?_
  refine ro_aload_n (pc := 9) 1 dX12_drawDay_9 rfl rfl ?_
  refine ro_bipush (v := 10) (pc := 10) dX12_drawDay_10 (by decide) ?_
  refine ro_cvI (pc := 12) (kc := 1) (avs := [.int 10]) (st := []) ok_Mod_draw wd_1753 cl_51 cv_51 rfl ⟨by decide, by decide⟩ ⟨Nat.zero_le _, Nat.zero_le _⟩ (c_Mod_draw X N h2 10) rfl rfl (Nat.le_of_ble_eq_true rfl) dX12_drawDay_12 (fun x4 h5 => ?_)
  refine ro_aload_n (pc := 15) 1 dX12_drawDay_15 rfl rfl ?_
  refine ro_iload_n (pc := 16) 2 dX12_drawDay_16 rfl rfl ?_
  refine ro_iconst (v := 2) (pc := 17) dX12_drawDay_17 (by decide) ?_
  refine ro_cvP (pc := 18) (kc := 1) (avs := [.int a1, .int 2]) (st := [.int x4]) ok_Mod_ofHouse wd_1638 cl_51 cv_51 rfl ⟨by decide, by decide⟩ ⟨Nat.zero_le _, Nat.zero_le _⟩ (c_Mod_ofHouse X N h5 a1 2) rfl rfl (Nat.le_of_ble_eq_true rfl) dX12_drawDay_18 (fun x7 => ?_)
  refine ro_jn (pcj := 41) (lvs := fun (s : Int32 × mu_H) => [(0, .ref (xa X 51)), (1, .int a1), (2, .int x1)]) (hs := fun (s : Int32 × mu_H) => s.2) (sts := fun (s : Int32 × mu_H) => [.int s.1]) (fun s => ?_) (fun j8 hj8 => ?_)
  · obtain ⟨x9, h10⟩ := s; try dsimp only
    refine ro_istore_n (pc := 41) (lv' := [(3, .int x9), (0, .ref (xa X 51)), (1, .int a1), (2, .int x1)]) dX12_drawDay_41 rfl (by decide) rfl ?_
    refine ro_aload_n (pc := 42) 1 dX12_drawDay_42 rfl rfl ?_
    refine ro_iload_n (pc := 43) 2 dX12_drawDay_43 rfl rfl ?_
    refine ro_iload_n (pc := 44) 3 dX12_drawDay_44 rfl rfl ?_
    refine ro_cvP (pc := 45) (kc := 3) (avs := [.int a1, .int x1]) (st := []) ok_Mod_comes wd_1650 cl_51 cv_51 rfl ⟨by decide, by decide⟩ ⟨Nat.zero_le _, Nat.zero_le _⟩ (c_Mod_comes X N h10 a1 x1) rfl rfl (Nat.le_of_ble_eq_true rfl) dX12_drawDay_45 (fun x11 => ?_)
    refine ro_if_eq (tgt := 58) (pc := 48) dX12_drawDay_48 (by decide) (fun _ => ?_) (fun _ => ?_)
    · skip
      exact ro_vret (pc := 58) rfl rfl dX12_drawDay_58
    · skip
      refine ro_aload_n (pc := 51) 1 dX12_drawDay_51 rfl rfl ?_
      refine ro_iload_n (pc := 52) 2 dX12_drawDay_52 rfl rfl ?_
      refine ro_iload_n (pc := 53) 3 dX12_drawDay_53 rfl rfl ?_
      refine ro_iload_n (pc := 54) 0 dX12_drawDay_54 rfl rfl ?_
      refine ro_cvV (pc := 55) (kc := 8) (avs := [.int a1, .int x1, .int x9]) (st := []) ok_Mod_workNow wd_1709 cl_51 cv_51 rfl ⟨by decide, by decide⟩ ⟨Nat.zero_le _, Nat.zero_le _⟩ (c_Mod_workNow X N h10 a1 x1 x9) rfl rfl (Nat.le_of_ble_eq_true rfl) dX12_drawDay_55 (fun h12 => ?_)
      exact ro_vret (pc := 58) rfl rfl dX12_drawDay_58
  · skip
    refine ro_icmp_ge (tgt := 28) (pc := 21) dX12_drawDay_21 (by decide) (fun _ => ?_) (fun _ => ?_)
    · skip
      refine ro_aload_n (pc := 28) 1 dX12_drawDay_28 rfl rfl ?_
      refine ro_iconst (v := 2) (pc := 29) dX12_drawDay_29 (by decide) ?_
      refine ro_cvI (pc := 30) (kc := 1) (avs := [.int 2]) (st := []) ok_Mod_draw wd_1753 cl_51 cv_51 rfl ⟨by decide, by decide⟩ ⟨Nat.zero_le _, Nat.zero_le _⟩ (c_Mod_draw X N h5 2) rfl rfl (Nat.le_of_ble_eq_true rfl) dX12_drawDay_30 (fun x13 h14 => ?_)
      refine ro_if_ne (tgt := 40) (pc := 33) dX12_drawDay_33 (by decide) (fun _ => ?_) (fun _ => ?_)
      · skip
        refine ro_iconst (v := 3) (pc := 40) dX12_drawDay_40 (by decide) ?_
        refine ro_lv [1, 2, 0] rfl ?_
        exact hj8 (3, h14)
      · skip
        refine ro_iconst (v := 1) (pc := 36) dX12_drawDay_36 (by decide) ?_
        refine ro_goto (tgt := 41) (pc := 37) dX12_drawDay_37 (by decide) ?_
        refine ro_lv [1, 2, 0] rfl ?_
        exact hj8 (1, h14)
    · skip
      refine ro_iconst (v := 0) (pc := 24) dX12_drawDay_24 (by decide) ?_
      refine ro_goto (tgt := 41) (pc := 25) dX12_drawDay_25 (by decide) ?_
      refine ro_lv [1, 2, 0] rfl ?_
      exact hj8 (0, h5)
theorem c_Mod_drawDay (X : mu_X) (N : Nat) (h : mu_H) (a1 : Int32) : ∀ r, f_Mod_drawDay N h a1 = some r → mV X m_Mod_drawDay 9 [.ref (xa X 51), .int a1] h r := fun r hr => mV_of (by decide) rfl (Nat.le_of_ble_eq_true rfl) rfl (cb_Mod_drawDay X N h a1 r hr)
set_option maxRecDepth 20000 in
theorem cb_Mod_end (X : mu_X) (N : Nat) (h : mu_H) (a1 : Int32) : aG X m_Mod_end (rmk 1) (fun _ => ax X) (fun _ _ _ => True) 0 0 (fun r : Int32 × mu_H => qI X r.1 r.2) (f_Mod_end N h a1) 0 [(0, .ref (xa X 51)), (1, .int a1)] [] h := by
  unfold f_Mod_end
  refine ro_iload_n (pc := 0) 1 dX12_end_0 rfl rfl ?_
  refine ro_if_lt (tgt := 12) (pc := 1) dX12_end_1 (by decide) (fun _ => ?_) (fun _ => ?_)
  · skip
    refine ro_iconst (v := 0) (pc := 12) dX12_end_12 (by decide) ?_
    exact ro_zret (pc := 13) rfl rfl rfl dX12_end_13
  · skip
    refine ro_iload_n (pc := 4) 1 dX12_end_4 rfl rfl ?_
    refine ro_aload_n (pc := 5) 0 dX12_end_5 rfl rfl ?_
    refine gf_X12_2 (pc := 6) wd_1324 dX12_end_6 ?_
    refine ro_icmp_le (tgt := 14) (pc := 9) dX12_end_9 (by decide) (fun _ => ?_) (fun _ => ?_)
    · skip
      refine ro_aload_n (pc := 14) 0 dX12_end_14 rfl rfl ?_
      refine ro_iload_n (pc := 15) 1 dX12_end_15 rfl rfl ?_
      refine pf_X12_2 (pc := 16) wd_1324 dX12_end_16 ?_
      refine ro_bnh (fun h1 => ?_)
      refine ro_iconst (v := 1) (pc := 19) dX12_end_19 (by decide) ?_
      exact ro_zret (pc := 20) rfl rfl rfl dX12_end_20
    · skip
      refine ro_iconst (v := 0) (pc := 12) dX12_end_12 (by decide) ?_
      exact ro_zret (pc := 13) rfl rfl rfl dX12_end_13
theorem c_Mod_end (X : mu_X) (N : Nat) (h : mu_H) (a1 : Int32) : ∀ r, f_Mod_end N h a1 = some r → mI X m_Mod_end 1 [.ref (xa X 51), .int a1] h r.1 r.2 := fun r hr => mI_of (by decide) rfl (Nat.le_of_ble_eq_true rfl) rfl (cb_Mod_end X N h a1 r hr)
set_option maxRecDepth 20000 in
theorem cb_Mod_ends (X : mu_X) (N : Nat) (h : mu_H) : aG X m_Mod_ends (rmk 3) (fun _ => ax X) (fun _ _ _ => True) 0 0 (fun r : Int32 => qI X r h) (f_Mod_ends N h) 0 [(0, .ref (xa X 51))] [] h := by
  unfold f_Mod_ends
  refine ro_aload_n (pc := 0) 0 dX12_ends_0 rfl rfl ?_
  refine gf_X12_25 (pc := 1) wd_1347 dX12_ends_1 ?_
  refine ro_if_ne (tgt := 9) (pc := 4) dX12_ends_4 (by decide) (fun _ => ?_) (fun _ => ?_)
  · skip
    refine ro_iconst (v := 0) (pc := 9) dX12_ends_9 (by decide) ?_
    refine ro_istore_n (pc := 10) (lv' := [(1, .int 0), (0, .ref (xa X 51))]) dX12_ends_10 rfl (by decide) rfl ?_
    refine ro_iconst (v := 0) (pc := 11) dX12_ends_11 (by decide) ?_
    refine ro_istore_n (pc := 12) (lv' := [(2, .int 0), (1, .int 0), (0, .ref (xa X 51))]) dX12_ends_12 rfl (by decide) rfl ?_
    refine ro_lv [2, 1, 0] rfl ?_
    refine ro_lp (pc := 13) (lvs := fun (s : Int32 × Int32) => [(0, .ref (xa X 51)), (1, .int s.1), (2, .int s.2)]) (hs := fun (s : Int32 × Int32) => h) (fun rec1 hrec1 s => ?_) N (0, 0)
    obtain ⟨x2, x3⟩ := s; unfold f_Mod_ends_L13; try dsimp only
    refine ro_iload_n (pc := 13) 2 dX12_ends_13 rfl rfl ?_
    refine ro_bipush (v := 8) (pc := 14) dX12_ends_14 (by decide) ?_
    refine ro_icmp_ge (tgt := 78) (pc := 16) dX12_ends_16 (by decide) (fun _ => ?_) (fun _ => ?_)
    · skip
      refine ro_iload_n (pc := 78) 1 dX12_ends_78 rfl rfl ?_
      exact ro_iret (pc := 79) rfl rfl dX12_ends_79
    · skip
      refine ro_iconst (v := 0) (pc := 19) dX12_ends_19 (by decide) ?_
      refine ro_istore_n (pc := 20) (lv' := [(3, .int 0), (0, .ref (xa X 51)), (1, .int x2), (2, .int x3)]) dX12_ends_20 rfl (by decide) rfl ?_
      refine ro_iconst (v := 0) (pc := 21) dX12_ends_21 (by decide) ?_
      refine ro_istore (pc := 22) (lv' := [(4, .int 0), (3, .int 0), (0, .ref (xa X 51)), (1, .int x2), (2, .int x3)]) dX12_ends_22 (by decide) rfl ?_
      refine ro_jn (pcj := 57) (lvs := fun (s : Int32) => [(0, .ref (xa X 51)), (1, .int x2), (2, .int x3), (3, .int s)]) (hs := fun (s : Int32) => h) (sts := fun (s : Int32) => []) (fun x5 => ?_) (fun k4 hk4 => ?_)
      · try dsimp only
        refine ro_iload_n (pc := 57) 1 dX12_ends_57 rfl rfl ?_
        refine ro_iload_n (pc := 58) 3 dX12_ends_58 rfl rfl ?_
        refine ro_iconst (v := 1) (pc := 59) dX12_ends_59 (by decide) ?_
        refine ro_jn (pcj := 70) (lvs := fun (s : Int32) => [(0, .ref (xa X 51)), (2, .int x3)]) (hs := fun (s : Int32) => h) (sts := fun (s : Int32) => [.int s, .int x2]) (fun x7 => ?_) (fun j6 hj6 => ?_)
        · try dsimp only
          refine ro_ior (pc := 70) dX12_ends_70 ?_
          refine ro_bn (fun x8 => ?_)
          refine ro_istore_n (pc := 71) (lv' := [(1, .int x8), (0, .ref (xa X 51)), (2, .int x3)]) dX12_ends_71 rfl (by decide) rfl ?_
          refine ro_iinc (pc := 72) (v := x3 + 1) (lv' := [(2, .int (x3 + 1)), (1, .int x8), (0, .ref (xa X 51))]) 2 dX12_ends_72 rfl rfl (by decide) rfl ?_
          refine ro_goto (tgt := 13) (pc := 75) dX12_ends_75 (by decide) ?_
          refine ro_lv [2, 1, 0] rfl ?_
          exact hrec1 (x8, x3 + 1)
        · skip
          refine ro_icmp_ne (tgt := 69) (pc := 60) dX12_ends_60 (by decide) (fun _ => ?_) (fun _ => ?_)
          · skip
            refine ro_iconst (v := 0) (pc := 69) dX12_ends_69 (by decide) ?_
            refine ro_lv [0, 2] rfl ?_
            exact hj6 0
          · skip
            refine ro_iconst (v := 1) (pc := 63) dX12_ends_63 (by decide) ?_
            refine ro_iload_n (pc := 64) 2 dX12_ends_64 rfl rfl ?_
            refine ro_ishl (pc := 65) dX12_ends_65 ?_
            refine ro_goto (tgt := 70) (pc := 66) dX12_ends_66 (by decide) ?_
            refine ro_lv [0, 2] rfl ?_
            exact hj6 ((1 : Int32) <<< (x3 &&& 31))
      · skip
        refine ro_lv [2, 3, 4, 1, 0] rfl ?_
        refine ro_lp (pc := 24) (lvs := fun (s : Int32 × Int32) => [(0, .ref (xa X 51)), (1, .int x2), (2, .int x3), (3, .int s.1), (4, .int s.2)]) (hs := fun (s : Int32 × Int32) => h) (fun rec9 hrec9 s => ?_) N (0, 0)
        obtain ⟨x10, x11⟩ := s; unfold f_Mod_ends_L24; try dsimp only
        refine ro_iload (pc := 24) 4 dX12_ends_24 rfl ?_
        refine ro_aload_n (pc := 26) 0 dX12_ends_26 rfl rfl ?_
        refine gf_X12_25 (pc := 27) wd_1347 dX12_ends_27 ?_
        refine ro_icmp_ge (tgt := 57) (pc := 30) dX12_ends_30 (by decide) (fun _ => ?_) (fun _ => ?_)
        · skip
          refine ro_lv [0, 1, 2, 3] rfl ?_
          exact hk4 x10
        · skip
          refine ro_iload_n (pc := 33) 3 dX12_ends_33 rfl rfl ?_
          refine ro_aload_n (pc := 34) 0 dX12_ends_34 rfl rfl ?_
          refine ro_iload (pc := 35) 4 dX12_ends_35 rfl ?_
          refine ro_iload_n (pc := 37) 2 dX12_ends_37 rfl rfl ?_
          refine ro_cvP (pc := 38) (kc := 2) (avs := [.int x11, .int x3]) (st := [.int x10]) ok_Mod_isAt wd_1721 cl_51 cv_51 rfl ⟨by decide, by decide⟩ ⟨Nat.zero_le _, Nat.zero_le _⟩ (c_Mod_isAt X N h x11 x3) rfl rfl (Nat.le_of_ble_eq_true rfl) dX12_ends_38 (fun x12 => ?_)
          refine ro_jn (pcj := 49) (lvs := fun (s : Int32) => [(0, .ref (xa X 51)), (1, .int x2), (2, .int x3), (4, .int x11)]) (hs := fun (s : Int32) => h) (sts := fun (s : Int32) => [.int s, .int x10]) (fun x14 => ?_) (fun j13 hj13 => ?_)
          · try dsimp only
            refine ro_iadd (pc := 49) dX12_ends_49 ?_
            refine ro_bn (fun x15 => ?_)
            refine ro_istore_n (pc := 50) (lv' := [(3, .int x15), (0, .ref (xa X 51)), (1, .int x2), (2, .int x3), (4, .int x11)]) dX12_ends_50 rfl (by decide) rfl ?_
            refine ro_iinc (pc := 51) (v := x11 + 1) (lv' := [(4, .int (x11 + 1)), (3, .int x15), (0, .ref (xa X 51)), (1, .int x2), (2, .int x3)]) 4 dX12_ends_51 rfl rfl (by decide) rfl ?_
            refine ro_goto (tgt := 24) (pc := 54) dX12_ends_54 (by decide) ?_
            refine ro_lv [2, 3, 4, 1, 0] rfl ?_
            exact hrec9 (x15, x11 + 1)
          · skip
            refine ro_if_eq (tgt := 48) (pc := 41) dX12_ends_41 (by decide) (fun _ => ?_) (fun _ => ?_)
            · skip
              refine ro_iconst (v := 0) (pc := 48) dX12_ends_48 (by decide) ?_
              refine ro_lv [0, 1, 2, 4] rfl ?_
              exact hj13 0
            · skip
              refine ro_iconst (v := 1) (pc := 44) dX12_ends_44 (by decide) ?_
              refine ro_goto (tgt := 49) (pc := 45) dX12_ends_45 (by decide) ?_
              refine ro_lv [0, 1, 2, 4] rfl ?_
              exact hj13 1
  · skip
    refine ro_iconst (v := (-1)) (pc := 7) dX12_ends_7 (by decide) ?_
    exact ro_iret (pc := 8) rfl rfl dX12_ends_8
theorem c_Mod_ends (X : mu_X) (N : Nat) (h : mu_H) : ∀ r, f_Mod_ends N h = some r → mI X m_Mod_ends 3 [.ref (xa X 51)] h r h := fun r hr => mI_of (by decide) rfl (Nat.le_of_ble_eq_true rfl) rfl (cb_Mod_ends X N h r hr)
set_option maxRecDepth 20000 in
theorem cb_Mod_worn (X : mu_X) (N : Nat) (h : mu_H) : aG X m_Mod_worn (rmk 1) (fun _ => ax X) (fun _ _ _ => True) 0 0 (fun r : Int32 => qI X r h) (f_Mod_worn N h) 0 [(0, .ref (xa X 51))] [] h := by
  unfold f_Mod_worn
  refine ro_iconst (v := 0) (pc := 0) dX12_worn_0 (by decide) ?_
  refine ro_istore_n (pc := 1) (lv' := [(1, .int 0), (0, .ref (xa X 51))]) dX12_worn_1 rfl (by decide) rfl ?_
  refine ro_lv [1, 0] rfl ?_
  refine ro_lp (pc := 2) (lvs := fun (s : Int32) => [(0, .ref (xa X 51)), (1, .int s)]) (hs := fun (s : Int32) => h) (fun rec1 hrec1 x2 => ?_) N 0
  unfold f_Mod_worn_L2; try dsimp only
  refine ro_iload_n (pc := 2) 1 dX12_worn_2 rfl rfl ?_
  refine ro_aload_n (pc := 3) 0 dX12_worn_3 rfl rfl ?_
  refine gf_X12_25 (pc := 4) wd_1347 dX12_worn_4 ?_
  refine ro_icmp_ge (tgt := 31) (pc := 7) dX12_worn_7 (by decide) (fun _ => ?_) (fun _ => ?_)
  · skip
    refine ro_iconst (v := (-1)) (pc := 31) dX12_worn_31 (by decide) ?_
    exact ro_iret (pc := 32) rfl rfl dX12_worn_32
  · skip
    refine ro_aload_n (pc := 10) 0 dX12_worn_10 rfl rfl ?_
    refine gf_X12_27 (pc := 11) wd_1349 dX12_worn_11 ?_
    refine ro_iconst (v := 0) (pc := 14) dX12_worn_14 (by decide) ?_
    refine ro_iload_n (pc := 15) 1 dX12_worn_15 rfl rfl ?_
    refine ro_iadd (pc := 16) dX12_worn_16 ?_
    refine ro_iald (pc := 17) (n := 214) cl_68 cv_68 dX12_worn_17 ?_
    refine ro_bipush (v := 99) (pc := 18) dX12_worn_18 (by decide) ?_
    refine ro_icmp_ne (tgt := 25) (pc := 20) dX12_worn_20 (by decide) (fun _ => ?_) (fun _ => ?_)
    · skip
      refine ro_iinc (pc := 25) (v := x2 + 1) (lv' := [(1, .int (x2 + 1)), (0, .ref (xa X 51))]) 1 dX12_worn_25 rfl rfl (by decide) rfl ?_
      refine ro_goto (tgt := 2) (pc := 28) dX12_worn_28 (by decide) ?_
      refine ro_lv [1, 0] rfl ?_
      exact hrec1 (x2 + 1)
    · skip
      refine ro_iload_n (pc := 23) 1 dX12_worn_23 rfl rfl ?_
      exact ro_iret (pc := 24) rfl rfl dX12_worn_24
theorem c_Mod_worn (X : mu_X) (N : Nat) (h : mu_H) : ∀ r, f_Mod_worn N h = some r → mI X m_Mod_worn 1 [.ref (xa X 51)] h r h := fun r hr => mI_of (by decide) rfl (Nat.le_of_ble_eq_true rfl) rfl (cb_Mod_worn X N h r hr)
set_option maxRecDepth 20000 in
theorem cb_Mod_wearOn (X : mu_X) (N : Nat) (h : mu_H) (a1 : Int32) : aG X m_Mod_wearOn (rmk 2) (fun _ => ax X) (fun _ _ _ => True) 0 0 (fun r : mu_H => qV X r) (f_Mod_wearOn N h a1) 0 [(0, .ref (xa X 51)), (1, .int a1)] [] h := by
  unfold f_Mod_wearOn
  refine ro_iconst (v := 0) (pc := 0) dX12_wearOn_0 (by decide) ?_
  refine ro_istore_n (pc := 1) (lv' := [(2, .int 0), (0, .ref (xa X 51)), (1, .int a1)]) dX12_wearOn_1 rfl (by decide) rfl ?_
  refine ro_lv [1, 2, 0] rfl ?_
  refine ro_lp (pc := 2) (lvs := fun (s : Int32 × mu_H) => [(0, .ref (xa X 51)), (1, .int a1), (2, .int s.1)]) (hs := fun (s : Int32 × mu_H) => s.2) (fun rec1 hrec1 s => ?_) N (0, h)
  obtain ⟨x2, h3⟩ := s; unfold f_Mod_wearOn_L2; try dsimp only
  refine ro_iload_n (pc := 2) 2 dX12_wearOn_2 rfl rfl ?_
  refine ro_aload_n (pc := 3) 0 dX12_wearOn_3 rfl rfl ?_
  refine gf_X12_25 (pc := 4) wd_1347 dX12_wearOn_4 ?_
  refine ro_icmp_ge (tgt := 75) (pc := 7) dX12_wearOn_7 (by decide) (fun _ => ?_) (fun _ => ?_)
  · skip
    exact ro_vret (pc := 75) rfl rfl dX12_wearOn_75
  · skip
    refine ro_aload_n (pc := 10) 0 dX12_wearOn_10 rfl rfl ?_
    refine ro_iload_n (pc := 11) 2 dX12_wearOn_11 rfl rfl ?_
    refine ro_iconst (v := 4) (pc := 12) dX12_wearOn_12 (by decide) ?_
    refine ro_cvP (pc := 13) (kc := 1) (avs := [.int x2, .int 4]) (st := []) ok_Mod_of wd_1608 cl_51 cv_51 rfl ⟨by decide, by decide⟩ ⟨Nat.zero_le _, Nat.zero_le _⟩ (c_Mod_of X N h3 x2 4) rfl rfl (Nat.le_of_ble_eq_true rfl) dX12_wearOn_13 (fun x4 => ?_)
    refine ro_aload_n (pc := 16) 0 dX12_wearOn_16 rfl rfl ?_
    refine ro_iload_n (pc := 17) 1 dX12_wearOn_17 rfl rfl ?_
    refine ro_cvP (pc := 18) (kc := 1) (avs := [.int a1]) (st := [.int x4]) ok_Mod_isWinter wd_1693 cl_51 cv_51 rfl ⟨by decide, by decide⟩ ⟨Nat.zero_le _, Nat.zero_le _⟩ (c_Mod_isWinter X N h3 a1) rfl rfl (Nat.le_of_ble_eq_true rfl) dX12_wearOn_18 (fun x5 => ?_)
    refine ro_jn (pcj := 44) (lvs := fun (s : Int32) => [(0, .ref (xa X 51)), (1, .int a1), (2, .int x2)]) (hs := fun (s : Int32) => h3) (sts := fun (s : Int32) => [.int s, .int x4]) (fun x7 => ?_) (fun j6 hj6 => ?_)
    · try dsimp only
      refine ro_iadd (pc := 44) dX12_wearOn_44 ?_
      refine ro_bn (fun x8 => ?_)
      refine ro_istore_n (pc := 45) (lv' := [(3, .int x8), (0, .ref (xa X 51)), (1, .int a1), (2, .int x2)]) dX12_wearOn_45 rfl (by decide) rfl ?_
      refine ro_aload_n (pc := 46) 1 dX12_wearOn_46 rfl rfl ?_
      refine gf_X12_27 (pc := 47) wd_1349 dX12_wearOn_47 ?_
      refine ro_iconst (v := 0) (pc := 50) dX12_wearOn_50 (by decide) ?_
      refine ro_iload_n (pc := 51) 3 dX12_wearOn_51 rfl rfl ?_
      refine ro_iadd (pc := 52) dX12_wearOn_52 ?_
      refine ro_bipush (v := 99) (pc := 53) dX12_wearOn_53 (by decide) ?_
      refine ro_aload_n (pc := 55) 1 dX12_wearOn_55 rfl rfl ?_
      refine gf_X12_27 (pc := 56) wd_1349 dX12_wearOn_56 ?_
      refine ro_iconst (v := 0) (pc := 59) dX12_wearOn_59 (by decide) ?_
      refine ro_iload_n (pc := 60) 3 dX12_wearOn_60 rfl rfl ?_
      refine ro_iadd (pc := 61) dX12_wearOn_61 ?_
      refine ro_iald (pc := 62) (n := 214) cl_68 cv_68 dX12_wearOn_62 ?_
      refine ro_iload_n (pc := 63) 0 dX12_wearOn_63 rfl rfl ?_
      refine ro_iadd (pc := 64) dX12_wearOn_64 ?_
      refine ro_mmin (pc := 65) (st := [.int (0 + x2), .ref (xa X 68)]) wd_1617 (by decide) (Nat.le_of_ble_eq_true rfl) ⟨Nat.zero_le _, Nat.zero_le _⟩ dX12_wearOn_65 ?_
      refine ro_iast (pc := 68) (n := 214) cl_68 cv_68 dX12_wearOn_68 ?_
      refine ro_bnh (fun h9 => ?_)
      refine ro_iinc (pc := 69) (v := x2 + 1) (lv' := [(2, .int (x2 + 1)), (3, .int x8), (0, .ref (xa X 51)), (1, .int a1)]) 3 dX12_wearOn_69 rfl rfl (by decide) rfl ?_
      refine ro_goto (tgt := 2) (pc := 72) dX12_wearOn_72 (by decide) ?_
      refine ro_lv [2, 3, 0] rfl ?_
      exact hrec1 (x2 + 1, h9)
    · skip
      refine ro_if_eq (tgt := 43) (pc := 21) dX12_wearOn_21 (by decide) (fun _ => ?_) (fun _ => ?_)
      · skip
        refine ro_iconst (v := 0) (pc := 43) dX12_wearOn_43 (by decide) ?_
        exact hj6 0
      · skip
        refine ro_aload_n (pc := 24) 0 dX12_wearOn_24 rfl rfl ?_
        refine gf_X12_22 (pc := 25) wd_1344 dX12_wearOn_25 ?_
        refine ro_iconst (v := 1) (pc := 28) dX12_wearOn_28 (by decide) ?_
        refine ro_iald (pc := 29) (n := 3) cl_65 cv_65 dX12_wearOn_29 ?_
        refine ro_aload_n (pc := 30) 0 dX12_wearOn_30 rfl rfl ?_
        refine gf_X12_27 (pc := 31) wd_1349 dX12_wearOn_31 ?_
        refine ro_bipush (v := 9) (pc := 34) dX12_wearOn_34 (by decide) ?_
        refine ro_iload_n (pc := 36) 2 dX12_wearOn_36 rfl rfl ?_
        refine ro_iadd (pc := 37) dX12_wearOn_37 ?_
        refine ro_iald (pc := 38) (n := 214) cl_68 cv_68 dX12_wearOn_38 ?_
        refine ro_iadd (pc := 39) dX12_wearOn_39 ?_
        refine ro_goto (tgt := 44) (pc := 40) dX12_wearOn_40 (by decide) ?_
        exact hj6 ((h3.1 65 (1 : Int32).toNatClampNeg) + (h3.1 68 (9 + x2).toNatClampNeg))
theorem c_Mod_wearOn (X : mu_X) (N : Nat) (h : mu_H) (a1 : Int32) : ∀ r, f_Mod_wearOn N h a1 = some r → mV X m_Mod_wearOn 2 [.ref (xa X 51), .int a1] h r := fun r hr => mV_of (by decide) rfl (Nat.le_of_ble_eq_true rfl) rfl (cb_Mod_wearOn X N h a1 r hr)
set_option maxRecDepth 20000 in
theorem cb_Mod_fails (X : mu_X) (N : Nat) (h : mu_H) (a1 : Int32) : aG X m_Mod_fails (rmk 3) (fun _ => ax X) (fun _ _ _ => True) 0 0 (fun r : Int32 × mu_H => qI X r.1 r.2) (f_Mod_fails N h a1) 0 [(0, .ref (xa X 51)), (1, .int a1)] [] h := by
  unfold f_Mod_fails
  refine ro_aload_n (pc := 0) 0 dX12_fails_0 rfl rfl ?_
  refine gf_X12_25 (pc := 1) wd_1347 dX12_fails_1 ?_
  refine ro_if_eq (tgt := 16) (pc := 4) dX12_fails_4 (by decide) (fun _ => ?_) (fun _ => ?_)
  · skip
    refine ro_iconst (v := (-1)) (pc := 16) dX12_fails_16 (by decide) ?_
    exact ro_iret (pc := 17) rfl rfl dX12_fails_17
  · skip
    refine ro_iload_n (pc := 7) 1 dX12_fails_7 rfl rfl ?_
    refine ro_iconst (v := 0) (pc := 8) dX12_fails_8 (by decide) ?_
    refine ro_iconst (v := 1) (pc := 9) dX12_fails_9 (by decide) ?_
    refine ro_csP (pc := 10) (kc := 1) (avs := [.int a1, .int 0, .int 1]) (st := []) ok_Mod_in wd_1523 ⟨by decide, by decide⟩ ⟨Nat.zero_le _, Nat.zero_le _⟩ (c_Mod_in X N h a1 0 1) rfl rfl (Nat.le_of_ble_eq_true rfl) dX12_fails_10 (fun x1 => ?_)
    refine ro_if_ne (tgt := 18) (pc := 13) dX12_fails_13 (by decide) (fun _ => ?_) (fun _ => ?_)
    · skip
      refine ro_iconst (v := 0) (pc := 18) dX12_fails_18 (by decide) ?_
      refine ro_istore_n (pc := 19) (lv' := [(2, .int 0), (0, .ref (xa X 51)), (1, .int a1)]) dX12_fails_19 rfl (by decide) rfl ?_
      refine ro_jn (pcj := 48) (lvs := fun (s : mu_H) => [(0, .ref (xa X 51)), (1, .int a1)]) (hs := fun (s : mu_H) => s) (sts := fun (s : mu_H) => []) (fun h3 => ?_) (fun k2 hk2 => ?_)
      · try dsimp only
        refine ro_iconst (v := 0) (pc := 48) dX12_fails_48 (by decide) ?_
        refine ro_istore_n (pc := 49) (lv' := [(2, .int 0), (0, .ref (xa X 51)), (1, .int a1)]) dX12_fails_49 rfl (by decide) rfl ?_
        refine ro_jn (pcj := 84) (lvs := fun (s : Int32 × mu_H) => [(0, .ref (xa X 51)), (1, .int a1), (2, .int s.1)]) (hs := fun (s : Int32 × mu_H) => s.2) (sts := fun (s : Int32 × mu_H) => []) (fun s => ?_) (fun k4 hk4 => ?_)
        · obtain ⟨x5, h6⟩ := s; try dsimp only
          refine ro_aload_n (pc := 84) 0 dX12_fails_84 rfl rfl ?_
          refine ro_cvP (pc := 85) (kc := 1) (avs := []) (st := []) ok_Mod_worn wd_1882 cl_51 cv_51 rfl ⟨by decide, by decide⟩ ⟨Nat.zero_le _, Nat.zero_le _⟩ (c_Mod_worn X N h6) rfl rfl (Nat.le_of_ble_eq_true rfl) dX12_fails_85 (fun x7 => ?_)
          refine ro_istore_n (pc := 88) (lv' := [(3, .int x7), (0, .ref (xa X 51)), (1, .int a1), (2, .int x5)]) dX12_fails_88 rfl (by decide) rfl ?_
          refine ro_iconst (v := 0) (pc := 89) dX12_fails_89 (by decide) ?_
          refine ro_istore (pc := 90) (lv' := [(4, .int 0), (3, .int x7), (0, .ref (xa X 51)), (1, .int a1), (2, .int x5)]) dX12_fails_90 (by decide) rfl ?_
          refine ro_jn (pcj := 123) (lvs := fun (s : mu_H) => [(1, .int a1), (2, .int x5), (3, .int x7)]) (hs := fun (s : mu_H) => s) (sts := fun (s : mu_H) => []) (fun h9 => ?_) (fun k8 hk8 => ?_)
          · try dsimp only
            refine ro_iload_n (pc := 123) 2 dX12_fails_123 rfl rfl ?_
            refine ro_iconst (v := (-1)) (pc := 124) dX12_fails_124 (by decide) ?_
            refine ro_icmp_eq (tgt := 132) (pc := 125) dX12_fails_125 (by decide) (fun _ => ?_) (fun _ => ?_)
            · skip
              refine ro_iload_n (pc := 132) 2 dX12_fails_132 rfl rfl ?_
              refine ro_goto (tgt := 137) (pc := 133) dX12_fails_133 (by decide) ?_
              exact ro_iret (pc := 137) rfl rfl dX12_fails_137
            · skip
              refine ro_iload_n (pc := 128) 0 dX12_fails_128 rfl rfl ?_
              refine ro_if_ne (tgt := 136) (pc := 129) dX12_fails_129 (by decide) (fun _ => ?_) (fun _ => ?_)
              · skip
                refine ro_iload_n (pc := 136) 1 dX12_fails_136 rfl rfl ?_
                exact ro_iret (pc := 137) rfl rfl dX12_fails_137
              · skip
                refine ro_iload_n (pc := 132) 2 dX12_fails_132 rfl rfl ?_
                refine ro_goto (tgt := 137) (pc := 133) dX12_fails_133 (by decide) ?_
                exact ro_iret (pc := 137) rfl rfl dX12_fails_137
          · skip
            refine ro_lv [2, 3, 4, 1, 0] rfl ?_
            refine ro_lp (pc := 92) (lvs := fun (s : Int32 × mu_H) => [(0, .ref (xa X 51)), (1, .int a1), (2, .int x5), (3, .int x7), (4, .int s.1)]) (hs := fun (s : Int32 × mu_H) => s.2) (fun rec10 hrec10 s => ?_) N (0, h6)
            obtain ⟨x11, h12⟩ := s; unfold f_Mod_fails_L92; try dsimp only
            refine ro_iload (pc := 92) 4 dX12_fails_92 rfl ?_
            refine ro_aload_n (pc := 94) 0 dX12_fails_94 rfl rfl ?_
            refine gf_X12_25 (pc := 95) wd_1347 dX12_fails_95 ?_
            refine ro_icmp_ge (tgt := 123) (pc := 98) dX12_fails_98 (by decide) (fun _ => ?_) (fun _ => ?_)
            · skip
              refine ro_lv [1, 2, 3] rfl ?_
              exact hk8 h12
            · skip
              refine ro_aload_n (pc := 101) 0 dX12_fails_101 rfl rfl ?_
              refine gf_X12_27 (pc := 102) wd_1349 dX12_fails_102 ?_
              refine ro_iconst (v := 0) (pc := 105) dX12_fails_105 (by decide) ?_
              refine ro_iload (pc := 106) 4 dX12_fails_106 rfl ?_
              refine ro_iadd (pc := 108) dX12_fails_108 ?_
              refine ro_aload_n (pc := 109) 0 dX12_fails_109 rfl rfl ?_
              refine gf_X12_41 (pc := 110) wd_1363 dX12_fails_110 ?_
              refine ro_iload (pc := 113) 4 dX12_fails_113 rfl ?_
              refine ro_iald (pc := 115) (n := 9) cl_75 cv_75 dX12_fails_115 ?_
              refine ro_iast (pc := 116) (n := 214) cl_68 cv_68 dX12_fails_116 ?_
              refine ro_bnh (fun h13 => ?_)
              refine ro_iinc (pc := 117) (v := x11 + 1) (lv' := [(4, .int (x11 + 1)), (0, .ref (xa X 51)), (1, .int a1), (2, .int x5), (3, .int x7)]) 4 dX12_fails_117 rfl rfl (by decide) rfl ?_
              refine ro_goto (tgt := 92) (pc := 120) dX12_fails_120 (by decide) ?_
              refine ro_lv [1, 2, 3, 4, 0] rfl ?_
              exact hrec10 (x11 + 1, h13)
        · skip
          refine ro_lv [1, 2, 0] rfl ?_
          refine ro_lp (pc := 50) (lvs := fun (s : Int32 × mu_H) => [(0, .ref (xa X 51)), (1, .int a1), (2, .int s.1)]) (hs := fun (s : Int32 × mu_H) => s.2) (fun rec14 hrec14 s => ?_) N (0, h3)
          obtain ⟨x15, h16⟩ := s; unfold f_Mod_fails_L50; try dsimp only
          refine ro_iload_n (pc := 50) 2 dX12_fails_50 rfl rfl ?_
          refine ro_sipush (v := 200) (pc := 51) dX12_fails_51 (by decide) ?_
          refine ro_icmp_ge (tgt := 84) (pc := 54) dX12_fails_54 (by decide) (fun _ => ?_) (fun _ => ?_)
          · skip
            exact hk4 (x15, h16)
          · skip
            refine ro_aload_n (pc := 57) 0 dX12_fails_57 rfl rfl ?_
            refine ro_cvP (pc := 58) (kc := 1) (avs := []) (st := []) ok_Mod_worn wd_1882 cl_51 cv_51 rfl ⟨by decide, by decide⟩ ⟨Nat.zero_le _, Nat.zero_le _⟩ (c_Mod_worn X N h16) rfl rfl (Nat.le_of_ble_eq_true rfl) dX12_fails_58 (fun x17 => ?_)
            refine ro_iconst (v := (-1)) (pc := 61) dX12_fails_61 (by decide) ?_
            refine ro_icmp_ne (tgt := 84) (pc := 62) dX12_fails_62 (by decide) (fun _ => ?_) (fun _ => ?_)
            · skip
              exact hk4 (x15, h16)
            · skip
              refine ro_aload_n (pc := 65) 0 dX12_fails_65 rfl rfl ?_
              refine ro_aload_n (pc := 66) 0 dX12_fails_66 rfl rfl ?_
              refine gf_X12_27 (pc := 67) wd_1349 dX12_fails_67 ?_
              refine ro_bipush (v := 32) (pc := 70) dX12_fails_70 (by decide) ?_
              refine ro_iald (pc := 72) (n := 214) cl_68 cv_68 dX12_fails_72 ?_
              refine ro_iload_n (pc := 73) 2 dX12_fails_73 rfl rfl ?_
              refine ro_iadd (pc := 74) dX12_fails_74 ?_
              refine ro_cvV (pc := 75) (kc := 2) (avs := [.int ((h16.1 68 (32 : Int32).toNatClampNeg) + x15)]) (st := []) ok_Mod_wearOn wd_1737 cl_51 cv_51 rfl ⟨by decide, by decide⟩ ⟨Nat.zero_le _, Nat.zero_le _⟩ (c_Mod_wearOn X N h16 ((h16.1 68 (32 : Int32).toNatClampNeg) + x15)) rfl rfl (Nat.le_of_ble_eq_true rfl) dX12_fails_75 (fun h18 => ?_)
              refine ro_iinc (pc := 78) (v := x15 + 1) (lv' := [(2, .int (x15 + 1)), (0, .ref (xa X 51)), (1, .int a1)]) 2 dX12_fails_78 rfl rfl (by decide) rfl ?_
              refine ro_goto (tgt := 50) (pc := 81) dX12_fails_81 (by decide) ?_
              refine ro_lv [1, 2, 0] rfl ?_
              exact hrec14 (x15 + 1, h18)
      · skip
        refine ro_lv [1, 2, 0] rfl ?_
        refine ro_lp (pc := 20) (lvs := fun (s : Int32 × mu_H) => [(0, .ref (xa X 51)), (1, .int a1), (2, .int s.1)]) (hs := fun (s : Int32 × mu_H) => s.2) (fun rec19 hrec19 s => ?_) N (0, h)
        obtain ⟨x20, h21⟩ := s; unfold f_Mod_fails_L20; try dsimp only
        refine ro_iload_n (pc := 20) 2 dX12_fails_20 rfl rfl ?_
        refine ro_aload_n (pc := 21) 0 dX12_fails_21 rfl rfl ?_
        refine gf_X12_25 (pc := 22) wd_1347 dX12_fails_22 ?_
        refine ro_icmp_ge (tgt := 48) (pc := 25) dX12_fails_25 (by decide) (fun _ => ?_) (fun _ => ?_)
        · skip
          refine ro_lv [0, 1] rfl ?_
          exact hk2 h21
        · skip
          refine ro_aload_n (pc := 28) 0 dX12_fails_28 rfl rfl ?_
          refine gf_X12_41 (pc := 29) wd_1363 dX12_fails_29 ?_
          refine ro_iload_n (pc := 32) 2 dX12_fails_32 rfl rfl ?_
          refine ro_aload_n (pc := 33) 0 dX12_fails_33 rfl rfl ?_
          refine gf_X12_27 (pc := 34) wd_1349 dX12_fails_34 ?_
          refine ro_iconst (v := 0) (pc := 37) dX12_fails_37 (by decide) ?_
          refine ro_iload_n (pc := 38) 2 dX12_fails_38 rfl rfl ?_
          refine ro_iadd (pc := 39) dX12_fails_39 ?_
          refine ro_iald (pc := 40) (n := 214) cl_68 cv_68 dX12_fails_40 ?_
          refine ro_iast (pc := 41) (n := 9) cl_75 cv_75 dX12_fails_41 ?_
          refine ro_bnh (fun h22 => ?_)
          refine ro_iinc (pc := 42) (v := x20 + 1) (lv' := [(2, .int (x20 + 1)), (0, .ref (xa X 51)), (1, .int a1)]) 2 dX12_fails_42 rfl rfl (by decide) rfl ?_
          refine ro_goto (tgt := 20) (pc := 45) dX12_fails_45 (by decide) ?_
          refine ro_lv [1, 2, 0] rfl ?_
          exact hrec19 (x20 + 1, h22)
    · skip
      refine ro_iconst (v := (-1)) (pc := 16) dX12_fails_16 (by decide) ?_
      exact ro_iret (pc := 17) rfl rfl dX12_fails_17
theorem c_Mod_fails (X : mu_X) (N : Nat) (h : mu_H) (a1 : Int32) : ∀ r, f_Mod_fails N h a1 = some r → mI X m_Mod_fails 3 [.ref (xa X 51), .int a1] h r.1 r.2 := fun r hr => mI_of (by decide) rfl (Nat.le_of_ble_eq_true rfl) rfl (cb_Mod_fails X N h a1 r hr)
set_option maxRecDepth 20000 in
theorem cb_Mod_usual (X : mu_X) (N : Nat) (h : mu_H) (a0 : Int32) (a1 : Int32) : aG X m_Mod_usual (rmk 1) (fun _ => ax X) (fun _ _ _ => True) 0 0 (fun r : Int32 => qI X r h) (f_Mod_usual N h a0 a1) 0 [(0, .int a0), (1, .int a1)] [] h := by
  unfold f_Mod_usual
  refine ro_iload_n (pc := 0) 0 dX12_usual_0 rfl rfl ?_
  refine ro_lsk (key := 114) (off := 47) (tgt := 48) (pc := 1) dX12_usual_1 (by decide) (by decide) (by decide) (fun _ => ?_) (fun c1_114 => ?_)
  · skip
    refine ro_iload_n (pc := 48) 1 dX12_usual_48 rfl rfl ?_
    refine ro_if_ne (tgt := 56) (pc := 49) dX12_usual_49 (by decide) (fun _ => ?_) (fun _ => ?_)
    · skip
      refine ro_iload_n (pc := 56) 1 dX12_usual_56 rfl rfl ?_
      refine ro_iconst (v := 1) (pc := 57) dX12_usual_57 (by decide) ?_
      refine ro_icmp_ne (tgt := 65) (pc := 58) dX12_usual_58 (by decide) (fun _ => ?_) (fun _ => ?_)
      · skip
        refine ro_iload_n (pc := 65) 1 dX12_usual_65 rfl rfl ?_
        refine ro_iconst (v := 2) (pc := 66) dX12_usual_66 (by decide) ?_
        refine ro_icmp_ne (tgt := 75) (pc := 67) dX12_usual_67 (by decide) (fun _ => ?_) (fun _ => ?_)
        · skip
          refine ro_iload_n (pc := 75) 1 dX12_usual_75 rfl rfl ?_
          refine ro_iconst (v := 3) (pc := 76) dX12_usual_76 (by decide) ?_
          refine ro_icmp_ne (tgt := 84) (pc := 77) dX12_usual_77 (by decide) (fun _ => ?_) (fun _ => ?_)
          · skip
            refine ro_iconst (v := 3) (pc := 84) dX12_usual_84 (by decide) ?_
            exact ro_iret (pc := 85) rfl rfl dX12_usual_85
          · skip
            refine ro_iconst (v := 2) (pc := 80) dX12_usual_80 (by decide) ?_
            refine ro_goto (tgt := 85) (pc := 81) dX12_usual_81 (by decide) ?_
            exact ro_iret (pc := 85) rfl rfl dX12_usual_85
        · skip
          refine ro_bipush (v := 20) (pc := 70) dX12_usual_70 (by decide) ?_
          refine ro_goto (tgt := 85) (pc := 72) dX12_usual_72 (by decide) ?_
          exact ro_iret (pc := 85) rfl rfl dX12_usual_85
      · skip
        refine ro_iconst (v := 1) (pc := 61) dX12_usual_61 (by decide) ?_
        refine ro_goto (tgt := 85) (pc := 62) dX12_usual_62 (by decide) ?_
        exact ro_iret (pc := 85) rfl rfl dX12_usual_85
    · skip
      refine ro_iconst (v := 0) (pc := 52) dX12_usual_52 (by decide) ?_
      refine ro_goto (tgt := 85) (pc := 53) dX12_usual_53 (by decide) ?_
      exact ro_iret (pc := 85) rfl rfl dX12_usual_85
  refine ro_lsk (key := 115) (off := 27) (tgt := 28) (pc := 1) dX12_usual_1 (by decide) (by decide) (by decide) (fun _ => ?_) (fun c1_115 => ?_)
  · skip
    refine ro_iload_n (pc := 28) 1 dX12_usual_28 rfl rfl ?_
    refine ro_if_ne (tgt := 37) (pc := 29) dX12_usual_29 (by decide) (fun _ => ?_) (fun _ => ?_)
    · skip
      refine ro_iload_n (pc := 37) 1 dX12_usual_37 rfl rfl ?_
      refine ro_iconst (v := 1) (pc := 38) dX12_usual_38 (by decide) ?_
      refine ro_icmp_ne (tgt := 46) (pc := 39) dX12_usual_39 (by decide) (fun _ => ?_) (fun _ => ?_)
      · skip
        refine ro_iconst (v := 3) (pc := 46) dX12_usual_46 (by decide) ?_
        exact ro_iret (pc := 47) rfl rfl dX12_usual_47
      · skip
        refine ro_iconst (v := 2) (pc := 42) dX12_usual_42 (by decide) ?_
        refine ro_goto (tgt := 47) (pc := 43) dX12_usual_43 (by decide) ?_
        exact ro_iret (pc := 47) rfl rfl dX12_usual_47
    · skip
      refine ro_bipush (v := 6) (pc := 32) dX12_usual_32 (by decide) ?_
      refine ro_goto (tgt := 47) (pc := 34) dX12_usual_34 (by decide) ?_
      exact ro_iret (pc := 47) rfl rfl dX12_usual_47
  refine ro_lsd (tgt := 86) (pc := 1) dX12_usual_1 (by decide) (by have a114 := ne_int c1_114 (k := 114) (z := 114) (by decide); have a115 := ne_int c1_115 (k := 115) (z := 115) (by decide); show Op.lookupswitch.offset [(114, 47), (115, 27)] 85 _ = 85; rw [Op.lookupswitch.offset_cons, if_neg (Ne.symm a114), Op.lookupswitch.offset_cons, if_neg (Ne.symm a115), Op.lookupswitch.offset_nil]) (by decide) ?_
  refine ro_iload_n (pc := 86) 1 dX12_usual_86 rfl rfl ?_
  refine ro_if_ne (tgt := 94) (pc := 87) dX12_usual_87 (by decide) (fun _ => ?_) (fun _ => ?_)
  · skip
    refine ro_iload_n (pc := 94) 1 dX12_usual_94 rfl rfl ?_
    refine ro_iconst (v := 1) (pc := 95) dX12_usual_95 (by decide) ?_
    refine ro_icmp_ne (tgt := 103) (pc := 96) dX12_usual_96 (by decide) (fun _ => ?_) (fun _ => ?_)
    · skip
      refine ro_iconst (v := 5) (pc := 103) dX12_usual_103 (by decide) ?_
      exact ro_iret (pc := 104) rfl rfl dX12_usual_104
    · skip
      refine ro_iconst (v := 3) (pc := 99) dX12_usual_99 (by decide) ?_
      refine ro_goto (tgt := 104) (pc := 100) dX12_usual_100 (by decide) ?_
      exact ro_iret (pc := 104) rfl rfl dX12_usual_104
  · skip
    refine ro_iconst (v := 0) (pc := 90) dX12_usual_90 (by decide) ?_
    refine ro_goto (tgt := 104) (pc := 91) dX12_usual_91 (by decide) ?_
    exact ro_iret (pc := 104) rfl rfl dX12_usual_104
theorem c_Mod_usual (X : mu_X) (N : Nat) (h : mu_H) (a0 : Int32) (a1 : Int32) : ∀ r, f_Mod_usual N h a0 a1 = some r → mI X m_Mod_usual 1 [.int a0, .int a1] h r h := fun r hr => mI_of (by decide) rfl (Nat.le_of_ble_eq_true rfl) rfl (cb_Mod_usual X N h a0 a1 r hr)
set_option maxRecDepth 20000 in
theorem cb_Mod_itemOf (X : mu_X) (N : Nat) (h : mu_H) (a0 : Int32) (a1 : Int32) : aG X m_Mod_itemOf (rmk 1) (fun _ => ax X) (fun _ _ _ => True) 0 0 (fun r : Int32 => qI X r h) (f_Mod_itemOf N h a0 a1) 0 [(0, .int a0), (1, .int a1)] [] h := by
  unfold f_Mod_itemOf
  refine ro_iload_n (pc := 0) 0 dX12_itemOf_0 rfl rfl ?_
  refine ro_lsk (key := 114) (off := 59) (tgt := 60) (pc := 1) dX12_itemOf_1 (by decide) (by decide) (by decide) (fun _ => ?_) (fun c1_114 => ?_)
  · skip
    refine ro_iload_n (pc := 60) 1 dX12_itemOf_60 rfl rfl ?_
    refine ro_bipush (v := 97) (pc := 61) dX12_itemOf_61 (by decide) ?_
    refine ro_icmp_ne (tgt := 70) (pc := 63) dX12_itemOf_63 (by decide) (fun _ => ?_) (fun _ => ?_)
    · skip
      refine ro_iload_n (pc := 70) 1 dX12_itemOf_70 rfl rfl ?_
      refine ro_bipush (v := 98) (pc := 71) dX12_itemOf_71 (by decide) ?_
      refine ro_icmp_ne (tgt := 80) (pc := 73) dX12_itemOf_73 (by decide) (fun _ => ?_) (fun _ => ?_)
      · skip
        refine ro_iload_n (pc := 80) 1 dX12_itemOf_80 rfl rfl ?_
        refine ro_bipush (v := 119) (pc := 81) dX12_itemOf_81 (by decide) ?_
        refine ro_icmp_ne (tgt := 90) (pc := 83) dX12_itemOf_83 (by decide) (fun _ => ?_) (fun _ => ?_)
        · skip
          refine ro_iload_n (pc := 90) 1 dX12_itemOf_90 rfl rfl ?_
          refine ro_bipush (v := 101) (pc := 91) dX12_itemOf_91 (by decide) ?_
          refine ro_icmp_ne (tgt := 100) (pc := 93) dX12_itemOf_93 (by decide) (fun _ => ?_) (fun _ => ?_)
          · skip
            refine ro_iload_n (pc := 100) 1 dX12_itemOf_100 rfl rfl ?_
            refine ro_bipush (v := 117) (pc := 101) dX12_itemOf_101 (by decide) ?_
            refine ro_icmp_ne (tgt := 110) (pc := 103) dX12_itemOf_103 (by decide) (fun _ => ?_) (fun _ => ?_)
            · skip
              refine ro_iconst (v := (-1)) (pc := 110) dX12_itemOf_110 (by decide) ?_
              exact ro_iret (pc := 111) rfl rfl dX12_itemOf_111
            · skip
              refine ro_iconst (v := 4) (pc := 106) dX12_itemOf_106 (by decide) ?_
              refine ro_goto (tgt := 111) (pc := 107) dX12_itemOf_107 (by decide) ?_
              exact ro_iret (pc := 111) rfl rfl dX12_itemOf_111
          · skip
            refine ro_iconst (v := 3) (pc := 96) dX12_itemOf_96 (by decide) ?_
            refine ro_goto (tgt := 111) (pc := 97) dX12_itemOf_97 (by decide) ?_
            exact ro_iret (pc := 111) rfl rfl dX12_itemOf_111
        · skip
          refine ro_iconst (v := 2) (pc := 86) dX12_itemOf_86 (by decide) ?_
          refine ro_goto (tgt := 111) (pc := 87) dX12_itemOf_87 (by decide) ?_
          exact ro_iret (pc := 111) rfl rfl dX12_itemOf_111
      · skip
        refine ro_iconst (v := 1) (pc := 76) dX12_itemOf_76 (by decide) ?_
        refine ro_goto (tgt := 111) (pc := 77) dX12_itemOf_77 (by decide) ?_
        exact ro_iret (pc := 111) rfl rfl dX12_itemOf_111
    · skip
      refine ro_iconst (v := 0) (pc := 66) dX12_itemOf_66 (by decide) ?_
      refine ro_goto (tgt := 111) (pc := 67) dX12_itemOf_67 (by decide) ?_
      exact ro_iret (pc := 111) rfl rfl dX12_itemOf_111
  refine ro_lsk (key := 115) (off := 27) (tgt := 28) (pc := 1) dX12_itemOf_1 (by decide) (by decide) (by decide) (fun _ => ?_) (fun c1_115 => ?_)
  · skip
    refine ro_iload_n (pc := 28) 1 dX12_itemOf_28 rfl rfl ?_
    refine ro_bipush (v := 100) (pc := 29) dX12_itemOf_29 (by decide) ?_
    refine ro_icmp_ne (tgt := 38) (pc := 31) dX12_itemOf_31 (by decide) (fun _ => ?_) (fun _ => ?_)
    · skip
      refine ro_iload_n (pc := 38) 1 dX12_itemOf_38 rfl rfl ?_
      refine ro_bipush (v := 102) (pc := 39) dX12_itemOf_39 (by decide) ?_
      refine ro_icmp_ne (tgt := 48) (pc := 41) dX12_itemOf_41 (by decide) (fun _ => ?_) (fun _ => ?_)
      · skip
        refine ro_iload_n (pc := 48) 1 dX12_itemOf_48 rfl rfl ?_
        refine ro_bipush (v := 112) (pc := 49) dX12_itemOf_49 (by decide) ?_
        refine ro_icmp_ne (tgt := 58) (pc := 51) dX12_itemOf_51 (by decide) (fun _ => ?_) (fun _ => ?_)
        · skip
          refine ro_iconst (v := (-1)) (pc := 58) dX12_itemOf_58 (by decide) ?_
          exact ro_iret (pc := 59) rfl rfl dX12_itemOf_59
        · skip
          refine ro_iconst (v := 2) (pc := 54) dX12_itemOf_54 (by decide) ?_
          refine ro_goto (tgt := 59) (pc := 55) dX12_itemOf_55 (by decide) ?_
          exact ro_iret (pc := 59) rfl rfl dX12_itemOf_59
      · skip
        refine ro_iconst (v := 1) (pc := 44) dX12_itemOf_44 (by decide) ?_
        refine ro_goto (tgt := 59) (pc := 45) dX12_itemOf_45 (by decide) ?_
        exact ro_iret (pc := 59) rfl rfl dX12_itemOf_59
    · skip
      refine ro_iconst (v := 0) (pc := 34) dX12_itemOf_34 (by decide) ?_
      refine ro_goto (tgt := 59) (pc := 35) dX12_itemOf_35 (by decide) ?_
      exact ro_iret (pc := 59) rfl rfl dX12_itemOf_59
  refine ro_lsd (tgt := 112) (pc := 1) dX12_itemOf_1 (by decide) (by have a114 := ne_int c1_114 (k := 114) (z := 114) (by decide); have a115 := ne_int c1_115 (k := 115) (z := 115) (by decide); show Op.lookupswitch.offset [(114, 59), (115, 27)] 111 _ = 111; rw [Op.lookupswitch.offset_cons, if_neg (Ne.symm a114), Op.lookupswitch.offset_cons, if_neg (Ne.symm a115), Op.lookupswitch.offset_nil]) (by decide) ?_
  refine ro_iload_n (pc := 112) 1 dX12_itemOf_112 rfl rfl ?_
  refine ro_bipush (v := 99) (pc := 113) dX12_itemOf_113 (by decide) ?_
  refine ro_icmp_ne (tgt := 122) (pc := 115) dX12_itemOf_115 (by decide) (fun _ => ?_) (fun _ => ?_)
  · skip
    refine ro_iload_n (pc := 122) 1 dX12_itemOf_122 rfl rfl ?_
    refine ro_bipush (v := 113) (pc := 123) dX12_itemOf_123 (by decide) ?_
    refine ro_icmp_ne (tgt := 132) (pc := 125) dX12_itemOf_125 (by decide) (fun _ => ?_) (fun _ => ?_)
    · skip
      refine ro_iload_n (pc := 132) 1 dX12_itemOf_132 rfl rfl ?_
      refine ro_bipush (v := 122) (pc := 133) dX12_itemOf_133 (by decide) ?_
      refine ro_icmp_ne (tgt := 142) (pc := 135) dX12_itemOf_135 (by decide) (fun _ => ?_) (fun _ => ?_)
      · skip
        refine ro_iconst (v := (-1)) (pc := 142) dX12_itemOf_142 (by decide) ?_
        exact ro_iret (pc := 143) rfl rfl dX12_itemOf_143
      · skip
        refine ro_iconst (v := 2) (pc := 138) dX12_itemOf_138 (by decide) ?_
        refine ro_goto (tgt := 143) (pc := 139) dX12_itemOf_139 (by decide) ?_
        exact ro_iret (pc := 143) rfl rfl dX12_itemOf_143
    · skip
      refine ro_iconst (v := 1) (pc := 128) dX12_itemOf_128 (by decide) ?_
      refine ro_goto (tgt := 143) (pc := 129) dX12_itemOf_129 (by decide) ?_
      exact ro_iret (pc := 143) rfl rfl dX12_itemOf_143
  · skip
    refine ro_iconst (v := 0) (pc := 118) dX12_itemOf_118 (by decide) ?_
    refine ro_goto (tgt := 143) (pc := 119) dX12_itemOf_119 (by decide) ?_
    exact ro_iret (pc := 143) rfl rfl dX12_itemOf_143
theorem c_Mod_itemOf (X : mu_X) (N : Nat) (h : mu_H) (a0 : Int32) (a1 : Int32) : ∀ r, f_Mod_itemOf N h a0 a1 = some r → mI X m_Mod_itemOf 1 [.int a0, .int a1] h r h := fun r hr => mI_of (by decide) rfl (Nat.le_of_ble_eq_true rfl) rfl (cb_Mod_itemOf X N h a0 a1 r hr)
set_option maxRecDepth 20000 in
theorem cb_Mod_lowest (X : mu_X) (N : Nat) (h : mu_H) (a0 : Int32) (a1 : Int32) : aG X m_Mod_lowest (rmk 1) (fun _ => ax X) (fun _ _ _ => True) 0 0 (fun r : Int32 => qI X r h) (f_Mod_lowest N h a0 a1) 0 [(0, .int a0), (1, .int a1)] [] h := by
  unfold f_Mod_lowest
  refine ro_iload_n (pc := 0) 0 dX12_lowest_0 rfl rfl ?_
  refine ro_bipush (v := 115) (pc := 1) dX12_lowest_1 (by decide) ?_
  refine ro_jn (pcj := 10) (lvs := fun (s : Unit) => [(0, .int a0), (1, .int a1)]) (hs := fun (s : Unit) => h) (sts := fun (s : Unit) => []) (fun s => ?_) (fun j1 hj1 => ?_)
  · try dsimp only
    refine ro_iload_n (pc := 10) 0 dX12_lowest_10 rfl rfl ?_
    refine ro_bipush (v := 104) (pc := 11) dX12_lowest_11 (by decide) ?_
    refine ro_icmp_ne (tgt := 25) (pc := 13) dX12_lowest_13 (by decide) (fun _ => ?_) (fun _ => ?_)
    · skip
      refine ro_iconst (v := 0) (pc := 25) dX12_lowest_25 (by decide) ?_
      exact ro_iret (pc := 26) rfl rfl dX12_lowest_26
    · skip
      refine ro_iload_n (pc := 16) 1 dX12_lowest_16 rfl rfl ?_
      refine ro_iconst (v := 1) (pc := 17) dX12_lowest_17 (by decide) ?_
      refine ro_icmp_ne (tgt := 25) (pc := 18) dX12_lowest_18 (by decide) (fun _ => ?_) (fun _ => ?_)
      · skip
        refine ro_iconst (v := 0) (pc := 25) dX12_lowest_25 (by decide) ?_
        exact ro_iret (pc := 26) rfl rfl dX12_lowest_26
      · skip
        refine ro_iconst (v := 1) (pc := 21) dX12_lowest_21 (by decide) ?_
        refine ro_goto (tgt := 26) (pc := 22) dX12_lowest_22 (by decide) ?_
        exact ro_iret (pc := 26) rfl rfl dX12_lowest_26
  · skip
    refine ro_icmp_ne (tgt := 10) (pc := 3) dX12_lowest_3 (by decide) (fun _ => ?_) (fun _ => ?_)
    · skip
      exact hj1 ()
    · skip
      refine ro_iload_n (pc := 6) 1 dX12_lowest_6 rfl rfl ?_
      refine ro_if_eq (tgt := 21) (pc := 7) dX12_lowest_7 (by decide) (fun _ => ?_) (fun _ => ?_)
      · skip
        refine ro_iconst (v := 1) (pc := 21) dX12_lowest_21 (by decide) ?_
        refine ro_goto (tgt := 26) (pc := 22) dX12_lowest_22 (by decide) ?_
        exact ro_iret (pc := 26) rfl rfl dX12_lowest_26
      · skip
        exact hj1 ()
theorem c_Mod_lowest (X : mu_X) (N : Nat) (h : mu_H) (a0 : Int32) (a1 : Int32) : ∀ r, f_Mod_lowest N h a0 a1 = some r → mI X m_Mod_lowest 1 [.int a0, .int a1] h r h := fun r hr => mI_of (by decide) rfl (Nat.le_of_ble_eq_true rfl) rfl (cb_Mod_lowest X N h a0 a1 r hr)
set_option maxRecDepth 20000 in
theorem cb_Mod_highest (X : mu_X) (N : Nat) (h : mu_H) (a0 : Int32) (a1 : Int32) : aG X m_Mod_highest (rmk 1) (fun _ => ax X) (fun _ _ _ => True) 0 0 (fun r : Int32 => qI X r h) (f_Mod_highest N h a0 a1) 0 [(0, .int a0), (1, .int a1)] [] h := by
  unfold f_Mod_highest
  refine ro_iload_n (pc := 0) 0 dX12_highest_0 rfl rfl ?_
  refine ro_lsk (key := 114) (off := 30) (tgt := 31) (pc := 1) dX12_highest_1 (by decide) (by decide) (by decide) (fun _ => ?_) (fun c1_114 => ?_)
  · skip
    refine ro_iload_n (pc := 31) 1 dX12_highest_31 rfl rfl ?_
    refine ro_iconst (v := 1) (pc := 32) dX12_highest_32 (by decide) ?_
    refine ro_icmp_gt (tgt := 41) (pc := 33) dX12_highest_33 (by decide) (fun _ => ?_) (fun _ => ?_)
    · skip
      refine ro_iload_n (pc := 41) 1 dX12_highest_41 rfl rfl ?_
      refine ro_iconst (v := 2) (pc := 42) dX12_highest_42 (by decide) ?_
      refine ro_icmp_ne (tgt := 51) (pc := 43) dX12_highest_43 (by decide) (fun _ => ?_) (fun _ => ?_)
      · skip
        refine ro_bipush (v := 9) (pc := 51) dX12_highest_51 (by decide) ?_
        exact ro_iret (pc := 53) rfl rfl dX12_highest_53
      · skip
        refine ro_bipush (v := 99) (pc := 46) dX12_highest_46 (by decide) ?_
        refine ro_goto (tgt := 53) (pc := 48) dX12_highest_48 (by decide) ?_
        exact ro_iret (pc := 53) rfl rfl dX12_highest_53
    · skip
      refine ro_bipush (v := 7) (pc := 36) dX12_highest_36 (by decide) ?_
      refine ro_goto (tgt := 53) (pc := 38) dX12_highest_38 (by decide) ?_
      exact ro_iret (pc := 53) rfl rfl dX12_highest_53
  refine ro_lsk (key := 115) (off := 27) (tgt := 28) (pc := 1) dX12_highest_1 (by decide) (by decide) (by decide) (fun _ => ?_) (fun c1_115 => ?_)
  · skip
    refine ro_bipush (v := 9) (pc := 28) dX12_highest_28 (by decide) ?_
    exact ro_iret (pc := 30) rfl rfl dX12_highest_30
  refine ro_lsd (tgt := 54) (pc := 1) dX12_highest_1 (by decide) (by have a114 := ne_int c1_114 (k := 114) (z := 114) (by decide); have a115 := ne_int c1_115 (k := 115) (z := 115) (by decide); show Op.lookupswitch.offset [(114, 30), (115, 27)] 53 _ = 53; rw [Op.lookupswitch.offset_cons, if_neg (Ne.symm a114), Op.lookupswitch.offset_cons, if_neg (Ne.symm a115), Op.lookupswitch.offset_nil]) (by decide) ?_
  refine ro_iload_n (pc := 54) 1 dX12_highest_54 rfl rfl ?_
  refine ro_if_ne (tgt := 63) (pc := 55) dX12_highest_55 (by decide) (fun _ => ?_) (fun _ => ?_)
  · skip
    refine ro_bipush (v := 9) (pc := 63) dX12_highest_63 (by decide) ?_
    exact ro_iret (pc := 65) rfl rfl dX12_highest_65
  · skip
    refine ro_bipush (v := 7) (pc := 58) dX12_highest_58 (by decide) ?_
    refine ro_goto (tgt := 65) (pc := 60) dX12_highest_60 (by decide) ?_
    exact ro_iret (pc := 65) rfl rfl dX12_highest_65
theorem c_Mod_highest (X : mu_X) (N : Nat) (h : mu_H) (a0 : Int32) (a1 : Int32) : ∀ r, f_Mod_highest N h a0 a1 = some r → mI X m_Mod_highest 1 [.int a0, .int a1] h r h := fun r hr => mI_of (by decide) rfl (Nat.le_of_ble_eq_true rfl) rfl (cb_Mod_highest X N h a0 a1 r hr)
set_option maxRecDepth 20000 in
theorem cb_Mod_number (X : mu_X) (N : Nat) (h : mu_H) (a1 : Int32) (a2 : Int32) : aG X m_Mod_number (rmk 3) (fun _ => ax X) (fun _ _ _ => True) 0 0 (fun r : Int32 × mu_H => qI X r.1 r.2) (f_Mod_number N h a1 a2) 0 [(0, .ref (xa X 51)), (1, .int a1), (2, .int a2)] [] h := by
  unfold f_Mod_number
  refine ro_aload_n (pc := 0) 0 dX12_number_0 rfl rfl ?_
  refine ro_cvI (pc := 1) (kc := 2) (avs := []) (st := []) ok_Mod_look wd_1488 cl_51 cv_51 rfl ⟨by decide, by decide⟩ ⟨Nat.zero_le _, Nat.zero_le _⟩ (c_Mod_look X N h) rfl rfl (Nat.le_of_ble_eq_true rfl) dX12_number_1 (fun x1 h2 => ?_)
  refine ro_csP (pc := 4) (kc := 1) (avs := [.int x1]) (st := []) ok_Mod_isDigit wd_1516 ⟨by decide, by decide⟩ ⟨Nat.zero_le _, Nat.zero_le _⟩ (c_Mod_isDigit X N h2 x1) rfl rfl (Nat.le_of_ble_eq_true rfl) dX12_number_4 (fun x4 => ?_)
  refine ro_if_ne (tgt := 16) (pc := 7) dX12_number_7 (by decide) (fun _ => ?_) (fun _ => ?_)
  · skip
    refine ro_aload_n (pc := 16) 0 dX12_number_16 rfl rfl ?_
    refine ro_cvP (pc := 17) (kc := 1) (avs := []) (st := []) ok_Mod_here wd_1492 cl_51 cv_51 rfl ⟨by decide, by decide⟩ ⟨Nat.zero_le _, Nat.zero_le _⟩ (c_Mod_here X N h2) rfl rfl (Nat.le_of_ble_eq_true rfl) dX12_number_17 (fun x5 => ?_)
    refine ro_bipush (v := 48) (pc := 20) dX12_number_20 (by decide) ?_
    refine ro_isub (pc := 22) dX12_number_22 ?_
    refine ro_bn (fun x6 => ?_)
    refine ro_istore_n (pc := 23) (lv' := [(3, .int x6), (0, .ref (xa X 51)), (1, .int a1), (2, .int a2)]) dX12_number_23 rfl (by decide) rfl ?_
    refine ro_aload_n (pc := 24) 1 dX12_number_24 rfl rfl ?_
    refine ro_dup (pc := 25) dX12_number_25 rfl ?_
    refine gf_X12_3 (pc := 26) wd_1325 dX12_number_26 ?_
    refine ro_iconst (v := 1) (pc := 29) dX12_number_29 (by decide) ?_
    refine ro_iadd (pc := 30) dX12_number_30 ?_
    refine pf_X12_3 (pc := 31) wd_1325 dX12_number_31 ?_
    refine ro_bnh (fun h7 => ?_)
    refine ro_aload_n (pc := 34) 1 dX12_number_34 rfl rfl ?_
    refine ro_cvP (pc := 35) (kc := 1) (avs := []) (st := []) ok_Mod_here wd_1492 cl_51 cv_51 rfl ⟨by decide, by decide⟩ ⟨Nat.zero_le _, Nat.zero_le _⟩ (c_Mod_here X N h7) rfl rfl (Nat.le_of_ble_eq_true rfl) dX12_number_35 (fun x8 => ?_)
    refine ro_csP (pc := 38) (kc := 1) (avs := [.int x8]) (st := []) ok_Mod_isDigit wd_1516 ⟨by decide, by decide⟩ ⟨Nat.zero_le _, Nat.zero_le _⟩ (c_Mod_isDigit X N h7 x8) rfl rfl (Nat.le_of_ble_eq_true rfl) dX12_number_38 (fun x9 => ?_)
    refine ro_jn (pcj := 67) (lvs := fun (s : Int32 × mu_H) => [(0, .ref (xa X 51)), (1, .int a1), (2, .int a2), (3, .int s.1)]) (hs := fun (s : Int32 × mu_H) => s.2) (sts := fun (s : Int32 × mu_H) => []) (fun s => ?_) (fun j10 hj10 => ?_)
    · obtain ⟨x11, h12⟩ := s; try dsimp only
      refine ro_aload_n (pc := 67) 0 dX12_number_67 rfl rfl ?_
      refine ro_cvP (pc := 68) (kc := 1) (avs := []) (st := []) ok_Mod_here wd_1492 cl_51 cv_51 rfl ⟨by decide, by decide⟩ ⟨Nat.zero_le _, Nat.zero_le _⟩ (c_Mod_here X N h12) rfl rfl (Nat.le_of_ble_eq_true rfl) dX12_number_68 (fun x13 => ?_)
      refine ro_csP (pc := 71) (kc := 1) (avs := [.int x13]) (st := []) ok_Mod_isDigit wd_1516 ⟨by decide, by decide⟩ ⟨Nat.zero_le _, Nat.zero_le _⟩ (c_Mod_isDigit X N h12 x13) rfl rfl (Nat.le_of_ble_eq_true rfl) dX12_number_71 (fun x14 => ?_)
      refine ro_if_eq (tgt := 84) (pc := 74) dX12_number_74 (by decide) (fun _ => ?_) (fun _ => ?_)
      · skip
        refine ro_iload_n (pc := 84) 3 dX12_number_84 rfl rfl ?_
        refine ro_iload_n (pc := 85) 1 dX12_number_85 rfl rfl ?_
        refine ro_iload_n (pc := 86) 2 dX12_number_86 rfl rfl ?_
        refine ro_csP (pc := 87) (kc := 1) (avs := [.int x11, .int a1, .int a2]) (st := []) ok_Mod_in wd_1523 ⟨by decide, by decide⟩ ⟨Nat.zero_le _, Nat.zero_le _⟩ (c_Mod_in X N h12 x11 a1 a2) rfl rfl (Nat.le_of_ble_eq_true rfl) dX12_number_87 (fun x15 => ?_)
        refine ro_if_ne (tgt := 107) (pc := 90) dX12_number_90 (by decide) (fun _ => ?_) (fun _ => ?_)
        · skip
          refine ro_iload_n (pc := 107) 3 dX12_number_107 rfl rfl ?_
          exact ro_iret (pc := 108) rfl rfl dX12_number_108
        · skip
          refine ro_aload_n (pc := 93) 0 dX12_number_93 rfl rfl ?_
          refine ro_dup (pc := 94) dX12_number_94 rfl ?_
          refine gf_X12_3 (pc := 95) wd_1325 dX12_number_95 ?_
          refine ro_iconst (v := 1) (pc := 98) dX12_number_98 (by decide) ?_
          refine ro_isub (pc := 99) dX12_number_99 ?_
          refine pf_X12_3 (pc := 100) wd_1325 dX12_number_100 ?_
          refine ro_bnh (fun h16 => ?_)
          refine ro_aload_n (pc := 103) 0 dX12_number_103 rfl rfl ?_
          refine ro_cvV (pc := 104) (kc := 1) (avs := []) (st := []) ok_Mod_bad wd_1519 cl_51 cv_51 rfl ⟨by decide, by decide⟩ ⟨Nat.zero_le _, Nat.zero_le _⟩ (c_Mod_bad X N h16) rfl rfl (Nat.le_of_ble_eq_true rfl) dX12_number_104 (fun h17 => ?_)
          refine ro_iload_n (pc := 107) 3 dX12_number_107 rfl rfl ?_
          exact ro_iret (pc := 108) rfl rfl dX12_number_108
      · skip
        refine ro_aload_n (pc := 77) 0 dX12_number_77 rfl rfl ?_
        refine ro_cvV (pc := 78) (kc := 1) (avs := []) (st := []) ok_Mod_bad wd_1519 cl_51 cv_51 rfl ⟨by decide, by decide⟩ ⟨Nat.zero_le _, Nat.zero_le _⟩ (c_Mod_bad X N h12) rfl rfl (Nat.le_of_ble_eq_true rfl) dX12_number_78 (fun h18 => ?_)
        refine ro_goto (tgt := 107) (pc := 81) dX12_number_81 (by decide) ?_
        refine ro_iload_n (pc := 107) 3 dX12_number_107 rfl rfl ?_
        exact ro_iret (pc := 108) rfl rfl dX12_number_108
    · skip
      refine ro_if_eq (tgt := 67) (pc := 41) dX12_number_41 (by decide) (fun _ => ?_) (fun _ => ?_)
      · skip
        refine ro_lv [1, 2, 3, 0] rfl ?_
        exact hj10 (x6, h7)
      · skip
        refine ro_bipush (v := 10) (pc := 44) dX12_number_44 (by decide) ?_
        refine ro_iload_n (pc := 46) 0 dX12_number_46 rfl rfl ?_
        refine ro_imul (pc := 47) dX12_number_47 ?_
        refine ro_aload_n (pc := 48) 1 dX12_number_48 rfl rfl ?_
        refine ro_cvP (pc := 49) (kc := 1) (avs := []) (st := [.int (10 * x6)]) ok_Mod_here wd_1492 cl_51 cv_51 rfl ⟨by decide, by decide⟩ ⟨Nat.zero_le _, Nat.zero_le _⟩ (c_Mod_here X N h7) rfl rfl (Nat.le_of_ble_eq_true rfl) dX12_number_49 (fun x19 => ?_)
        refine ro_iadd (pc := 52) dX12_number_52 ?_
        refine ro_bipush (v := 48) (pc := 53) dX12_number_53 (by decide) ?_
        refine ro_isub (pc := 55) dX12_number_55 ?_
        refine ro_bn (fun x20 => ?_)
        refine ro_istore_n (pc := 56) (lv' := [(3, .int x20), (0, .ref (xa X 51)), (1, .int a1), (2, .int a2)]) dX12_number_56 rfl (by decide) rfl ?_
        refine ro_aload_n (pc := 57) 1 dX12_number_57 rfl rfl ?_
        refine ro_dup (pc := 58) dX12_number_58 rfl ?_
        refine gf_X12_3 (pc := 59) wd_1325 dX12_number_59 ?_
        refine ro_iconst (v := 1) (pc := 62) dX12_number_62 (by decide) ?_
        refine ro_iadd (pc := 63) dX12_number_63 ?_
        refine pf_X12_3 (pc := 64) wd_1325 dX12_number_64 ?_
        refine ro_bnh (fun h21 => ?_)
        refine ro_lv [1, 2, 3, 0] rfl ?_
        exact hj10 (x20, h21)
  · skip
    refine ro_aload_n (pc := 10) 0 dX12_number_10 rfl rfl ?_
    refine ro_cvV (pc := 11) (kc := 1) (avs := []) (st := []) ok_Mod_bad wd_1519 cl_51 cv_51 rfl ⟨by decide, by decide⟩ ⟨Nat.zero_le _, Nat.zero_le _⟩ (c_Mod_bad X N h2) rfl rfl (Nat.le_of_ble_eq_true rfl) dX12_number_11 (fun h22 => ?_)
    refine ro_iload_n (pc := 14) 1 dX12_number_14 rfl rfl ?_
    exact ro_iret (pc := 15) rfl rfl dX12_number_15
theorem c_Mod_number (X : mu_X) (N : Nat) (h : mu_H) (a1 : Int32) (a2 : Int32) : ∀ r, f_Mod_number N h a1 a2 = some r → mI X m_Mod_number 3 [.ref (xa X 51), .int a1, .int a2] h r.1 r.2 := fun r hr => mI_of (by decide) rfl (Nat.le_of_ble_eq_true rfl) rfl (cb_Mod_number X N h a1 a2 r hr)
set_option maxRecDepth 20000 in
theorem cb_Mod_items (X : mu_X) (N : Nat) (h : mu_H) (a1 : Int32) (q2 n2 : Nat) (hl_q2 : q2 < nn) (hc_q2 : ∀ f g, ce X q2 f g = .inl (xc X 0, n2, .inl f)) (a3 : Int32) (a4 : Int32) : aG X m_Mod_items (rmk 4) (fun _ => ax X) (fun _ _ _ => True) 0 0 (fun r : mu_H => qV X r) (f_Mod_items N h a1 q2 n2 a3 a4) 0 [(0, .ref (xa X 51)), (1, .int a1), (2, .ref (xa X q2)), (3, .int a3), (4, .int a4)] [] h := by
  unfold f_Mod_items
  refine ro_iconst (v := 0) (pc := 0) dX12_items_0 (by decide) ?_
  refine ro_istore (pc := 1) (lv' := [(5, .int 0), (0, .ref (xa X 51)), (1, .int a1), (2, .ref (xa X q2)), (3, .int a3), (4, .int a4)]) dX12_items_1 (by decide) rfl ?_
  refine ro_jn (pcj := 28) (lvs := fun (s : mu_H) => [(0, .ref (xa X 51)), (1, .int a1), (2, .ref (xa X q2)), (3, .int a3)]) (hs := fun (s : mu_H) => s) (sts := fun (s : mu_H) => []) (fun h2 => ?_) (fun k1 hk1 => ?_)
  · try dsimp only
    refine ro_iconst (v := 0) (pc := 28) dX12_items_28 (by decide) ?_
    refine ro_istore (pc := 29) (lv' := [(5, .int 0), (0, .ref (xa X 51)), (1, .int a1), (2, .ref (xa X q2)), (3, .int a3)]) dX12_items_29 (by decide) rfl ?_
    refine ro_iload_n (pc := 31) 2 dX12_items_31 rfl rfl ?_
    refine ro_aload_n (pc := 32) 1 dX12_items_32 rfl rfl ?_
    refine ro_cvI (pc := 33) (kc := 2) (avs := []) (st := [.int a1]) ok_Mod_look wd_1488 cl_51 cv_51 rfl ⟨by decide, by decide⟩ ⟨Nat.zero_le _, Nat.zero_le _⟩ (c_Mod_look X N h2) rfl rfl (Nat.le_of_ble_eq_true rfl) dX12_items_33 (fun x3 h4 => ?_)
    refine ro_csP (pc := 36) (kc := 1) (avs := [.int a1, .int x3]) (st := []) ok_Mod_itemOf wd_1500 ⟨by decide, by decide⟩ ⟨Nat.zero_le _, Nat.zero_le _⟩ (c_Mod_itemOf X N h4 a1 x3) rfl rfl (Nat.le_of_ble_eq_true rfl) dX12_items_36 (fun x6 => ?_)
    refine ro_istore (pc := 39) (lv' := [(6, .int x6), (5, .int 0), (0, .ref (xa X 51)), (1, .int a1), (2, .ref (xa X q2)), (3, .int a3)]) dX12_items_39 (by decide) rfl ?_
    refine ro_lv [2, 3, 4, 5, 1, 0] rfl ?_
    refine ro_lp (pc := 41) (lvs := fun (s : Int32 × Int32 × mu_H) => [(0, .ref (xa X 51)), (1, .int a1), (2, .ref (xa X q2)), (3, .int a3), (5, .int s.1), (6, .int s.2.1)]) (hs := fun (s : Int32 × Int32 × mu_H) => s.2.2) (fun rec7 hrec7 s => ?_) N (0, x6, h4)
    obtain ⟨x8, x9, h10⟩ := s; unfold f_Mod_items_L41; try dsimp only
    refine ro_aload_n (pc := 41) 0 dX12_items_41 rfl rfl ?_
    refine gf_X12_4 (pc := 42) wd_1326 dX12_items_42 ?_
    refine ro_iconst (v := (-1)) (pc := 45) dX12_items_45 (by decide) ?_
    refine ro_icmp_ne (tgt := 131) (pc := 46) dX12_items_46 (by decide) (fun _ => ?_) (fun _ => ?_)
    · skip
      exact ro_vret (pc := 131) rfl rfl dX12_items_131
    · skip
      refine ro_iload (pc := 49) 5 dX12_items_49 rfl ?_
      refine ro_iconst (v := (-1)) (pc := 51) dX12_items_51 (by decide) ?_
      refine ro_icmp_eq (tgt := 131) (pc := 52) dX12_items_52 (by decide) (fun _ => ?_) (fun _ => ?_)
      · skip
        exact ro_vret (pc := 131) rfl rfl dX12_items_131
      · skip
        refine ro_iload (pc := 55) 4 dX12_items_55 rfl ?_
        refine ro_iload (pc := 57) 5 dX12_items_57 rfl ?_
        refine ro_csP (pc := 59) (kc := 1) (avs := [.int x8, .int x9]) (st := []) ok_Mod_has wd_1503 ⟨by decide, by decide⟩ ⟨Nat.zero_le _, Nat.zero_le _⟩ (c_Mod_has X N h10 x8 x9) rfl rfl (Nat.le_of_ble_eq_true rfl) dX12_items_59 (fun x11 => ?_)
        refine ro_if_ne (tgt := 131) (pc := 62) dX12_items_62 (by decide) (fun _ => ?_) (fun _ => ?_)
        · skip
          exact ro_vret (pc := 131) rfl rfl dX12_items_131
        · skip
          refine ro_iload (pc := 65) 4 dX12_items_65 rfl ?_
          refine ro_iconst (v := 1) (pc := 67) dX12_items_67 (by decide) ?_
          refine ro_iload (pc := 68) 5 dX12_items_68 rfl ?_
          refine ro_ishl (pc := 70) dX12_items_70 ?_
          refine ro_ior (pc := 71) dX12_items_71 ?_
          refine ro_bn (fun x12 => ?_)
          refine ro_istore (pc := 72) (lv' := [(5, .int x12), (0, .ref (xa X 51)), (1, .int a1), (2, .ref (xa X q2)), (3, .int a3), (6, .int x9)]) dX12_items_72 (by decide) rfl ?_
          refine ro_aload_n (pc := 74) 1 dX12_items_74 rfl rfl ?_
          refine ro_dup (pc := 75) dX12_items_75 rfl ?_
          refine gf_X12_3 (pc := 76) wd_1325 dX12_items_76 ?_
          refine ro_iconst (v := 1) (pc := 79) dX12_items_79 (by decide) ?_
          refine ro_iadd (pc := 80) dX12_items_80 ?_
          refine pf_X12_3 (pc := 81) wd_1325 dX12_items_81 ?_
          refine ro_bnh (fun h13 => ?_)
          refine ro_aload_n (pc := 84) 3 dX12_items_84 rfl rfl ?_
          refine ro_iload_n (pc := 85) 4 dX12_items_85 rfl rfl ?_
          refine ro_iload (pc := 86) 5 dX12_items_86 rfl ?_
          refine ro_iadd (pc := 88) dX12_items_88 ?_
          refine ro_aload_n (pc := 89) 1 dX12_items_89 rfl rfl ?_
          refine ro_iload_n (pc := 90) 2 dX12_items_90 rfl rfl ?_
          refine ro_iload (pc := 91) 5 dX12_items_91 rfl ?_
          refine ro_csP (pc := 93) (kc := 1) (avs := [.int a1, .int x9]) (st := [.ref (xa X 51), .int (a3 + x9), .ref (xa X q2)]) ok_Mod_lowest wd_1506 ⟨by decide, by decide⟩ ⟨Nat.zero_le _, Nat.zero_le _⟩ (c_Mod_lowest X N h13 a1 x9) rfl rfl (Nat.le_of_ble_eq_true rfl) dX12_items_93 (fun x14 => ?_)
          refine ro_iload_n (pc := 96) 2 dX12_items_96 rfl rfl ?_
          refine ro_iload (pc := 97) 5 dX12_items_97 rfl ?_
          refine ro_csP (pc := 99) (kc := 1) (avs := [.int a1, .int x9]) (st := [.int x14, .ref (xa X 51), .int (a3 + x9), .ref (xa X q2)]) ok_Mod_highest wd_1509 ⟨by decide, by decide⟩ ⟨Nat.zero_le _, Nat.zero_le _⟩ (c_Mod_highest X N h13 a1 x9) rfl rfl (Nat.le_of_ble_eq_true rfl) dX12_items_99 (fun x15 => ?_)
          refine ro_cvI (pc := 102) (kc := 3) (avs := [.int x14, .int x15]) (st := [.int (a3 + x9), .ref (xa X q2)]) ok_Mod_number wd_1512 cl_51 cv_51 rfl ⟨by decide, by decide⟩ ⟨Nat.zero_le _, Nat.zero_le _⟩ (c_Mod_number X N h13 x14 x15) rfl rfl (Nat.le_of_ble_eq_true rfl) dX12_items_102 (fun x16 h17 => ?_)
          refine ro_iast (pc := 105) (n := n2) hl_q2 hc_q2 dX12_items_105 ?_
          refine ro_bnh (fun h19 => ?_)
          refine ro_aload_n (pc := 106) 1 dX12_items_106 rfl rfl ?_
          refine gf_X12_4 (pc := 107) wd_1326 dX12_items_107 ?_
          refine ro_iconst (v := (-1)) (pc := 110) dX12_items_110 (by decide) ?_
          refine ro_jn (pcj := 126) (lvs := fun (s : Int32 × mu_H) => [(0, .ref (xa X 51)), (1, .int a1), (2, .ref (xa X q2)), (3, .int a3), (5, .int x12)]) (hs := fun (s : Int32 × mu_H) => s.2) (sts := fun (s : Int32 × mu_H) => [.int s.1]) (fun s => ?_) (fun j20 hj20 => ?_)
          · obtain ⟨x21, h22⟩ := s; try dsimp only
            refine ro_istore (pc := 126) (lv' := [(6, .int x21), (0, .ref (xa X 51)), (1, .int a1), (2, .ref (xa X q2)), (3, .int a3), (5, .int x12)]) dX12_items_126 (by decide) rfl ?_
            refine ro_goto (tgt := 41) (pc := 128) dX12_items_128 (by decide) ?_
            refine ro_lv [1, 2, 3, 4, 5, 0] rfl ?_
            exact hrec7 (x12, x21, h22)
          · skip
            refine ro_icmp_ne (tgt := 125) (pc := 111) dX12_items_111 (by decide) (fun _ => ?_) (fun _ => ?_)
            · skip
              refine ro_iconst (v := (-1)) (pc := 125) dX12_items_125 (by decide) ?_
              refine ro_lv [1, 2, 3, 4, 0] rfl ?_
              exact hj20 ((-1), h19)
            · skip
              refine ro_iload_n (pc := 114) 2 dX12_items_114 rfl rfl ?_
              refine ro_aload_n (pc := 115) 1 dX12_items_115 rfl rfl ?_
              refine ro_cvI (pc := 116) (kc := 2) (avs := []) (st := [.int a1]) ok_Mod_look wd_1488 cl_51 cv_51 rfl ⟨by decide, by decide⟩ ⟨Nat.zero_le _, Nat.zero_le _⟩ (c_Mod_look X N h19) rfl rfl (Nat.le_of_ble_eq_true rfl) dX12_items_116 (fun x23 h24 => ?_)
              refine ro_csP (pc := 119) (kc := 1) (avs := [.int a1, .int x23]) (st := []) ok_Mod_itemOf wd_1500 ⟨by decide, by decide⟩ ⟨Nat.zero_le _, Nat.zero_le _⟩ (c_Mod_itemOf X N h24 a1 x23) rfl rfl (Nat.le_of_ble_eq_true rfl) dX12_items_119 (fun x26 => ?_)
              refine ro_goto (tgt := 126) (pc := 122) dX12_items_122 (by decide) ?_
              refine ro_lv [1, 2, 3, 4, 0] rfl ?_
              exact hj20 (x26, h24)
  · skip
    refine ro_lv [1, 2, 3, 4, 5, 0] rfl ?_
    refine ro_lp (pc := 3) (lvs := fun (s : Int32 × mu_H) => [(0, .ref (xa X 51)), (1, .int a1), (2, .ref (xa X q2)), (3, .int a3), (4, .int a4), (5, .int s.1)]) (hs := fun (s : Int32 × mu_H) => s.2) (fun rec27 hrec27 s => ?_) N (0, h)
    obtain ⟨x28, h29⟩ := s; unfold f_Mod_items_L3; try dsimp only
    refine ro_iload (pc := 3) 5 dX12_items_3 rfl ?_
    refine ro_iload (pc := 5) 4 dX12_items_5 rfl ?_
    refine ro_icmp_ge (tgt := 28) (pc := 7) dX12_items_7 (by decide) (fun _ => ?_) (fun _ => ?_)
    · skip
      refine ro_lv [0, 1, 2, 3] rfl ?_
      exact hk1 h29
    · skip
      refine ro_aload_n (pc := 10) 2 dX12_items_10 rfl rfl ?_
      refine ro_iload_n (pc := 11) 3 dX12_items_11 rfl rfl ?_
      refine ro_iload (pc := 12) 5 dX12_items_12 rfl ?_
      refine ro_iadd (pc := 14) dX12_items_14 ?_
      refine ro_iload_n (pc := 15) 1 dX12_items_15 rfl rfl ?_
      refine ro_iload (pc := 16) 5 dX12_items_16 rfl ?_
      refine ro_csP (pc := 18) (kc := 1) (avs := [.int a1, .int x28]) (st := [.int (a3 + x28), .ref (xa X q2)]) ok_Mod_usual wd_1485 ⟨by decide, by decide⟩ ⟨Nat.zero_le _, Nat.zero_le _⟩ (c_Mod_usual X N h29 a1 x28) rfl rfl (Nat.le_of_ble_eq_true rfl) dX12_items_18 (fun x30 => ?_)
      refine ro_iast (pc := 21) (n := n2) hl_q2 hc_q2 dX12_items_21 ?_
      refine ro_bnh (fun h31 => ?_)
      refine ro_iinc (pc := 22) (v := x28 + 1) (lv' := [(5, .int (x28 + 1)), (0, .ref (xa X 51)), (1, .int a1), (2, .ref (xa X q2)), (3, .int a3), (4, .int a4)]) 5 dX12_items_22 rfl rfl (by decide) rfl ?_
      refine ro_goto (tgt := 3) (pc := 25) dX12_items_25 (by decide) ?_
      refine ro_lv [1, 2, 3, 4, 5, 0] rfl ?_
      exact hrec27 (x28 + 1, h31)
theorem c_Mod_items (X : mu_X) (N : Nat) (h : mu_H) (a1 : Int32) (q2 n2 : Nat) (hl_q2 : q2 < nn) (hc_q2 : ∀ f g, ce X q2 f g = .inl (xc X 0, n2, .inl f)) (a3 : Int32) (a4 : Int32) : ∀ r, f_Mod_items N h a1 q2 n2 a3 a4 = some r → mV X m_Mod_items 4 [.ref (xa X 51), .int a1, .ref (xa X q2), .int a3, .int a4] h r := fun r hr => mV_of (by decide) rfl (Nat.le_of_ble_eq_true rfl) rfl (cb_Mod_items X N h a1 q2 n2 hl_q2 hc_q2 a3 a4 r hr)
set_option maxRecDepth 20000 in
theorem cb_Mod_isWhole (X : mu_X) (N : Nat) (h : mu_H) : aG X m_Mod_isWhole (rmk 1) (fun _ => ax X) (fun _ _ _ => True) 0 0 (fun r : Int32 => qI X r h) (f_Mod_isWhole N h) 0 [(0, .ref (xa X 51))] [] h := by
  unfold f_Mod_isWhole
  refine ro_aload_n (pc := 0) 0 dX12_isWhole_0 rfl rfl ?_
  refine gf_X12_20 (pc := 1) wd_1342 dX12_isWhole_1 ?_
  refine ro_jn (pcj := 19) (lvs := fun (s : Int32) => [(0, .ref (xa X 51))]) (hs := fun (s : Int32) => h) (sts := fun (s : Int32) => [.int s]) (fun x2 => ?_) (fun j1 hj1 => ?_)
  · try dsimp only
    refine ro_istore_n (pc := 19) (lv' := [(1, .int x2), (0, .ref (xa X 51))]) dX12_isWhole_19 rfl (by decide) rfl ?_
    refine ro_iconst (v := 0) (pc := 20) dX12_isWhole_20 (by decide) ?_
    refine ro_istore_n (pc := 21) (lv' := [(2, .int 0), (1, .int x2), (0, .ref (xa X 51))]) dX12_isWhole_21 rfl (by decide) rfl ?_
    refine ro_lv [2, 1, 0] rfl ?_
    refine ro_lp (pc := 22) (lvs := fun (s : Int32 × Int32) => [(0, .ref (xa X 51)), (1, .int s.1), (2, .int s.2)]) (hs := fun (s : Int32 × Int32) => h) (fun rec3 hrec3 s => ?_) N (x2, 0)
    obtain ⟨x4, x5⟩ := s; unfold f_Mod_isWhole_L22; try dsimp only
    refine ro_iload_n (pc := 22) 2 dX12_isWhole_22 rfl rfl ?_
    refine ro_aload_n (pc := 23) 0 dX12_isWhole_23 rfl rfl ?_
    refine gf_X12_20 (pc := 24) wd_1342 dX12_isWhole_24 ?_
    refine ro_icmp_ge (tgt := 69) (pc := 27) dX12_isWhole_27 (by decide) (fun _ => ?_) (fun _ => ?_)
    · skip
      refine ro_iload_n (pc := 69) 1 dX12_isWhole_69 rfl rfl ?_
      exact ro_zretg (pc := 70) rfl rfl dX12_isWhole_70
    · skip
      refine ro_iload_n (pc := 30) 1 dX12_isWhole_30 rfl rfl ?_
      refine ro_jn (pcj := 62) (lvs := fun (s : Int32) => [(0, .ref (xa X 51)), (2, .int x5)]) (hs := fun (s : Int32) => h) (sts := fun (s : Int32) => [.int s]) (fun x7 => ?_) (fun j6 hj6 => ?_)
      · try dsimp only
        refine ro_istore_n (pc := 62) (lv' := [(1, .int x7), (0, .ref (xa X 51)), (2, .int x5)]) dX12_isWhole_62 rfl (by decide) rfl ?_
        refine ro_iinc (pc := 63) (v := x5 + 1) (lv' := [(2, .int (x5 + 1)), (1, .int x7), (0, .ref (xa X 51))]) 2 dX12_isWhole_63 rfl rfl (by decide) rfl ?_
        refine ro_goto (tgt := 22) (pc := 66) dX12_isWhole_66 (by decide) ?_
        refine ro_lv [2, 1, 0] rfl ?_
        exact hrec3 (x7, x5 + 1)
      · skip
        refine ro_jn (pcj := 61) (lvs := fun (s : Unit) => [(0, .ref (xa X 51)), (2, .int x5)]) (hs := fun (s : Unit) => h) (sts := fun (s : Unit) => []) (fun s => ?_) (fun j8 hj8 => ?_)
        · try dsimp only
          refine ro_iconst (v := 0) (pc := 61) dX12_isWhole_61 (by decide) ?_
          exact hj6 0
        · skip
          refine ro_if_eq (tgt := 61) (pc := 31) dX12_isWhole_31 (by decide) (fun _ => ?_) (fun _ => ?_)
          · skip
            refine ro_lv [0, 2] rfl ?_
            exact hj8 ()
          · skip
            refine ro_aload_n (pc := 34) 0 dX12_isWhole_34 rfl rfl ?_
            refine gf_X12_18 (pc := 35) wd_1340 dX12_isWhole_35 ?_
            refine ro_iconst (v := 5) (pc := 38) dX12_isWhole_38 (by decide) ?_
            refine ro_iload_n (pc := 39) 2 dX12_isWhole_39 rfl rfl ?_
            refine ro_imul (pc := 40) dX12_isWhole_40 ?_
            refine ro_iconst (v := 0) (pc := 41) dX12_isWhole_41 (by decide) ?_
            refine ro_iadd (pc := 42) dX12_isWhole_42 ?_
            refine ro_iald (pc := 43) (n := 45) cl_63 cv_63 dX12_isWhole_43 ?_
            refine ro_aload_n (pc := 44) 0 dX12_isWhole_44 rfl rfl ?_
            refine gf_X12_18 (pc := 45) wd_1340 dX12_isWhole_45 ?_
            refine ro_iconst (v := 5) (pc := 48) dX12_isWhole_48 (by decide) ?_
            refine ro_iload_n (pc := 49) 2 dX12_isWhole_49 rfl rfl ?_
            refine ro_imul (pc := 50) dX12_isWhole_50 ?_
            refine ro_iconst (v := 1) (pc := 51) dX12_isWhole_51 (by decide) ?_
            refine ro_iadd (pc := 52) dX12_isWhole_52 ?_
            refine ro_iald (pc := 53) (n := 45) cl_63 cv_63 dX12_isWhole_53 ?_
            refine ro_icmp_eq (tgt := 61) (pc := 54) dX12_isWhole_54 (by decide) (fun _ => ?_) (fun _ => ?_)
            · skip
              refine ro_lv [0, 2] rfl ?_
              exact hj8 ()
            · skip
              refine ro_iconst (v := 1) (pc := 57) dX12_isWhole_57 (by decide) ?_
              refine ro_goto (tgt := 62) (pc := 58) dX12_isWhole_58 (by decide) ?_
              refine ro_lv [0, 2] rfl ?_
              exact hj6 1
  · skip
    refine ro_jn (pcj := 18) (lvs := fun (s : Unit) => [(0, .ref (xa X 51))]) (hs := fun (s : Unit) => h) (sts := fun (s : Unit) => []) (fun s => ?_) (fun j9 hj9 => ?_)
    · try dsimp only
      refine ro_iconst (v := 0) (pc := 18) dX12_isWhole_18 (by decide) ?_
      exact hj1 0
    · skip
      refine ro_if_le (tgt := 18) (pc := 4) dX12_isWhole_4 (by decide) (fun _ => ?_) (fun _ => ?_)
      · skip
        exact hj9 ()
      · skip
        refine ro_aload_n (pc := 7) 0 dX12_isWhole_7 rfl rfl ?_
        refine gf_X12_21 (pc := 8) wd_1343 dX12_isWhole_8 ?_
        refine ro_if_le (tgt := 18) (pc := 11) dX12_isWhole_11 (by decide) (fun _ => ?_) (fun _ => ?_)
        · skip
          exact hj9 ()
        · skip
          refine ro_iconst (v := 1) (pc := 14) dX12_isWhole_14 (by decide) ?_
          refine ro_goto (tgt := 19) (pc := 15) dX12_isWhole_15 (by decide) ?_
          exact hj1 1
theorem c_Mod_isWhole (X : mu_X) (N : Nat) (h : mu_H) : ∀ r, f_Mod_isWhole N h = some r → mI X m_Mod_isWhole 1 [.ref (xa X 51)] h r h := fun r hr => mI_of (by decide) rfl (Nat.le_of_ble_eq_true rfl) rfl (cb_Mod_isWhole X N h r hr)
set_option maxRecDepth 20000 in
theorem cb_Mod_readParish (X : mu_X) (N : Nat) (h : mu_H) : aG X m_Mod_readParish (rmk 5) (fun _ => ax X) (fun _ _ _ => True) 0 0 (fun r : Int32 × mu_H => qI X r.1 r.2) (f_Mod_readParish N h) 0 [(0, .ref (xa X 51))] [] h := by
  unfold f_Mod_readParish
  refine ro_aload_n (pc := 0) 0 dX12_readParish_0 rfl rfl ?_
  refine ro_iconst (v := 0) (pc := 1) dX12_readParish_1 (by decide) ?_
  refine pf_X12_3 (pc := 2) wd_1325 dX12_readParish_2 ?_
  refine ro_bnh (fun h1 => ?_)
  refine ro_aload_n (pc := 5) 0 dX12_readParish_5 rfl rfl ?_
  refine ro_iconst (v := (-1)) (pc := 6) dX12_readParish_6 (by decide) ?_
  refine pf_X12_4 (pc := 7) wd_1326 dX12_readParish_7 ?_
  refine ro_bnh (fun h2 => ?_)
  refine ro_aload_n (pc := 10) 0 dX12_readParish_10 rfl rfl ?_
  refine ro_iconst (v := 0) (pc := 11) dX12_readParish_11 (by decide) ?_
  refine pf_X12_20 (pc := 12) wd_1342 dX12_readParish_12 ?_
  refine ro_bnh (fun h3 => ?_)
  refine ro_aload_n (pc := 15) 0 dX12_readParish_15 rfl rfl ?_
  refine ro_iconst (v := 0) (pc := 16) dX12_readParish_16 (by decide) ?_
  refine pf_X12_21 (pc := 17) wd_1343 dX12_readParish_17 ?_
  refine ro_bnh (fun h4 => ?_)
  refine ro_iconst (v := 0) (pc := 20) dX12_readParish_20 (by decide) ?_
  refine ro_istore_n (pc := 21) (lv' := [(1, .int 0), (0, .ref (xa X 51))]) dX12_readParish_21 rfl (by decide) rfl ?_
  refine ro_iconst (v := 0) (pc := 22) dX12_readParish_22 (by decide) ?_
  refine ro_istore_n (pc := 23) (lv' := [(2, .int 0), (1, .int 0), (0, .ref (xa X 51))]) dX12_readParish_23 rfl (by decide) rfl ?_
  refine ro_jn (pcj := 47) (lvs := fun (s : mu_H) => [(0, .ref (xa X 51)), (1, .int 0)]) (hs := fun (s : mu_H) => s) (sts := fun (s : mu_H) => []) (fun h6 => ?_) (fun k5 hk5 => ?_)
  · try dsimp only
    refine ro_iconst (v := 1) (pc := 47) dX12_readParish_47 (by decide) ?_
    refine ro_istore_n (pc := 48) (lv' := [(2, .int 1), (0, .ref (xa X 51)), (1, .int 0)]) dX12_readParish_48 rfl (by decide) rfl ?_
    refine ro_jn (pcj := 258) (lvs := fun (s : mu_H) => [(0, .ref (xa X 51))]) (hs := fun (s : mu_H) => s) (sts := fun (s : mu_H) => []) (fun h8 => ?_) (fun k7 hk7 => ?_)
    · try dsimp only
      refine ro_aload_n (pc := 258) 0 dX12_readParish_258 rfl rfl ?_
      refine gf_X12_4 (pc := 259) wd_1326 dX12_readParish_259 ?_
      refine ro_iconst (v := (-1)) (pc := 262) dX12_readParish_262 (by decide) ?_
      refine ro_jn (pcj := 285) (lvs := fun (s : mu_H) => [(0, .ref (xa X 51))]) (hs := fun (s : mu_H) => s) (sts := fun (s : mu_H) => []) (fun h10 => ?_) (fun j9 hj9 => ?_)
      · try dsimp only
        refine ro_aload_n (pc := 285) 0 dX12_readParish_285 rfl rfl ?_
        refine gf_X12_4 (pc := 286) wd_1326 dX12_readParish_286 ?_
        exact ro_iret (pc := 289) rfl rfl dX12_readParish_289
      · skip
        refine ro_icmp_ne (tgt := 285) (pc := 263) dX12_readParish_263 (by decide) (fun _ => ?_) (fun _ => ?_)
        · skip
          exact hj9 h8
        · skip
          refine ro_aload_n (pc := 266) 0 dX12_readParish_266 rfl rfl ?_
          refine ro_cvI (pc := 267) (kc := 2) (avs := []) (st := []) ok_Mod_look wd_1488 cl_51 cv_51 rfl ⟨by decide, by decide⟩ ⟨Nat.zero_le _, Nat.zero_le _⟩ (c_Mod_look X N h8) rfl rfl (Nat.le_of_ble_eq_true rfl) dX12_readParish_267 (fun x11 h12 => ?_)
          refine ro_iconst (v := (-1)) (pc := 270) dX12_readParish_270 (by decide) ?_
          refine ro_jn (pcj := 281) (lvs := fun (s : Unit) => [(0, .ref (xa X 51))]) (hs := fun (s : Unit) => h12) (sts := fun (s : Unit) => []) (fun s => ?_) (fun j14 hj14 => ?_)
          · try dsimp only
            refine ro_aload_n (pc := 281) 0 dX12_readParish_281 rfl rfl ?_
            refine ro_cvV (pc := 282) (kc := 1) (avs := []) (st := []) ok_Mod_bad wd_1519 cl_51 cv_51 rfl ⟨by decide, by decide⟩ ⟨Nat.zero_le _, Nat.zero_le _⟩ (c_Mod_bad X N h12) rfl rfl (Nat.le_of_ble_eq_true rfl) dX12_readParish_282 (fun h15 => ?_)
            exact hj9 h15
          · skip
            refine ro_icmp_ne (tgt := 281) (pc := 271) dX12_readParish_271 (by decide) (fun _ => ?_) (fun _ => ?_)
            · skip
              exact hj14 ()
            · skip
              refine ro_aload_n (pc := 274) 0 dX12_readParish_274 rfl rfl ?_
              refine ro_cvP (pc := 275) (kc := 1) (avs := []) (st := []) ok_Mod_isWhole wd_1526 cl_51 cv_51 rfl ⟨by decide, by decide⟩ ⟨Nat.zero_le _, Nat.zero_le _⟩ (c_Mod_isWhole X N h12) rfl rfl (Nat.le_of_ble_eq_true rfl) dX12_readParish_275 (fun x16 => ?_)
              refine ro_if_ne (tgt := 285) (pc := 278) dX12_readParish_278 (by decide) (fun _ => ?_) (fun _ => ?_)
              · skip
                exact hj9 h12
              · skip
                exact hj14 ()
    · skip
      refine ro_lv [1, 2, 0] rfl ?_
      refine ro_lp (pc := 49) (lvs := fun (s : Int32 × Int32 × mu_H) => [(0, .ref (xa X 51)), (1, .int s.1), (2, .int s.2.1)]) (hs := fun (s : Int32 × Int32 × mu_H) => s.2.2) (fun rec17 hrec17 s => ?_) N (0, 1, h6)
      obtain ⟨x18, x19, h20⟩ := s; unfold f_Mod_readParish_L49; try dsimp only
      refine ro_iload_n (pc := 49) 2 dX12_readParish_49 rfl rfl ?_
      refine ro_if_eq (tgt := 258) (pc := 50) dX12_readParish_50 (by decide) (fun _ => ?_) (fun _ => ?_)
      · skip
        refine ro_lv [0] rfl ?_
        exact hk7 h20
      · skip
        refine ro_aload_n (pc := 53) 0 dX12_readParish_53 rfl rfl ?_
        refine gf_X12_4 (pc := 54) wd_1326 dX12_readParish_54 ?_
        refine ro_iconst (v := (-1)) (pc := 57) dX12_readParish_57 (by decide) ?_
        refine ro_icmp_ne (tgt := 258) (pc := 58) dX12_readParish_58 (by decide) (fun _ => ?_) (fun _ => ?_)
        · skip
          refine ro_lv [0] rfl ?_
          exact hk7 h20
        · skip
          refine ro_aload_n (pc := 61) 0 dX12_readParish_61 rfl rfl ?_
          refine ro_cvI (pc := 62) (kc := 2) (avs := []) (st := []) ok_Mod_look wd_1488 cl_51 cv_51 rfl ⟨by decide, by decide⟩ ⟨Nat.zero_le _, Nat.zero_le _⟩ (c_Mod_look X N h20) rfl rfl (Nat.le_of_ble_eq_true rfl) dX12_readParish_62 (fun x21 h22 => ?_)
          refine ro_istore_n (pc := 65) (lv' := [(3, .int x21), (0, .ref (xa X 51)), (1, .int x18), (2, .int x19)]) dX12_readParish_65 rfl (by decide) rfl ?_
          refine ro_iload_n (pc := 66) 0 dX12_readParish_66 rfl rfl ?_
          refine ro_bipush (v := 115) (pc := 67) dX12_readParish_67 (by decide) ?_
          refine ro_jn (pcj := 214) (lvs := fun (s : Int32 × mu_H) => [(0, .ref (xa X 51)), (1, .int s.1)]) (hs := fun (s : Int32 × mu_H) => s.2) (sts := fun (s : Int32 × mu_H) => []) (fun s => ?_) (fun j24 hj24 => ?_)
          · obtain ⟨x25, h26⟩ := s; try dsimp only
            refine ro_aload_n (pc := 214) 0 dX12_readParish_214 rfl rfl ?_
            refine gf_X12_4 (pc := 215) wd_1326 dX12_readParish_215 ?_
            refine ro_iconst (v := (-1)) (pc := 218) dX12_readParish_218 (by decide) ?_
            refine ro_jn (pcj := 236) (lvs := fun (s : Int32 × mu_H) => [(0, .ref (xa X 51)), (1, .int x25)]) (hs := fun (s : Int32 × mu_H) => s.2) (sts := fun (s : Int32 × mu_H) => [.int s.1]) (fun s => ?_) (fun j27 hj27 => ?_)
            · obtain ⟨x28, h29⟩ := s; try dsimp only
              refine ro_istore_n (pc := 236) (lv' := [(2, .int x28), (0, .ref (xa X 51)), (1, .int x25)]) dX12_readParish_236 rfl (by decide) rfl ?_
              refine ro_aload_n (pc := 237) 1 dX12_readParish_237 rfl rfl ?_
              refine ro_dup (pc := 238) dX12_readParish_238 rfl ?_
              refine gf_X12_3 (pc := 239) wd_1325 dX12_readParish_239 ?_
              refine ro_iload_n (pc := 242) 0 dX12_readParish_242 rfl rfl ?_
              refine ro_jn (pcj := 251) (lvs := fun (s : Int32) => [(0, .ref (xa X 51)), (1, .int x25), (2, .int x28)]) (hs := fun (s : Int32) => h29) (sts := fun (s : Int32) => [.int s, .int (h29.1 51 3), .ref (xa X 51)]) (fun x31 => ?_) (fun j30 hj30 => ?_)
              · try dsimp only
                refine ro_iadd (pc := 251) dX12_readParish_251 ?_
                refine pf_X12_3 (pc := 252) wd_1325 dX12_readParish_252 ?_
                refine ro_bnh (fun h32 => ?_)
                refine ro_goto (tgt := 49) (pc := 255) dX12_readParish_255 (by decide) ?_
                exact hrec17 (x25, x28, h32)
              · skip
                refine ro_if_eq (tgt := 250) (pc := 243) dX12_readParish_243 (by decide) (fun _ => ?_) (fun _ => ?_)
                · skip
                  refine ro_iconst (v := 0) (pc := 250) dX12_readParish_250 (by decide) ?_
                  refine ro_lv [1, 2, 0] rfl ?_
                  exact hj30 0
                · skip
                  refine ro_iconst (v := 1) (pc := 246) dX12_readParish_246 (by decide) ?_
                  refine ro_goto (tgt := 251) (pc := 247) dX12_readParish_247 (by decide) ?_
                  refine ro_lv [1, 2, 0] rfl ?_
                  exact hj30 1
            · skip
              refine ro_jn (pcj := 235) (lvs := fun (s : mu_H) => [(0, .ref (xa X 51)), (1, .int x25)]) (hs := fun (s : mu_H) => s) (sts := fun (s : mu_H) => []) (fun h34 => ?_) (fun j33 hj33 => ?_)
              · try dsimp only
                refine ro_iconst (v := 0) (pc := 235) dX12_readParish_235 (by decide) ?_
                exact hj27 (0, h34)
              · skip
                refine ro_icmp_ne (tgt := 235) (pc := 219) dX12_readParish_219 (by decide) (fun _ => ?_) (fun _ => ?_)
                · skip
                  exact hj33 h26
                · skip
                  refine ro_aload_n (pc := 222) 0 dX12_readParish_222 rfl rfl ?_
                  refine ro_cvI (pc := 223) (kc := 2) (avs := []) (st := []) ok_Mod_look wd_1488 cl_51 cv_51 rfl ⟨by decide, by decide⟩ ⟨Nat.zero_le _, Nat.zero_le _⟩ (c_Mod_look X N h26) rfl rfl (Nat.le_of_ble_eq_true rfl) dX12_readParish_223 (fun x35 h36 => ?_)
                  refine ro_bipush (v := 59) (pc := 226) dX12_readParish_226 (by decide) ?_
                  refine ro_icmp_ne (tgt := 235) (pc := 228) dX12_readParish_228 (by decide) (fun _ => ?_) (fun _ => ?_)
                  · skip
                    exact hj33 h36
                  · skip
                    refine ro_iconst (v := 1) (pc := 231) dX12_readParish_231 (by decide) ?_
                    refine ro_goto (tgt := 236) (pc := 232) dX12_readParish_232 (by decide) ?_
                    exact hj27 (1, h36)
          · skip
            refine ro_jn (pcj := 102) (lvs := fun (s : Unit) => [(0, .ref (xa X 51)), (1, .int x18), (3, .int x21)]) (hs := fun (s : Unit) => h22) (sts := fun (s : Unit) => []) (fun s => ?_) (fun j38 hj38 => ?_)
            · try dsimp only
              refine ro_iload_n (pc := 102) 2 dX12_readParish_102 rfl rfl ?_
              refine ro_bipush (v := 114) (pc := 103) dX12_readParish_103 (by decide) ?_
              refine ro_jn (pcj := 156) (lvs := fun (s : Unit) => [(0, .ref (xa X 51)), (1, .int x18), (3, .int x21)]) (hs := fun (s : Unit) => h22) (sts := fun (s : Unit) => []) (fun s => ?_) (fun j39 hj39 => ?_)
              · try dsimp only
                refine ro_iload_n (pc := 156) 2 dX12_readParish_156 rfl rfl ?_
                refine ro_bipush (v := 104) (pc := 157) dX12_readParish_157 (by decide) ?_
                refine ro_jn (pcj := 210) (lvs := fun (s : Unit) => [(0, .ref (xa X 51)), (1, .int x18)]) (hs := fun (s : Unit) => h22) (sts := fun (s : Unit) => []) (fun s => ?_) (fun j40 hj40 => ?_)
                · try dsimp only
                  refine ro_aload_n (pc := 210) 0 dX12_readParish_210 rfl rfl ?_
                  refine ro_cvV (pc := 211) (kc := 1) (avs := []) (st := []) ok_Mod_bad wd_1519 cl_51 cv_51 rfl ⟨by decide, by decide⟩ ⟨Nat.zero_le _, Nat.zero_le _⟩ (c_Mod_bad X N h22) rfl rfl (Nat.le_of_ble_eq_true rfl) dX12_readParish_211 (fun h41 => ?_)
                  exact hj24 (x18, h41)
                · skip
                  refine ro_icmp_ne (tgt := 210) (pc := 159) dX12_readParish_159 (by decide) (fun _ => ?_) (fun _ => ?_)
                  · skip
                    refine ro_lv [0, 1] rfl ?_
                    exact hj40 ()
                  · skip
                    refine ro_aload_n (pc := 162) 0 dX12_readParish_162 rfl rfl ?_
                    refine gf_X12_21 (pc := 163) wd_1343 dX12_readParish_163 ?_
                    refine ro_bipush (v := 6) (pc := 166) dX12_readParish_166 (by decide) ?_
                    refine ro_icmp_ge (tgt := 210) (pc := 168) dX12_readParish_168 (by decide) (fun _ => ?_) (fun _ => ?_)
                    · skip
                      refine ro_lv [0, 1] rfl ?_
                      exact hj40 ()
                    · skip
                      refine ro_aload_n (pc := 171) 0 dX12_readParish_171 rfl rfl ?_
                      refine ro_dup (pc := 172) dX12_readParish_172 rfl ?_
                      refine gf_X12_3 (pc := 173) wd_1325 dX12_readParish_173 ?_
                      refine ro_iconst (v := 1) (pc := 176) dX12_readParish_176 (by decide) ?_
                      refine ro_iadd (pc := 177) dX12_readParish_177 ?_
                      refine pf_X12_3 (pc := 178) wd_1325 dX12_readParish_178 ?_
                      refine ro_bnh (fun h42 => ?_)
                      refine ro_aload_n (pc := 181) 0 dX12_readParish_181 rfl rfl ?_
                      refine ro_iload_n (pc := 182) 2 dX12_readParish_182 rfl rfl ?_
                      refine ro_aload_n (pc := 183) 0 dX12_readParish_183 rfl rfl ?_
                      refine gf_X12_19 (pc := 184) wd_1341 dX12_readParish_184 ?_
                      refine ro_iconst (v := 3) (pc := 187) dX12_readParish_187 (by decide) ?_
                      refine ro_aload_n (pc := 188) 0 dX12_readParish_188 rfl rfl ?_
                      refine gf_X12_21 (pc := 189) wd_1343 dX12_readParish_189 ?_
                      refine ro_imul (pc := 192) dX12_readParish_192 ?_
                      refine ro_iconst (v := 3) (pc := 193) dX12_readParish_193 (by decide) ?_
                      refine ro_cvV (pc := 194) (kc := 4) (avs := [.int x21, .ref (xa X 64), .int (3 * (h42.1 51 21)), .int 3]) (st := []) ok_Mod_items wd_1496 cl_51 cv_51 rfl ⟨by decide, by decide⟩ ⟨Nat.zero_le _, Nat.zero_le _⟩ (c_Mod_items X N h42 x21 64 18 cl_64 cv_64 (3 * (h42.1 51 21)) 3) rfl rfl (Nat.le_of_ble_eq_true rfl) dX12_readParish_194 (fun h43 => ?_)
                      refine ro_aload_n (pc := 197) 0 dX12_readParish_197 rfl rfl ?_
                      refine ro_dup (pc := 198) dX12_readParish_198 rfl ?_
                      refine gf_X12_21 (pc := 199) wd_1343 dX12_readParish_199 ?_
                      refine ro_iconst (v := 1) (pc := 202) dX12_readParish_202 (by decide) ?_
                      refine ro_iadd (pc := 203) dX12_readParish_203 ?_
                      refine pf_X12_21 (pc := 204) wd_1343 dX12_readParish_204 ?_
                      refine ro_bnh (fun h44 => ?_)
                      refine ro_goto (tgt := 214) (pc := 207) dX12_readParish_207 (by decide) ?_
                      refine ro_lv [0, 1] rfl ?_
                      exact hj24 (x18, h44)
              · skip
                refine ro_icmp_ne (tgt := 156) (pc := 105) dX12_readParish_105 (by decide) (fun _ => ?_) (fun _ => ?_)
                · skip
                  exact hj39 ()
                · skip
                  refine ro_aload_n (pc := 108) 0 dX12_readParish_108 rfl rfl ?_
                  refine gf_X12_20 (pc := 109) wd_1342 dX12_readParish_109 ?_
                  refine ro_bipush (v := 9) (pc := 112) dX12_readParish_112 (by decide) ?_
                  refine ro_icmp_ge (tgt := 156) (pc := 114) dX12_readParish_114 (by decide) (fun _ => ?_) (fun _ => ?_)
                  · skip
                    exact hj39 ()
                  · skip
                    refine ro_aload_n (pc := 117) 0 dX12_readParish_117 rfl rfl ?_
                    refine ro_dup (pc := 118) dX12_readParish_118 rfl ?_
                    refine gf_X12_3 (pc := 119) wd_1325 dX12_readParish_119 ?_
                    refine ro_iconst (v := 1) (pc := 122) dX12_readParish_122 (by decide) ?_
                    refine ro_iadd (pc := 123) dX12_readParish_123 ?_
                    refine pf_X12_3 (pc := 124) wd_1325 dX12_readParish_124 ?_
                    refine ro_bnh (fun h45 => ?_)
                    refine ro_aload_n (pc := 127) 0 dX12_readParish_127 rfl rfl ?_
                    refine ro_iload_n (pc := 128) 2 dX12_readParish_128 rfl rfl ?_
                    refine ro_aload_n (pc := 129) 0 dX12_readParish_129 rfl rfl ?_
                    refine gf_X12_18 (pc := 130) wd_1340 dX12_readParish_130 ?_
                    refine ro_iconst (v := 5) (pc := 133) dX12_readParish_133 (by decide) ?_
                    refine ro_aload_n (pc := 134) 0 dX12_readParish_134 rfl rfl ?_
                    refine gf_X12_20 (pc := 135) wd_1342 dX12_readParish_135 ?_
                    refine ro_imul (pc := 138) dX12_readParish_138 ?_
                    refine ro_iconst (v := 5) (pc := 139) dX12_readParish_139 (by decide) ?_
                    refine ro_cvV (pc := 140) (kc := 4) (avs := [.int x21, .ref (xa X 63), .int (5 * (h45.1 51 20)), .int 5]) (st := []) ok_Mod_items wd_1496 cl_51 cv_51 rfl ⟨by decide, by decide⟩ ⟨Nat.zero_le _, Nat.zero_le _⟩ (c_Mod_items X N h45 x21 63 45 cl_63 cv_63 (5 * (h45.1 51 20)) 5) rfl rfl (Nat.le_of_ble_eq_true rfl) dX12_readParish_140 (fun h46 => ?_)
                    refine ro_aload_n (pc := 143) 0 dX12_readParish_143 rfl rfl ?_
                    refine ro_dup (pc := 144) dX12_readParish_144 rfl ?_
                    refine gf_X12_20 (pc := 145) wd_1342 dX12_readParish_145 ?_
                    refine ro_iconst (v := 1) (pc := 148) dX12_readParish_148 (by decide) ?_
                    refine ro_iadd (pc := 149) dX12_readParish_149 ?_
                    refine pf_X12_20 (pc := 150) wd_1342 dX12_readParish_150 ?_
                    refine ro_bnh (fun h47 => ?_)
                    refine ro_goto (tgt := 214) (pc := 153) dX12_readParish_153 (by decide) ?_
                    refine ro_lv [0, 1] rfl ?_
                    exact hj24 (x18, h47)
            · skip
              refine ro_icmp_ne (tgt := 102) (pc := 69) dX12_readParish_69 (by decide) (fun _ => ?_) (fun _ => ?_)
              · skip
                refine ro_lv [1, 2, 0] rfl ?_
                exact hj38 ()
              · skip
                refine ro_iload_n (pc := 72) 2 dX12_readParish_72 rfl rfl ?_
                refine ro_if_ne (tgt := 102) (pc := 73) dX12_readParish_73 (by decide) (fun _ => ?_) (fun _ => ?_)
                · skip
                  refine ro_lv [1, 2, 0] rfl ?_
                  exact hj38 ()
                · skip
                  refine ro_iconst (v := 1) (pc := 76) dX12_readParish_76 (by decide) ?_
                  refine ro_istore_n (pc := 77) (lv' := [(1, .int 1), (3, .int x21), (0, .ref (xa X 51)), (2, .int x19)]) dX12_readParish_77 rfl (by decide) rfl ?_
                  refine ro_aload_n (pc := 78) 2 dX12_readParish_78 rfl rfl ?_
                  refine ro_dup (pc := 79) dX12_readParish_79 rfl ?_
                  refine gf_X12_3 (pc := 80) wd_1325 dX12_readParish_80 ?_
                  refine ro_iconst (v := 1) (pc := 83) dX12_readParish_83 (by decide) ?_
                  refine ro_iadd (pc := 84) dX12_readParish_84 ?_
                  refine pf_X12_3 (pc := 85) wd_1325 dX12_readParish_85 ?_
                  refine ro_bnh (fun h48 => ?_)
                  refine ro_aload_n (pc := 88) 2 dX12_readParish_88 rfl rfl ?_
                  refine ro_iload_n (pc := 89) 1 dX12_readParish_89 rfl rfl ?_
                  refine ro_aload_n (pc := 90) 2 dX12_readParish_90 rfl rfl ?_
                  refine gf_X12_17 (pc := 91) wd_1339 dX12_readParish_91 ?_
                  refine ro_iconst (v := 0) (pc := 94) dX12_readParish_94 (by decide) ?_
                  refine ro_iconst (v := 3) (pc := 95) dX12_readParish_95 (by decide) ?_
                  refine ro_cvV (pc := 96) (kc := 4) (avs := [.int x21, .ref (xa X 62), .int 0, .int 3]) (st := []) ok_Mod_items wd_1496 cl_51 cv_51 rfl ⟨by decide, by decide⟩ ⟨Nat.zero_le _, Nat.zero_le _⟩ (c_Mod_items X N h48 x21 62 3 cl_62 cv_62 0 3) rfl rfl (Nat.le_of_ble_eq_true rfl) dX12_readParish_96 (fun h49 => ?_)
                  refine ro_goto (tgt := 214) (pc := 99) dX12_readParish_99 (by decide) ?_
                  refine ro_lv [2, 0] rfl ?_
                  exact hj24 (1, h49)
  · skip
    refine ro_lv [2, 1, 0] rfl ?_
    refine ro_lp (pc := 24) (lvs := fun (s : Int32 × mu_H) => [(0, .ref (xa X 51)), (1, .int 0), (2, .int s.1)]) (hs := fun (s : Int32 × mu_H) => s.2) (fun rec50 hrec50 s => ?_) N (0, h4)
    obtain ⟨x51, h52⟩ := s; unfold f_Mod_readParish_L24; try dsimp only
    refine ro_iload_n (pc := 24) 2 dX12_readParish_24 rfl rfl ?_
    refine ro_iconst (v := 3) (pc := 25) dX12_readParish_25 (by decide) ?_
    refine ro_icmp_ge (tgt := 47) (pc := 26) dX12_readParish_26 (by decide) (fun _ => ?_) (fun _ => ?_)
    · skip
      refine ro_lv [0, 1] rfl ?_
      exact hk5 h52
    · skip
      refine ro_aload_n (pc := 29) 0 dX12_readParish_29 rfl rfl ?_
      refine gf_X12_17 (pc := 30) wd_1339 dX12_readParish_30 ?_
      refine ro_iload_n (pc := 33) 2 dX12_readParish_33 rfl rfl ?_
      refine ro_bipush (v := 115) (pc := 34) dX12_readParish_34 (by decide) ?_
      refine ro_iload_n (pc := 36) 2 dX12_readParish_36 rfl rfl ?_
      refine ro_csP (pc := 37) (kc := 1) (avs := [.int 115, .int x51]) (st := [.int x51, .ref (xa X 62)]) ok_Mod_usual wd_1485 ⟨by decide, by decide⟩ ⟨Nat.zero_le _, Nat.zero_le _⟩ (c_Mod_usual X N h52 115 x51) rfl rfl (Nat.le_of_ble_eq_true rfl) dX12_readParish_37 (fun x53 => ?_)
      refine ro_iast (pc := 40) (n := 3) cl_62 cv_62 dX12_readParish_40 ?_
      refine ro_bnh (fun h54 => ?_)
      refine ro_iinc (pc := 41) (v := x51 + 1) (lv' := [(2, .int (x51 + 1)), (0, .ref (xa X 51)), (1, .int 0)]) 2 dX12_readParish_41 rfl rfl (by decide) rfl ?_
      refine ro_goto (tgt := 24) (pc := 44) dX12_readParish_44 (by decide) ?_
      refine ro_lv [1, 2, 0] rfl ?_
      exact hrec50 (x51 + 1, h54)
theorem c_Mod_readParish (X : mu_X) (N : Nat) (h : mu_H) : ∀ r, f_Mod_readParish N h = some r → mI X m_Mod_readParish 5 [.ref (xa X 51)] h r.1 r.2 := fun r hr => mI_of (by decide) rfl (Nat.le_of_ble_eq_true rfl) rfl (cb_Mod_readParish X N h r hr)
set_option maxRecDepth 20000 in
theorem cb_Mod_open (X : mu_X) (N : Nat) (h : mu_H) (a1 : Int32) : aG X m_Mod_open (rmk 1) (fun _ => ax X) (fun _ _ _ => True) 0 0 (fun r : mu_H => qV X r) (f_Mod_open N h a1) 0 [(0, .ref (xa X 51)), (1, .int a1)] [] h := by
  unfold f_Mod_open
  refine ro_aload_n (pc := 0) 0 dX12_open_0 rfl rfl ?_
  refine ro_iload_n (pc := 1) 1 dX12_open_1 rfl rfl ?_
  refine pf_X12_14 (pc := 2) wd_1336 dX12_open_2 ?_
  refine ro_bnh (fun h1 => ?_)
  refine ro_aload_n (pc := 5) 0 dX12_open_5 rfl rfl ?_
  refine ro_iconst (v := 0) (pc := 6) dX12_open_6 (by decide) ?_
  refine pf_X12_3 (pc := 7) wd_1325 dX12_open_7 ?_
  refine ro_bnh (fun h2 => ?_)
  refine ro_aload_n (pc := 10) 0 dX12_open_10 rfl rfl ?_
  refine ro_iconst (v := (-1)) (pc := 11) dX12_open_11 (by decide) ?_
  refine pf_X12_4 (pc := 12) wd_1326 dX12_open_12 ?_
  refine ro_bnh (fun h3 => ?_)
  refine ro_aload_n (pc := 15) 0 dX12_open_15 rfl rfl ?_
  refine ro_iconst (v := 0) (pc := 16) dX12_open_16 (by decide) ?_
  refine pf_X12_5 (pc := 17) wd_1327 dX12_open_17 ?_
  refine ro_bnh (fun h4 => ?_)
  refine ro_aload_n (pc := 20) 0 dX12_open_20 rfl rfl ?_
  refine gf_X12_8 (pc := 21) wd_1330 dX12_open_21 ?_
  refine ro_iload_n (pc := 24) 1 dX12_open_24 rfl rfl ?_
  refine ro_iconst (v := 0) (pc := 25) dX12_open_25 (by decide) ?_
  refine ro_iast (pc := 26) (n := 5) cl_55 cv_55 dX12_open_26 ?_
  refine ro_bnh (fun h5 => ?_)
  refine ro_aload_n (pc := 27) 0 dX12_open_27 rfl rfl ?_
  refine gf_X12_9 (pc := 28) wd_1331 dX12_open_28 ?_
  refine ro_iload_n (pc := 31) 1 dX12_open_31 rfl rfl ?_
  refine ro_iconst (v := 0) (pc := 32) dX12_open_32 (by decide) ?_
  refine ro_iast (pc := 33) (n := 5) cl_56 cv_56 dX12_open_33 ?_
  refine ro_bnh (fun h6 => ?_)
  exact ro_vret (pc := 34) rfl rfl dX12_open_34
theorem c_Mod_open (X : mu_X) (N : Nat) (h : mu_H) (a1 : Int32) : ∀ r, f_Mod_open N h a1 = some r → mV X m_Mod_open 1 [.ref (xa X 51), .int a1] h r := fun r hr => mV_of (by decide) rfl (Nat.le_of_ble_eq_true rfl) rfl (cb_Mod_open X N h a1 r hr)
set_option maxRecDepth 20000 in
theorem cb_Mod_readLaw (X : mu_X) (N : Nat) (h : mu_H) (a1 : Int32) : aG X m_Mod_readLaw (rmk 79) (fun _ => ax X) (fun _ _ _ => True) 0 0 (fun r : Int32 × mu_H => qI X r.1 r.2) (f_Mod_readLaw N h a1) 0 [(0, .ref (xa X 51)), (1, .int a1)] [] h := by
  unfold f_Mod_readLaw
  refine ro_aload_n (pc := 0) 0 dX12_readLaw_0 rfl rfl ?_
  refine ro_iload_n (pc := 1) 1 dX12_readLaw_1 rfl rfl ?_
  refine ro_cvV (pc := 2) (kc := 1) (avs := [.int a1]) (st := []) ok_Mod_open wd_1534 cl_51 cv_51 rfl ⟨by decide, by decide⟩ ⟨Nat.zero_le _, Nat.zero_le _⟩ (c_Mod_open X N h a1) rfl rfl (Nat.le_of_ble_eq_true rfl) dX12_readLaw_2 (fun h1 => ?_)
  refine ro_aload_n (pc := 5) 0 dX12_readLaw_5 rfl rfl ?_
  refine ro_cvV (pc := 6) (kc := 78) (avs := []) (st := []) ok_Mod_clause wd_1538 cl_51 cv_51 rfl ⟨by decide, by decide⟩ ⟨Nat.zero_le _, Nat.zero_le _⟩ (c_Mod_clause X N h1) rfl rfl (Nat.le_of_ble_eq_true rfl) dX12_readLaw_6 (fun h2 => ?_)
  refine ro_jn (pcj := 43) (lvs := fun (s : mu_H) => [(0, .ref (xa X 51))]) (hs := fun (s : mu_H) => s) (sts := fun (s : mu_H) => []) (fun h4 => ?_) (fun k3 hk3 => ?_)
  · try dsimp only
    refine ro_aload_n (pc := 43) 0 dX12_readLaw_43 rfl rfl ?_
    refine ro_cvI (pc := 44) (kc := 3) (avs := []) (st := []) ok_Mod_atEnd wd_1596 cl_51 cv_51 rfl ⟨by decide, by decide⟩ ⟨Nat.zero_le _, Nat.zero_le _⟩ (c_Mod_atEnd X N h4) rfl rfl (Nat.le_of_ble_eq_true rfl) dX12_readLaw_44 (fun x5 h6 => ?_)
    exact ro_iret (pc := 47) rfl rfl dX12_readLaw_47
  · skip
    refine ro_lv [0] rfl ?_
    refine ro_lp (pc := 9) (lvs := fun (s : mu_H) => [(0, .ref (xa X 51))]) (hs := fun (s : mu_H) => s) (fun rec8 hrec8 h9 => ?_) N h2
    unfold f_Mod_readLaw_L9; try dsimp only
    refine ro_aload_n (pc := 9) 0 dX12_readLaw_9 rfl rfl ?_
    refine gf_X12_4 (pc := 10) wd_1326 dX12_readLaw_10 ?_
    refine ro_iconst (v := (-1)) (pc := 13) dX12_readLaw_13 (by decide) ?_
    refine ro_icmp_ne (tgt := 43) (pc := 14) dX12_readLaw_14 (by decide) (fun _ => ?_) (fun _ => ?_)
    · skip
      exact hk3 h9
    · skip
      refine ro_aload_n (pc := 17) 0 dX12_readLaw_17 rfl rfl ?_
      refine ro_cvI (pc := 18) (kc := 2) (avs := []) (st := []) ok_Mod_look wd_1488 cl_51 cv_51 rfl ⟨by decide, by decide⟩ ⟨Nat.zero_le _, Nat.zero_le _⟩ (c_Mod_look X N h9) rfl rfl (Nat.le_of_ble_eq_true rfl) dX12_readLaw_18 (fun x10 h11 => ?_)
      refine ro_bipush (v := 59) (pc := 21) dX12_readLaw_21 (by decide) ?_
      refine ro_icmp_ne (tgt := 43) (pc := 23) dX12_readLaw_23 (by decide) (fun _ => ?_) (fun _ => ?_)
      · skip
        exact hk3 h11
      · skip
        refine ro_aload_n (pc := 26) 0 dX12_readLaw_26 rfl rfl ?_
        refine ro_dup (pc := 27) dX12_readLaw_27 rfl ?_
        refine gf_X12_3 (pc := 28) wd_1325 dX12_readLaw_28 ?_
        refine ro_iconst (v := 1) (pc := 31) dX12_readLaw_31 (by decide) ?_
        refine ro_iadd (pc := 32) dX12_readLaw_32 ?_
        refine pf_X12_3 (pc := 33) wd_1325 dX12_readLaw_33 ?_
        refine ro_bnh (fun h13 => ?_)
        refine ro_aload_n (pc := 36) 0 dX12_readLaw_36 rfl rfl ?_
        refine ro_cvV (pc := 37) (kc := 78) (avs := []) (st := []) ok_Mod_clause wd_1538 cl_51 cv_51 rfl ⟨by decide, by decide⟩ ⟨Nat.zero_le _, Nat.zero_le _⟩ (c_Mod_clause X N h13) rfl rfl (Nat.le_of_ble_eq_true rfl) dX12_readLaw_37 (fun h14 => ?_)
        refine ro_goto (tgt := 9) (pc := 40) dX12_readLaw_40 (by decide) ?_
        exact hrec8 h14
theorem c_Mod_readLaw (X : mu_X) (N : Nat) (h : mu_H) (a1 : Int32) : ∀ r, f_Mod_readLaw N h a1 = some r → mI X m_Mod_readLaw 79 [.ref (xa X 51), .int a1] h r.1 r.2 := fun r hr => mI_of (by decide) rfl (Nat.le_of_ble_eq_true rfl) rfl (cb_Mod_readLaw X N h a1 r hr)
set_option maxRecDepth 20000 in
theorem cb_Mod_fault (X : mu_X) (N : Nat) (h : mu_H) (a1 : Int32) : aG X m_Mod_fault (rmk 80) (fun _ => ax X) (fun _ _ _ => True) 0 0 (fun r : Int32 × mu_H => qI X r.1 r.2) (f_Mod_fault N h a1) 0 [(0, .ref (xa X 51)), (1, .int a1)] [] h := by
  unfold f_Mod_fault
  refine ro_iload_n (pc := 0) 1 dX12_fault_0 rfl rfl ?_
  refine ro_if_ne (tgt := 11) (pc := 1) dX12_fault_1 (by decide) (fun _ => ?_) (fun _ => ?_)
  · skip
    refine ro_iload_n (pc := 11) 1 dX12_fault_11 rfl rfl ?_
    refine ro_iconst (v := 1) (pc := 12) dX12_fault_12 (by decide) ?_
    refine ro_icmp_ne (tgt := 24) (pc := 13) dX12_fault_13 (by decide) (fun _ => ?_) (fun _ => ?_)
    · skip
      refine ro_bipush (v := (-2)) (pc := 24) dX12_fault_24 (by decide) ?_
      exact ro_iret (pc := 26) rfl rfl dX12_fault_26
    · skip
      refine ro_aload_n (pc := 16) 0 dX12_fault_16 rfl rfl ?_
      refine ro_iconst (v := 4) (pc := 17) dX12_fault_17 (by decide) ?_
      refine ro_cvI (pc := 18) (kc := 79) (avs := [.int 4]) (st := []) ok_Mod_readLaw wd_1530 cl_51 cv_51 rfl ⟨by decide, by decide⟩ ⟨Nat.zero_le _, Nat.zero_le _⟩ (c_Mod_readLaw X N h 4) rfl rfl (Nat.le_of_ble_eq_true rfl) dX12_fault_18 (fun x1 h2 => ?_)
      refine ro_goto (tgt := 26) (pc := 21) dX12_fault_21 (by decide) ?_
      exact ro_iret (pc := 26) rfl rfl dX12_fault_26
  · skip
    refine ro_aload_n (pc := 4) 0 dX12_fault_4 rfl rfl ?_
    refine ro_cvI (pc := 5) (kc := 5) (avs := []) (st := []) ok_Mod_readParish wd_1481 cl_51 cv_51 rfl ⟨by decide, by decide⟩ ⟨Nat.zero_le _, Nat.zero_le _⟩ (c_Mod_readParish X N h) rfl rfl (Nat.le_of_ble_eq_true rfl) dX12_fault_5 (fun x4 h5 => ?_)
    refine ro_goto (tgt := 26) (pc := 8) dX12_fault_8 (by decide) ?_
    exact ro_iret (pc := 26) rfl rfl dX12_fault_26
theorem c_Mod_fault (X : mu_X) (N : Nat) (h : mu_H) (a1 : Int32) : ∀ r, f_Mod_fault N h a1 = some r → mI X m_Mod_fault 80 [.ref (xa X 51), .int a1] h r.1 r.2 := fun r hr => mI_of (by decide) rfl (Nat.le_of_ble_eq_true rfl) rfl (cb_Mod_fault X N h a1 r hr)
set_option maxRecDepth 20000 in
theorem cb_Mod_feed (X : mu_X) (N : Nat) (h : mu_H) (a1 : Int32) (a2 : Int32) (a3 : Int32) (a4 : Int32) (a5 : Int32) : aG X m_Mod_feed (rmk 2) (fun _ => ax X) (fun _ _ _ => True) 0 0 (fun r : Int32 × mu_H => qI X r.1 r.2) (f_Mod_feed N h a1 a2 a3 a4 a5) 0 [(0, .ref (xa X 51)), (1, .int a1), (2, .int a2), (3, .int a3), (4, .int a4), (5, .int a5)] [] h := by
  unfold f_Mod_feed
  refine ro_iconst (v := 0) (pc := 0) dX12_feed_0 (by decide) ?_
  refine ro_istore (pc := 1) (lv' := [(6, .int 0), (0, .ref (xa X 51)), (1, .int a1), (2, .int a2), (3, .int a3), (4, .int a4), (5, .int a5)]) dX12_feed_1 (by decide) rfl ?_
  refine ro_iconst (v := 0) (pc := 3) dX12_feed_3 (by decide) ?_
  refine ro_istore (pc := 4) (lv' := [(7, .int 0), (6, .int 0), (0, .ref (xa X 51)), (1, .int a1), (2, .int a2), (3, .int a3), (4, .int a4), (5, .int a5)]) dX12_feed_4 (by decide) rfl ?_
  refine ro_jn (pcj := 44) (lvs := fun (s : Int32) => [(0, .ref (xa X 51)), (1, .int a1), (2, .int a2), (3, .int a3), (4, .int a4), (5, .int a5), (6, .int s)]) (hs := fun (s : Int32) => h) (sts := fun (s : Int32) => []) (fun x2 => ?_) (fun k1 hk1 => ?_)
  · try dsimp only
    refine ro_aload_n (pc := 44) 0 dX12_feed_44 rfl rfl ?_
    refine gf_X12_2 (pc := 45) wd_1324 dX12_feed_45 ?_
    refine ro_iload (pc := 48) 6 dX12_feed_48 rfl ?_
    refine ro_iadd (pc := 50) dX12_feed_50 ?_
    refine ro_sipush (v := 240) (pc := 51) dX12_feed_51 (by decide) ?_
    refine ro_icmp_le (tgt := 59) (pc := 54) dX12_feed_54 (by decide) (fun _ => ?_) (fun _ => ?_)
    · skip
      refine ro_iconst (v := 0) (pc := 59) dX12_feed_59 (by decide) ?_
      refine ro_istore (pc := 60) (lv' := [(7, .int 0), (0, .ref (xa X 51)), (1, .int a1), (2, .int a2), (3, .int a3), (4, .int a4), (5, .int a5), (6, .int x2)]) dX12_feed_60 (by decide) rfl ?_
      refine ro_jn (pcj := 115) (lvs := fun (s : mu_H) => [(0, .ref (xa X 51))]) (hs := fun (s : mu_H) => s) (sts := fun (s : mu_H) => []) (fun h4 => ?_) (fun k3 hk3 => ?_)
      · try dsimp only
        refine ro_aload_n (pc := 115) 0 dX12_feed_115 rfl rfl ?_
        refine gf_X12_2 (pc := 116) wd_1324 dX12_feed_116 ?_
        exact ro_iret (pc := 119) rfl rfl dX12_feed_119
      · skip
        refine ro_lv [1, 2, 3, 4, 5, 6, 0] rfl ?_
        refine ro_lp (pc := 62) (lvs := fun (s : Int32 × mu_H) => [(0, .ref (xa X 51)), (1, .int a1), (2, .int a2), (3, .int a3), (4, .int a4), (5, .int a5), (7, .int s.1)]) (hs := fun (s : Int32 × mu_H) => s.2) (fun rec5 hrec5 s => ?_) N (0, h)
        obtain ⟨x6, h7⟩ := s; unfold f_Mod_feed_L62; try dsimp only
        refine ro_iload (pc := 62) 6 dX12_feed_62 rfl ?_
        refine ro_bipush (v := 20) (pc := 64) dX12_feed_64 (by decide) ?_
        refine ro_icmp_ge (tgt := 115) (pc := 66) dX12_feed_66 (by decide) (fun _ => ?_) (fun _ => ?_)
        · skip
          refine ro_lv [0] rfl ?_
          exact hk3 h7
        · skip
          refine ro_iload_n (pc := 69) 1 dX12_feed_69 rfl rfl ?_
          refine ro_iload_n (pc := 70) 2 dX12_feed_70 rfl rfl ?_
          refine ro_iload_n (pc := 71) 3 dX12_feed_71 rfl rfl ?_
          refine ro_iload (pc := 72) 4 dX12_feed_72 rfl ?_
          refine ro_iload (pc := 74) 5 dX12_feed_74 rfl ?_
          refine ro_iload (pc := 76) 6 dX12_feed_76 rfl ?_
          refine ro_csP (pc := 78) (kc := 1) (avs := [.int a1, .int a2, .int a3, .int a4, .int a5, .int x6]) (st := []) ok_Mod_byteOf wd_1470 ⟨by decide, by decide⟩ ⟨Nat.zero_le _, Nat.zero_le _⟩ (c_Mod_byteOf X N h7 a1 a2 a3 a4 a5 x6) rfl rfl (Nat.le_of_ble_eq_true rfl) dX12_feed_78 (fun x8 => ?_)
          refine ro_istore (pc := 81) (lv' := [(8, .int x8), (0, .ref (xa X 51)), (1, .int a1), (2, .int a2), (3, .int a3), (4, .int a4), (5, .int a5), (7, .int x6)]) dX12_feed_81 (by decide) rfl ?_
          refine ro_iload (pc := 83) 0 dX12_feed_83 rfl ?_
          refine ro_jn (pcj := 109) (lvs := fun (s : mu_H) => [(0, .ref (xa X 51)), (1, .int a1), (2, .int a2), (3, .int a3), (4, .int a4), (5, .int a5), (7, .int x6)]) (hs := fun (s : mu_H) => s) (sts := fun (s : mu_H) => []) (fun h10 => ?_) (fun j9 hj9 => ?_)
          · try dsimp only
            refine ro_iinc (pc := 109) (v := x6 + 1) (lv' := [(7, .int (x6 + 1)), (0, .ref (xa X 51)), (1, .int a1), (2, .int a2), (3, .int a3), (4, .int a4), (5, .int a5)]) 6 dX12_feed_109 rfl rfl (by decide) rfl ?_
            refine ro_goto (tgt := 62) (pc := 112) dX12_feed_112 (by decide) ?_
            refine ro_lv [1, 2, 3, 4, 5, 6, 0] rfl ?_
            exact hrec5 (x6 + 1, h10)
          · skip
            refine ro_if_eq (tgt := 109) (pc := 85) dX12_feed_85 (by decide) (fun _ => ?_) (fun _ => ?_)
            · skip
              refine ro_lv [1, 2, 3, 4, 5, 6, 7] rfl ?_
              exact hj9 h7
            · skip
              refine ro_aload_n (pc := 88) 1 dX12_feed_88 rfl rfl ?_
              refine gf_X12_1 (pc := 89) wd_1323 dX12_feed_89 ?_
              refine ro_aload_n (pc := 92) 1 dX12_feed_92 rfl rfl ?_
              refine gf_X12_2 (pc := 93) wd_1324 dX12_feed_93 ?_
              refine ro_iload (pc := 96) 0 dX12_feed_96 rfl ?_
              refine ro_iast (pc := 98) (n := 240) cl_52 cv_52 dX12_feed_98 ?_
              refine ro_bnh (fun h11 => ?_)
              refine ro_aload_n (pc := 99) 1 dX12_feed_99 rfl rfl ?_
              refine ro_dup (pc := 100) dX12_feed_100 rfl ?_
              refine gf_X12_2 (pc := 101) wd_1324 dX12_feed_101 ?_
              refine ro_iconst (v := 1) (pc := 104) dX12_feed_104 (by decide) ?_
              refine ro_iadd (pc := 105) dX12_feed_105 ?_
              refine pf_X12_2 (pc := 106) wd_1324 dX12_feed_106 ?_
              refine ro_bnh (fun h12 => ?_)
              refine ro_lv [1, 2, 3, 4, 5, 6, 7] rfl ?_
              exact hj9 h12
    · skip
      refine ro_iconst (v := (-1)) (pc := 57) dX12_feed_57 (by decide) ?_
      exact ro_iret (pc := 58) rfl rfl dX12_feed_58
  · skip
    refine ro_lv [2, 3, 4, 5, 6, 7, 1, 0] rfl ?_
    refine ro_lp (pc := 6) (lvs := fun (s : Int32 × Int32) => [(0, .ref (xa X 51)), (1, .int a1), (2, .int a2), (3, .int a3), (4, .int a4), (5, .int a5), (6, .int s.1), (7, .int s.2)]) (hs := fun (s : Int32 × Int32) => h) (fun rec13 hrec13 s => ?_) N (0, 0)
    obtain ⟨x14, x15⟩ := s; unfold f_Mod_feed_L6; try dsimp only
    refine ro_iload (pc := 6) 7 dX12_feed_6 rfl ?_
    refine ro_bipush (v := 20) (pc := 8) dX12_feed_8 (by decide) ?_
    refine ro_icmp_ge (tgt := 44) (pc := 10) dX12_feed_10 (by decide) (fun _ => ?_) (fun _ => ?_)
    · skip
      refine ro_lv [0, 1, 2, 3, 4, 5, 6] rfl ?_
      exact hk1 x14
    · skip
      refine ro_iload (pc := 13) 6 dX12_feed_13 rfl ?_
      refine ro_iload_n (pc := 15) 1 dX12_feed_15 rfl rfl ?_
      refine ro_iload_n (pc := 16) 2 dX12_feed_16 rfl rfl ?_
      refine ro_iload_n (pc := 17) 3 dX12_feed_17 rfl rfl ?_
      refine ro_iload (pc := 18) 4 dX12_feed_18 rfl ?_
      refine ro_iload (pc := 20) 5 dX12_feed_20 rfl ?_
      refine ro_iload (pc := 22) 7 dX12_feed_22 rfl ?_
      refine ro_csP (pc := 24) (kc := 1) (avs := [.int a1, .int a2, .int a3, .int a4, .int a5, .int x15]) (st := [.int x14]) ok_Mod_byteOf wd_1470 ⟨by decide, by decide⟩ ⟨Nat.zero_le _, Nat.zero_le _⟩ (c_Mod_byteOf X N h a1 a2 a3 a4 a5 x15) rfl rfl (Nat.le_of_ble_eq_true rfl) dX12_feed_24 (fun x16 => ?_)
      refine ro_jn (pcj := 35) (lvs := fun (s : Int32) => [(0, .ref (xa X 51)), (1, .int a1), (2, .int a2), (3, .int a3), (4, .int a4), (5, .int a5), (7, .int x15)]) (hs := fun (s : Int32) => h) (sts := fun (s : Int32) => [.int s, .int x14]) (fun x18 => ?_) (fun j17 hj17 => ?_)
      · try dsimp only
        refine ro_iadd (pc := 35) dX12_feed_35 ?_
        refine ro_bn (fun x19 => ?_)
        refine ro_istore (pc := 36) (lv' := [(6, .int x19), (0, .ref (xa X 51)), (1, .int a1), (2, .int a2), (3, .int a3), (4, .int a4), (5, .int a5), (7, .int x15)]) dX12_feed_36 (by decide) rfl ?_
        refine ro_iinc (pc := 38) (v := x15 + 1) (lv' := [(7, .int (x15 + 1)), (6, .int x19), (0, .ref (xa X 51)), (1, .int a1), (2, .int a2), (3, .int a3), (4, .int a4), (5, .int a5)]) 7 dX12_feed_38 rfl rfl (by decide) rfl ?_
        refine ro_goto (tgt := 6) (pc := 41) dX12_feed_41 (by decide) ?_
        refine ro_lv [2, 3, 4, 5, 6, 7, 1, 0] rfl ?_
        exact hrec13 (x19, x15 + 1)
      · skip
        refine ro_if_eq (tgt := 34) (pc := 27) dX12_feed_27 (by decide) (fun _ => ?_) (fun _ => ?_)
        · skip
          refine ro_iconst (v := 0) (pc := 34) dX12_feed_34 (by decide) ?_
          refine ro_lv [0, 1, 2, 3, 4, 5, 7] rfl ?_
          exact hj17 0
        · skip
          refine ro_iconst (v := 1) (pc := 30) dX12_feed_30 (by decide) ?_
          refine ro_goto (tgt := 35) (pc := 31) dX12_feed_31 (by decide) ?_
          refine ro_lv [0, 1, 2, 3, 4, 5, 7] rfl ?_
          exact hj17 1
theorem c_Mod_feed (X : mu_X) (N : Nat) (h : mu_H) (a1 : Int32) (a2 : Int32) (a3 : Int32) (a4 : Int32) (a5 : Int32) : ∀ r, f_Mod_feed N h a1 a2 a3 a4 a5 = some r → mI X m_Mod_feed 2 [.ref (xa X 51), .int a1, .int a2, .int a3, .int a4, .int a5] h r.1 r.2 := fun r hr => mI_of (by decide) rfl (Nat.le_of_ble_eq_true rfl) rfl (cb_Mod_feed X N h a1 a2 a3 a4 a5 r hr)
set_option maxRecDepth 20000 in
theorem cb_Mod_isGameKind (X : mu_X) (N : Nat) (h : mu_H) (a0 : Int32) : aG X m_Mod_isGameKind (rmk 1) (fun _ => ax X) (fun _ _ _ => True) 0 0 (fun r : Int32 => qI X r h) (f_Mod_isGameKind N h a0) 0 [(0, .int a0)] [] h := by
  unfold f_Mod_isGameKind
  refine ro_iload_n (pc := 0) 0 dX12_isGameKind_0 rfl rfl ?_
  refine ro_if_eq (tgt := 14) (pc := 1) dX12_isGameKind_1 (by decide) (fun _ => ?_) (fun _ => ?_)
  · skip
    refine ro_iconst (v := 1) (pc := 14) dX12_isGameKind_14 (by decide) ?_
    refine ro_goto (tgt := 19) (pc := 15) dX12_isGameKind_15 (by decide) ?_
    exact ro_zret (pc := 19) rfl rfl rfl dX12_isGameKind_19
  · skip
    refine ro_iload_n (pc := 4) 0 dX12_isGameKind_4 rfl rfl ?_
    refine ro_iconst (v := 1) (pc := 5) dX12_isGameKind_5 (by decide) ?_
    refine ro_icmp_eq (tgt := 14) (pc := 6) dX12_isGameKind_6 (by decide) (fun _ => ?_) (fun _ => ?_)
    · skip
      refine ro_iconst (v := 1) (pc := 14) dX12_isGameKind_14 (by decide) ?_
      refine ro_goto (tgt := 19) (pc := 15) dX12_isGameKind_15 (by decide) ?_
      exact ro_zret (pc := 19) rfl rfl rfl dX12_isGameKind_19
    · skip
      refine ro_iload_n (pc := 9) 0 dX12_isGameKind_9 rfl rfl ?_
      refine ro_iconst (v := 3) (pc := 10) dX12_isGameKind_10 (by decide) ?_
      refine ro_icmp_ne (tgt := 18) (pc := 11) dX12_isGameKind_11 (by decide) (fun _ => ?_) (fun _ => ?_)
      · skip
        refine ro_iconst (v := 0) (pc := 18) dX12_isGameKind_18 (by decide) ?_
        exact ro_zret (pc := 19) rfl rfl rfl dX12_isGameKind_19
      · skip
        refine ro_iconst (v := 1) (pc := 14) dX12_isGameKind_14 (by decide) ?_
        refine ro_goto (tgt := 19) (pc := 15) dX12_isGameKind_15 (by decide) ?_
        exact ro_zret (pc := 19) rfl rfl rfl dX12_isGameKind_19
theorem c_Mod_isGameKind (X : mu_X) (N : Nat) (h : mu_H) (a0 : Int32) : ∀ r, f_Mod_isGameKind N h a0 = some r → mI X m_Mod_isGameKind 1 [.int a0] h r h := fun r hr => mI_of (by decide) rfl (Nat.le_of_ble_eq_true rfl) rfl (cb_Mod_isGameKind X N h a0 r hr)
set_option maxRecDepth 20000 in
theorem cb_Mod_gameOf (X : mu_X) (N : Nat) (h : mu_H) (a1 : Int32) (a2 : Int32) (a3 : Int32) (a4 : Int32) (a5 : Int32) : aG X m_Mod_gameOf (rmk 8) (fun _ => ax X) (fun _ _ _ => True) 0 0 (fun r : Int32 × mu_H => qI X r.1 r.2) (f_Mod_gameOf N h a1 a2 a3 a4 a5) 0 [(0, .ref (xa X 51)), (1, .int a1), (2, .int a2), (3, .int a3), (4, .int a4), (5, .int a5)] [] h := by
  unfold f_Mod_gameOf
  refine ro_aload_n (pc := 0) 0 dX12_gameOf_0 rfl rfl ?_
  refine ro_iload_n (pc := 1) 1 dX12_gameOf_1 rfl rfl ?_
  refine ro_iload_n (pc := 2) 3 dX12_gameOf_2 rfl rfl ?_
  refine ro_iload (pc := 3) 4 dX12_gameOf_3 rfl ?_
  refine ro_cvI (pc := 5) (kc := 7) (avs := [.int a1, .int a3, .int a4]) (st := []) ok_Mod_doesNow wd_1662 cl_51 cv_51 rfl ⟨by decide, by decide⟩ ⟨Nat.zero_le _, Nat.zero_le _⟩ (c_Mod_doesNow X N h a1 a3 a4) rfl rfl (Nat.le_of_ble_eq_true rfl) dX12_gameOf_5 (fun x1 h2 => ?_)
  refine ro_aload_n (pc := 8) 0 dX12_gameOf_8 rfl rfl ?_
  refine ro_iload_n (pc := 9) 2 dX12_gameOf_9 rfl rfl ?_
  refine ro_iload_n (pc := 10) 3 dX12_gameOf_10 rfl rfl ?_
  refine ro_iload (pc := 11) 5 dX12_gameOf_11 rfl ?_
  refine ro_cvI (pc := 13) (kc := 7) (avs := [.int a2, .int a3, .int a5]) (st := [.int x1]) ok_Mod_doesNow wd_1662 cl_51 cv_51 rfl ⟨by decide, by decide⟩ ⟨Nat.zero_le _, Nat.zero_le _⟩ (c_Mod_doesNow X N h2 a2 a3 a5) rfl rfl (Nat.le_of_ble_eq_true rfl) dX12_gameOf_13 (fun x4 h5 => ?_)
  refine ro_iadd (pc := 16) dX12_gameOf_16 ?_
  refine ro_iconst (v := 2) (pc := 17) dX12_gameOf_17 (by decide) ?_
  refine ro_idiv (pc := 18) dX12_gameOf_18 (by decide) ?_
  refine ro_iload (pc := 19) 4 dX12_gameOf_19 rfl ?_
  refine ro_jn (pcj := 39) (lvs := fun (s : Int32) => []) (hs := fun (s : Int32) => h5) (sts := fun (s : Int32) => [.int s, .int ((x1 + x4) / 2)]) (fun x8 => ?_) (fun j7 hj7 => ?_)
  · try dsimp only
    refine ro_isub (pc := 39) dX12_gameOf_39 ?_
    exact ro_iret (pc := 40) rfl rfl dX12_gameOf_40
  · skip
    refine ro_if_ne (tgt := 28) (pc := 21) dX12_gameOf_21 (by decide) (fun _ => ?_) (fun _ => ?_)
    · skip
      refine ro_iload (pc := 28) 4 dX12_gameOf_28 rfl ?_
      refine ro_iconst (v := 1) (pc := 30) dX12_gameOf_30 (by decide) ?_
      refine ro_icmp_ne (tgt := 38) (pc := 31) dX12_gameOf_31 (by decide) (fun _ => ?_) (fun _ => ?_)
      · skip
        refine ro_iconst (v := 0) (pc := 38) dX12_gameOf_38 (by decide) ?_
        refine ro_lv [] rfl ?_
        exact hj7 0
      · skip
        refine ro_iconst (v := 2) (pc := 34) dX12_gameOf_34 (by decide) ?_
        refine ro_goto (tgt := 39) (pc := 35) dX12_gameOf_35 (by decide) ?_
        refine ro_lv [] rfl ?_
        exact hj7 2
    · skip
      refine ro_iconst (v := 4) (pc := 24) dX12_gameOf_24 (by decide) ?_
      refine ro_goto (tgt := 39) (pc := 25) dX12_gameOf_25 (by decide) ?_
      refine ro_lv [] rfl ?_
      exact hj7 4
theorem c_Mod_gameOf (X : mu_X) (N : Nat) (h : mu_H) (a1 : Int32) (a2 : Int32) (a3 : Int32) (a4 : Int32) (a5 : Int32) : ∀ r, f_Mod_gameOf N h a1 a2 a3 a4 a5 = some r → mI X m_Mod_gameOf 8 [.ref (xa X 51), .int a1, .int a2, .int a3, .int a4, .int a5] h r.1 r.2 := fun r hr => mI_of (by decide) rfl (Nat.le_of_ble_eq_true rfl) rfl (cb_Mod_gameOf X N h a1 a2 a3 a4 a5 r hr)
set_option maxRecDepth 20000 in
theorem cb_Mod_game (X : mu_X) (N : Nat) (h : mu_H) (a1 : Int32) (a2 : Int32) (a3 : Int32) (a4 : Int32) (a5 : Int32) (a6 : Int32) : aG X m_Mod_game (rmk 9) (fun _ => ax X) (fun _ _ _ => True) 0 0 (fun r : Int32 × mu_H => qI X r.1 r.2) (f_Mod_game N h a1 a2 a3 a4 a5 a6) 0 [(0, .ref (xa X 51)), (1, .int a1), (2, .int a2), (3, .int a3), (4, .int a4), (5, .int a5), (6, .int a6)] [] h := by
  unfold f_Mod_game
  refine ro_aload_n (pc := 0) 0 dX12_game_0 rfl rfl ?_
  refine ro_iload_n (pc := 1) 1 dX12_game_1 rfl rfl ?_
  refine ro_iload_n (pc := 2) 2 dX12_game_2 rfl rfl ?_
  refine ro_iload_n (pc := 3) 3 dX12_game_3 rfl rfl ?_
  refine ro_cvP (pc := 4) (kc := 4) (avs := [.int a1, .int a2, .int a3]) (st := []) ok_Mod_areTwo wd_1803 cl_51 cv_51 rfl ⟨by decide, by decide⟩ ⟨Nat.zero_le _, Nat.zero_le _⟩ (c_Mod_areTwo X N h a1 a2 a3) rfl rfl (Nat.le_of_ble_eq_true rfl) dX12_game_4 (fun x1 => ?_)
  refine ro_jn (pcj := 36) (lvs := fun (s : Unit) => []) (hs := fun (s : Unit) => h) (sts := fun (s : Unit) => []) (fun s => ?_) (fun j2 hj2 => ?_)
  · try dsimp only
    refine ro_ldcw (v := (-1000000)) (pc := 36) dX12_game_36 wd_1810 ?_
    exact ro_iret (pc := 39) rfl rfl dX12_game_39
  · skip
    refine ro_if_eq (tgt := 36) (pc := 7) dX12_game_7 (by decide) (fun _ => ?_) (fun _ => ?_)
    · skip
      refine ro_lv [] rfl ?_
      exact hj2 ()
    · skip
      refine ro_iload (pc := 10) 4 dX12_game_10 rfl ?_
      refine ro_csP (pc := 12) (kc := 1) (avs := [.int a4]) (st := []) ok_Mod_isGameKind wd_1807 ⟨by decide, by decide⟩ ⟨Nat.zero_le _, Nat.zero_le _⟩ (c_Mod_isGameKind X N h a4) rfl rfl (Nat.le_of_ble_eq_true rfl) dX12_game_12 (fun x3 => ?_)
      refine ro_if_eq (tgt := 36) (pc := 15) dX12_game_15 (by decide) (fun _ => ?_) (fun _ => ?_)
      · skip
        refine ro_lv [] rfl ?_
        exact hj2 ()
      · skip
        refine ro_iload (pc := 18) 5 dX12_game_18 rfl ?_
        refine ro_csP (pc := 20) (kc := 1) (avs := [.int a5]) (st := []) ok_Mod_isGameKind wd_1807 ⟨by decide, by decide⟩ ⟨Nat.zero_le _, Nat.zero_le _⟩ (c_Mod_isGameKind X N h a5) rfl rfl (Nat.le_of_ble_eq_true rfl) dX12_game_20 (fun x4 => ?_)
        refine ro_if_eq (tgt := 36) (pc := 23) dX12_game_23 (by decide) (fun _ => ?_) (fun _ => ?_)
        · skip
          refine ro_lv [] rfl ?_
          exact hj2 ()
        · skip
          refine ro_iload (pc := 26) 6 dX12_game_26 rfl ?_
          refine ro_iconst (v := 0) (pc := 28) dX12_game_28 (by decide) ?_
          refine ro_iconst (v := 1) (pc := 29) dX12_game_29 (by decide) ?_
          refine ro_csP (pc := 30) (kc := 1) (avs := [.int a6, .int 0, .int 1]) (st := []) ok_Mod_in wd_1523 ⟨by decide, by decide⟩ ⟨Nat.zero_le _, Nat.zero_le _⟩ (c_Mod_in X N h a6 0 1) rfl rfl (Nat.le_of_ble_eq_true rfl) dX12_game_30 (fun x5 => ?_)
          refine ro_if_ne (tgt := 40) (pc := 33) dX12_game_33 (by decide) (fun _ => ?_) (fun _ => ?_)
          · skip
            refine ro_iload (pc := 40) 6 dX12_game_40 rfl ?_
            refine ro_if_ne (tgt := 59) (pc := 42) dX12_game_42 (by decide) (fun _ => ?_) (fun _ => ?_)
            · skip
              refine ro_aload_n (pc := 59) 0 dX12_game_59 rfl rfl ?_
              refine ro_iload_n (pc := 60) 2 dX12_game_60 rfl rfl ?_
              refine ro_iload_n (pc := 61) 1 dX12_game_61 rfl rfl ?_
              refine ro_iload_n (pc := 62) 3 dX12_game_62 rfl rfl ?_
              refine ro_iload (pc := 63) 5 dX12_game_63 rfl ?_
              refine ro_iload (pc := 65) 4 dX12_game_65 rfl ?_
              refine ro_cvI (pc := 67) (kc := 8) (avs := [.int a2, .int a1, .int a3, .int a5, .int a4]) (st := []) ok_Mod_gameOf wd_1811 cl_51 cv_51 rfl ⟨by decide, by decide⟩ ⟨Nat.zero_le _, Nat.zero_le _⟩ (c_Mod_gameOf X N h a2 a1 a3 a5 a4) rfl rfl (Nat.le_of_ble_eq_true rfl) dX12_game_67 (fun x6 h7 => ?_)
              exact ro_iret (pc := 70) rfl rfl dX12_game_70
            · skip
              refine ro_aload_n (pc := 45) 0 dX12_game_45 rfl rfl ?_
              refine ro_iload_n (pc := 46) 1 dX12_game_46 rfl rfl ?_
              refine ro_iload_n (pc := 47) 2 dX12_game_47 rfl rfl ?_
              refine ro_iload_n (pc := 48) 3 dX12_game_48 rfl rfl ?_
              refine ro_iload (pc := 49) 4 dX12_game_49 rfl ?_
              refine ro_iload (pc := 51) 5 dX12_game_51 rfl ?_
              refine ro_cvI (pc := 53) (kc := 8) (avs := [.int a1, .int a2, .int a3, .int a4, .int a5]) (st := []) ok_Mod_gameOf wd_1811 cl_51 cv_51 rfl ⟨by decide, by decide⟩ ⟨Nat.zero_le _, Nat.zero_le _⟩ (c_Mod_gameOf X N h a1 a2 a3 a4 a5) rfl rfl (Nat.le_of_ble_eq_true rfl) dX12_game_53 (fun x9 h10 => ?_)
              refine ro_goto (tgt := 70) (pc := 56) dX12_game_56 (by decide) ?_
              exact ro_iret (pc := 70) rfl rfl dX12_game_70
          · skip
            refine ro_lv [] rfl ?_
            exact hj2 ()
theorem c_Mod_game (X : mu_X) (N : Nat) (h : mu_H) (a1 : Int32) (a2 : Int32) (a3 : Int32) (a4 : Int32) (a5 : Int32) (a6 : Int32) : ∀ r, f_Mod_game N h a1 a2 a3 a4 a5 a6 = some r → mI X m_Mod_game 9 [.ref (xa X 51), .int a1, .int a2, .int a3, .int a4, .int a5, .int a6] h r.1 r.2 := fun r hr => mI_of (by decide) rfl (Nat.le_of_ble_eq_true rfl) rfl (cb_Mod_game X N h a1 a2 a3 a4 a5 a6 r hr)
set_option maxRecDepth 20000 in
theorem cb_Mod_haul (X : mu_X) (N : Nat) (h : mu_H) (a1 : Int32) (a2 : Int32) : aG X m_Mod_haul (rmk 4) (fun _ => ax X) (fun _ _ _ => True) 0 0 (fun r : Int32 => qI X r h) (f_Mod_haul N h a1 a2) 0 [(0, .ref (xa X 51)), (1, .int a1), (2, .int a2)] [] h := by
  unfold f_Mod_haul
  refine ro_aload_n (pc := 0) 0 dX12_haul_0 rfl rfl ?_
  refine ro_iload_n (pc := 1) 1 dX12_haul_1 rfl rfl ?_
  refine ro_cvP (pc := 2) (kc := 2) (avs := [.int a1]) (st := []) ok_Mod_isHouse wd_1634 cl_51 cv_51 rfl ⟨by decide, by decide⟩ ⟨Nat.zero_le _, Nat.zero_le _⟩ (c_Mod_isHouse X N h a1) rfl rfl (Nat.le_of_ble_eq_true rfl) dX12_haul_2 (fun x1 => ?_)
  refine ro_if_eq (tgt := 34) (pc := 5) dX12_haul_5 (by decide) (fun _ => ?_) (fun _ => ?_)
  · skip
    refine ro_iconst (v := (-1)) (pc := 34) dX12_haul_34 (by decide) ?_
    exact ro_iret (pc := 35) rfl rfl dX12_haul_35
  · skip
    refine ro_aload_n (pc := 8) 0 dX12_haul_8 rfl rfl ?_
    refine ro_iload_n (pc := 9) 2 dX12_haul_9 rfl rfl ?_
    refine ro_cvP (pc := 10) (kc := 2) (avs := [.int a2]) (st := []) ok_Mod_isStretch wd_1626 cl_51 cv_51 rfl ⟨by decide, by decide⟩ ⟨Nat.zero_le _, Nat.zero_le _⟩ (c_Mod_isStretch X N h a2) rfl rfl (Nat.le_of_ble_eq_true rfl) dX12_haul_10 (fun x2 => ?_)
    refine ro_if_eq (tgt := 34) (pc := 13) dX12_haul_13 (by decide) (fun _ => ?_) (fun _ => ?_)
    · skip
      refine ro_iconst (v := (-1)) (pc := 34) dX12_haul_34 (by decide) ?_
      exact ro_iret (pc := 35) rfl rfl dX12_haul_35
    · skip
      refine ro_aload_n (pc := 16) 0 dX12_haul_16 rfl rfl ?_
      refine ro_iload_n (pc := 17) 1 dX12_haul_17 rfl rfl ?_
      refine ro_iload_n (pc := 18) 2 dX12_haul_18 rfl rfl ?_
      refine ro_cvP (pc := 19) (kc := 3) (avs := [.int a1, .int a2]) (st := []) ok_Mod_comes wd_1650 cl_51 cv_51 rfl ⟨by decide, by decide⟩ ⟨Nat.zero_le _, Nat.zero_le _⟩ (c_Mod_comes X N h a1 a2) rfl rfl (Nat.le_of_ble_eq_true rfl) dX12_haul_19 (fun x3 => ?_)
      refine ro_if_eq (tgt := 34) (pc := 22) dX12_haul_22 (by decide) (fun _ => ?_) (fun _ => ?_)
      · skip
        refine ro_iconst (v := (-1)) (pc := 34) dX12_haul_34 (by decide) ?_
        exact ro_iret (pc := 35) rfl rfl dX12_haul_35
      · skip
        refine ro_aload_n (pc := 25) 0 dX12_haul_25 rfl rfl ?_
        refine ro_iload_n (pc := 26) 1 dX12_haul_26 rfl rfl ?_
        refine ro_iload_n (pc := 27) 2 dX12_haul_27 rfl rfl ?_
        refine ro_cvP (pc := 28) (kc := 2) (avs := [.int a1, .int a2]) (st := []) ok_Mod_haulOf wd_1654 cl_51 cv_51 rfl ⟨by decide, by decide⟩ ⟨Nat.zero_le _, Nat.zero_le _⟩ (c_Mod_haulOf X N h a1 a2) rfl rfl (Nat.le_of_ble_eq_true rfl) dX12_haul_28 (fun x4 => ?_)
        refine ro_goto (tgt := 35) (pc := 31) dX12_haul_31 (by decide) ?_
        exact ro_iret (pc := 35) rfl rfl dX12_haul_35
theorem c_Mod_haul (X : mu_X) (N : Nat) (h : mu_H) (a1 : Int32) (a2 : Int32) : ∀ r, f_Mod_haul N h a1 a2 = some r → mI X m_Mod_haul 4 [.ref (xa X 51), .int a1, .int a2] h r h := fun r hr => mI_of (by decide) rfl (Nat.le_of_ble_eq_true rfl) rfl (cb_Mod_haul X N h a1 a2 r hr)
set_option maxRecDepth 20000 in
theorem cb_Mod_honest (X : mu_X) (N : Nat) (h : mu_H) (a1 : Int32) : aG X m_Mod_honest (rmk 4) (fun _ => ax X) (fun _ _ _ => True) 0 0 (fun r : Int32 => qI X r h) (f_Mod_honest N h a1) 0 [(0, .ref (xa X 51)), (1, .int a1)] [] h := by
  unfold f_Mod_honest
  refine ro_aload_n (pc := 0) 0 dX12_honest_0 rfl rfl ?_
  refine ro_iload_n (pc := 1) 1 dX12_honest_1 rfl rfl ?_
  refine ro_cvP (pc := 2) (kc := 2) (avs := [.int a1]) (st := []) ok_Mod_areFeigning wd_1855 cl_51 cv_51 rfl ⟨by decide, by decide⟩ ⟨Nat.zero_le _, Nat.zero_le _⟩ (c_Mod_areFeigning X N h a1) rfl rfl (Nat.le_of_ble_eq_true rfl) dX12_honest_2 (fun x1 => ?_)
  refine ro_if_eq (tgt := 18) (pc := 5) dX12_honest_5 (by decide) (fun _ => ?_) (fun _ => ?_)
  · skip
    refine ro_iconst (v := (-1)) (pc := 18) dX12_honest_18 (by decide) ?_
    exact ro_iret (pc := 19) rfl rfl dX12_honest_19
  · skip
    refine ro_aload_n (pc := 8) 0 dX12_honest_8 rfl rfl ?_
    refine ro_iload_n (pc := 9) 1 dX12_honest_9 rfl rfl ?_
    refine ro_iconst (v := 0) (pc := 10) dX12_honest_10 (by decide) ?_
    refine ro_cvP (pc := 11) (kc := 3) (avs := [.int a1, .int 0]) (st := []) ok_Mod_feigned wd_1868 cl_51 cv_51 rfl ⟨by decide, by decide⟩ ⟨Nat.zero_le _, Nat.zero_le _⟩ (c_Mod_feigned X N h a1 0) rfl rfl (Nat.le_of_ble_eq_true rfl) dX12_honest_11 (fun x2 => ?_)
    refine ro_iconst (v := (-1)) (pc := 14) dX12_honest_14 (by decide) ?_
    refine ro_icmp_ne (tgt := 20) (pc := 15) dX12_honest_15 (by decide) (fun _ => ?_) (fun _ => ?_)
    · skip
      refine ro_iconst (v := 0) (pc := 20) dX12_honest_20 (by decide) ?_
      refine ro_istore_n (pc := 21) (lv' := [(2, .int 0), (0, .ref (xa X 51)), (1, .int a1)]) dX12_honest_21 rfl (by decide) rfl ?_
      refine ro_iconst (v := 0) (pc := 22) dX12_honest_22 (by decide) ?_
      refine ro_istore_n (pc := 23) (lv' := [(3, .int 0), (2, .int 0), (0, .ref (xa X 51)), (1, .int a1)]) dX12_honest_23 rfl (by decide) rfl ?_
      refine ro_jn (pcj := 57) (lvs := fun (s : Int32) => [(0, .ref (xa X 51)), (2, .int s)]) (hs := fun (s : Int32) => h) (sts := fun (s : Int32) => []) (fun x4 => ?_) (fun k3 hk3 => ?_)
      · try dsimp only
        refine ro_iconst (v := 1) (pc := 57) dX12_honest_57 (by decide) ?_
        refine ro_aload_n (pc := 58) 0 dX12_honest_58 rfl rfl ?_
        refine gf_X12_26 (pc := 59) wd_1348 dX12_honest_59 ?_
        refine ro_ishl (pc := 62) dX12_honest_62 ?_
        refine ro_iconst (v := 1) (pc := 63) dX12_honest_63 (by decide) ?_
        refine ro_isub (pc := 64) dX12_honest_64 ?_
        refine ro_iload_n (pc := 65) 1 dX12_honest_65 rfl rfl ?_
        refine ro_iconst (v := (-1)) (pc := 66) dX12_honest_66 (by decide) ?_
        refine ro_ixor (pc := 67) dX12_honest_67 ?_
        refine ro_iand (pc := 68) dX12_honest_68 ?_
        exact ro_iret (pc := 69) rfl rfl dX12_honest_69
      · skip
        refine ro_lv [2, 3, 1, 0] rfl ?_
        refine ro_lp (pc := 24) (lvs := fun (s : Int32 × Int32) => [(0, .ref (xa X 51)), (1, .int a1), (2, .int s.1), (3, .int s.2)]) (hs := fun (s : Int32 × Int32) => h) (fun rec5 hrec5 s => ?_) N (0, 0)
        obtain ⟨x6, x7⟩ := s; unfold f_Mod_honest_L24; try dsimp only
        refine ro_iload_n (pc := 24) 3 dX12_honest_24 rfl rfl ?_
        refine ro_iconst (v := 1) (pc := 25) dX12_honest_25 (by decide) ?_
        refine ro_aload_n (pc := 26) 0 dX12_honest_26 rfl rfl ?_
        refine gf_X12_26 (pc := 27) wd_1348 dX12_honest_27 ?_
        refine ro_ishl (pc := 30) dX12_honest_30 ?_
        refine ro_icmp_ge (tgt := 57) (pc := 31) dX12_honest_31 (by decide) (fun _ => ?_) (fun _ => ?_)
        · skip
          refine ro_lv [0, 2] rfl ?_
          exact hk3 x6
        · skip
          refine ro_iload_n (pc := 34) 2 dX12_honest_34 rfl rfl ?_
          refine ro_aload_n (pc := 35) 0 dX12_honest_35 rfl rfl ?_
          refine ro_iload_n (pc := 36) 1 dX12_honest_36 rfl rfl ?_
          refine ro_iload_n (pc := 37) 3 dX12_honest_37 rfl rfl ?_
          refine ro_cvP (pc := 38) (kc := 2) (avs := [.int a1, .int x7]) (st := [.int x6]) ok_Mod_isFeigned wd_1859 cl_51 cv_51 rfl ⟨by decide, by decide⟩ ⟨Nat.zero_le _, Nat.zero_le _⟩ (c_Mod_isFeigned X N h a1 x7) rfl rfl (Nat.le_of_ble_eq_true rfl) dX12_honest_38 (fun x8 => ?_)
          refine ro_jn (pcj := 49) (lvs := fun (s : Int32) => [(0, .ref (xa X 51)), (1, .int a1), (3, .int x7)]) (hs := fun (s : Int32) => h) (sts := fun (s : Int32) => [.int s, .int x6]) (fun x10 => ?_) (fun j9 hj9 => ?_)
          · try dsimp only
            refine ro_ior (pc := 49) dX12_honest_49 ?_
            refine ro_bn (fun x11 => ?_)
            refine ro_istore_n (pc := 50) (lv' := [(2, .int x11), (0, .ref (xa X 51)), (1, .int a1), (3, .int x7)]) dX12_honest_50 rfl (by decide) rfl ?_
            refine ro_iinc (pc := 51) (v := x7 + 1) (lv' := [(3, .int (x7 + 1)), (2, .int x11), (0, .ref (xa X 51)), (1, .int a1)]) 3 dX12_honest_51 rfl rfl (by decide) rfl ?_
            refine ro_goto (tgt := 24) (pc := 54) dX12_honest_54 (by decide) ?_
            refine ro_lv [2, 3, 1, 0] rfl ?_
            exact hrec5 (x11, x7 + 1)
          · skip
            refine ro_if_eq (tgt := 48) (pc := 41) dX12_honest_41 (by decide) (fun _ => ?_) (fun _ => ?_)
            · skip
              refine ro_iconst (v := 0) (pc := 48) dX12_honest_48 (by decide) ?_
              refine ro_lv [0, 1, 3] rfl ?_
              exact hj9 0
            · skip
              refine ro_iload_n (pc := 44) 3 dX12_honest_44 rfl rfl ?_
              refine ro_goto (tgt := 49) (pc := 45) dX12_honest_45 (by decide) ?_
              refine ro_lv [0, 1, 3] rfl ?_
              exact hj9 x7
    · skip
      refine ro_iconst (v := (-1)) (pc := 18) dX12_honest_18 (by decide) ?_
      exact ro_iret (pc := 19) rfl rfl dX12_honest_19
theorem c_Mod_honest (X : mu_X) (N : Nat) (h : mu_H) (a1 : Int32) : ∀ r, f_Mod_honest N h a1 = some r → mI X m_Mod_honest 4 [.ref (xa X 51), .int a1] h r h := fun r hr => mI_of (by decide) rfl (Nat.le_of_ble_eq_true rfl) rfl (cb_Mod_honest X N h a1 r hr)
set_option maxRecDepth 20000 in
theorem cb_Mod_house (X : mu_X) (N : Nat) (h : mu_H) (a1 : Int32) (a2 : Int32) : aG X m_Mod_house (rmk 3) (fun _ => ax X) (fun _ _ _ => True) 0 0 (fun r : Int32 × mu_H => qI X r.1 r.2) (f_Mod_house N h a1 a2) 0 [(0, .ref (xa X 51)), (1, .int a1), (2, .int a2)] [] h := by
  unfold f_Mod_house
  refine ro_aload_n (pc := 0) 0 dX12_house_0 rfl rfl ?_
  refine ro_aload_n (pc := 1) 0 dX12_house_1 rfl rfl ?_
  refine ro_iload_n (pc := 2) 1 dX12_house_2 rfl rfl ?_
  refine ro_cvP (pc := 3) (kc := 2) (avs := [.int a1]) (st := [.ref (xa X 51)]) ok_Mod_isHouse wd_1634 cl_51 cv_51 rfl ⟨by decide, by decide⟩ ⟨Nat.zero_le _, Nat.zero_le _⟩ (c_Mod_isHouse X N h a1) rfl rfl (Nat.le_of_ble_eq_true rfl) dX12_house_3 (fun x1 => ?_)
  refine ro_jn (pcj := 23) (lvs := fun (s : Int32) => [(0, .ref (xa X 51)), (1, .int a1), (2, .int a2)]) (hs := fun (s : Int32) => h) (sts := fun (s : Int32) => [.int s, .ref (xa X 51)]) (fun x3 => ?_) (fun j2 hj2 => ?_)
  · try dsimp only
    refine pf_X12_0 (pc := 23) wd_1322 dX12_house_23 ?_
    refine ro_bnh (fun h4 => ?_)
    refine ro_aload_n (pc := 26) 0 dX12_house_26 rfl rfl ?_
    refine gf_X12_0 (pc := 27) wd_1322 dX12_house_27 ?_
    refine ro_iconst (v := 1) (pc := 30) dX12_house_30 (by decide) ?_
    refine ro_icmp_ne (tgt := 36) (pc := 31) dX12_house_31 (by decide) (fun _ => ?_) (fun _ => ?_)
    · skip
      refine ro_iload_n (pc := 36) 2 dX12_house_36 rfl rfl ?_
      refine ro_iconst (v := 3) (pc := 37) dX12_house_37 (by decide) ?_
      refine ro_icmp_ge (tgt := 50) (pc := 38) dX12_house_38 (by decide) (fun _ => ?_) (fun _ => ?_)
      · skip
        refine ro_iload_n (pc := 50) 2 dX12_house_50 rfl rfl ?_
        refine ro_iconst (v := 3) (pc := 51) dX12_house_51 (by decide) ?_
        refine ro_icmp_ne (tgt := 67) (pc := 52) dX12_house_52 (by decide) (fun _ => ?_) (fun _ => ?_)
        · skip
          refine ro_aload_n (pc := 67) 0 dX12_house_67 rfl rfl ?_
          refine gf_X12_27 (pc := 68) wd_1349 dX12_house_68 ?_
          refine ro_bipush (v := 24) (pc := 71) dX12_house_71 (by decide) ?_
          refine ro_iload_n (pc := 73) 1 dX12_house_73 rfl rfl ?_
          refine ro_iadd (pc := 74) dX12_house_74 ?_
          refine ro_iald (pc := 75) (n := 214) cl_68 cv_68 dX12_house_75 ?_
          exact ro_iret (pc := 76) rfl rfl dX12_house_76
        · skip
          refine ro_aload_n (pc := 55) 0 dX12_house_55 rfl rfl ?_
          refine gf_X12_27 (pc := 56) wd_1349 dX12_house_56 ?_
          refine ro_bipush (v := 18) (pc := 59) dX12_house_59 (by decide) ?_
          refine ro_iload_n (pc := 61) 1 dX12_house_61 rfl rfl ?_
          refine ro_iadd (pc := 62) dX12_house_62 ?_
          refine ro_iald (pc := 63) (n := 214) cl_68 cv_68 dX12_house_63 ?_
          refine ro_goto (tgt := 76) (pc := 64) dX12_house_64 (by decide) ?_
          exact ro_iret (pc := 76) rfl rfl dX12_house_76
      · skip
        refine ro_aload_n (pc := 41) 0 dX12_house_41 rfl rfl ?_
        refine ro_iload_n (pc := 42) 1 dX12_house_42 rfl rfl ?_
        refine ro_iload_n (pc := 43) 2 dX12_house_43 rfl rfl ?_
        refine ro_cvP (pc := 44) (kc := 1) (avs := [.int a1, .int a2]) (st := []) ok_Mod_ofHouse wd_1638 cl_51 cv_51 rfl ⟨by decide, by decide⟩ ⟨Nat.zero_le _, Nat.zero_le _⟩ (c_Mod_ofHouse X N h4 a1 a2) rfl rfl (Nat.le_of_ble_eq_true rfl) dX12_house_44 (fun x5 => ?_)
        refine ro_goto (tgt := 76) (pc := 47) dX12_house_47 (by decide) ?_
        exact ro_iret (pc := 76) rfl rfl dX12_house_76
    · skip
      refine ro_iconst (v := 0) (pc := 34) dX12_house_34 (by decide) ?_
      exact ro_iret (pc := 35) rfl rfl dX12_house_35
  · skip
    refine ro_jn (pcj := 22) (lvs := fun (s : Unit) => [(0, .ref (xa X 51)), (1, .int a1), (2, .int a2)]) (hs := fun (s : Unit) => h) (sts := fun (s : Unit) => [.ref (xa X 51)]) (fun s => ?_) (fun j6 hj6 => ?_)
    · try dsimp only
      refine ro_iconst (v := 1) (pc := 22) dX12_house_22 (by decide) ?_
      exact hj2 1
    · skip
      refine ro_if_eq (tgt := 22) (pc := 6) dX12_house_6 (by decide) (fun _ => ?_) (fun _ => ?_)
      · skip
        exact hj6 ()
      · skip
        refine ro_iload_n (pc := 9) 2 dX12_house_9 rfl rfl ?_
        refine ro_iconst (v := 0) (pc := 10) dX12_house_10 (by decide) ?_
        refine ro_iconst (v := 4) (pc := 11) dX12_house_11 (by decide) ?_
        refine ro_csP (pc := 12) (kc := 1) (avs := [.int a2, .int 0, .int 4]) (st := [.ref (xa X 51)]) ok_Mod_in wd_1523 ⟨by decide, by decide⟩ ⟨Nat.zero_le _, Nat.zero_le _⟩ (c_Mod_in X N h a2 0 4) rfl rfl (Nat.le_of_ble_eq_true rfl) dX12_house_12 (fun x7 => ?_)
        refine ro_if_eq (tgt := 22) (pc := 15) dX12_house_15 (by decide) (fun _ => ?_) (fun _ => ?_)
        · skip
          exact hj6 ()
        · skip
          refine ro_iconst (v := 0) (pc := 18) dX12_house_18 (by decide) ?_
          refine ro_goto (tgt := 23) (pc := 19) dX12_house_19 (by decide) ?_
          exact hj2 0
theorem c_Mod_house (X : mu_X) (N : Nat) (h : mu_H) (a1 : Int32) (a2 : Int32) : ∀ r, f_Mod_house N h a1 a2 = some r → mI X m_Mod_house 3 [.ref (xa X 51), .int a1, .int a2] h r.1 r.2 := fun r hr => mI_of (by decide) rfl (Nat.le_of_ble_eq_true rfl) rfl (cb_Mod_house X N h a1 a2 r hr)
set_option maxRecDepth 20000 in
theorem cb_Mod_image (X : mu_X) (N : Nat) (h : mu_H) : aG X m_Mod_image (rmk 1) (fun _ => ax X) (fun _ _ _ => True) 0 0 (fun r : Int32 × mu_H => qI X r.1 r.2) (f_Mod_image N h) 0 [(0, .ref (xa X 51))] [] h := by
  unfold f_Mod_image
  refine ro_aload_n (pc := 0) 0 dX12_image_0 rfl rfl ?_
  refine gf_X12_25 (pc := 1) wd_1347 dX12_image_1 ?_
  refine ro_if_ne (tgt := 9) (pc := 4) dX12_image_4 (by decide) (fun _ => ?_) (fun _ => ?_)
  · skip
    refine ro_iconst (v := 0) (pc := 9) dX12_image_9 (by decide) ?_
    refine ro_istore_n (pc := 10) (lv' := [(1, .int 0), (0, .ref (xa X 51))]) dX12_image_10 rfl (by decide) rfl ?_
    refine ro_jn (pcj := 36) (lvs := fun (s : mu_H) => [(0, .ref (xa X 51))]) (hs := fun (s : mu_H) => s) (sts := fun (s : mu_H) => []) (fun h2 => ?_) (fun k1 hk1 => ?_)
    · try dsimp only
      refine ro_aload_n (pc := 36) 0 dX12_image_36 rfl rfl ?_
      refine ro_iconst (v := 1) (pc := 37) dX12_image_37 (by decide) ?_
      refine pf_X12_45 (pc := 38) rfl rfl wd_1367 dX12_image_38 ?_
      refine ro_bnh (fun h3 => ?_)
      refine ro_aload_n (pc := 41) 0 dX12_image_41 rfl rfl ?_
      refine gf_X12_27 (pc := 42) wd_1349 dX12_image_42 ?_
      refine ro_bipush (v := 32) (pc := 45) dX12_image_45 (by decide) ?_
      refine ro_iald (pc := 47) (n := 214) cl_68 cv_68 dX12_image_47 ?_
      exact ro_iret (pc := 48) rfl rfl dX12_image_48
    · skip
      refine ro_lv [1, 0] rfl ?_
      refine ro_lp (pc := 11) (lvs := fun (s : Int32 × mu_H) => [(0, .ref (xa X 51)), (1, .int s.1)]) (hs := fun (s : Int32 × mu_H) => s.2) (fun rec4 hrec4 s => ?_) N (0, h)
      obtain ⟨x5, h6⟩ := s; unfold f_Mod_image_L11; try dsimp only
      refine ro_iload_n (pc := 11) 1 dX12_image_11 rfl rfl ?_
      refine ro_sipush (v := 214) (pc := 12) dX12_image_12 (by decide) ?_
      refine ro_icmp_ge (tgt := 36) (pc := 15) dX12_image_15 (by decide) (fun _ => ?_) (fun _ => ?_)
      · skip
        refine ro_lv [0] rfl ?_
        exact hk1 h6
      · skip
        refine ro_aload_n (pc := 18) 0 dX12_image_18 rfl rfl ?_
        refine gf_X12_44 (pc := 19) wd_1366 dX12_image_19 ?_
        refine ro_iload_n (pc := 22) 1 dX12_image_22 rfl rfl ?_
        refine ro_aload_n (pc := 23) 0 dX12_image_23 rfl rfl ?_
        refine gf_X12_27 (pc := 24) wd_1349 dX12_image_24 ?_
        refine ro_iload_n (pc := 27) 1 dX12_image_27 rfl rfl ?_
        refine ro_iald (pc := 28) (n := 214) cl_68 cv_68 dX12_image_28 ?_
        refine ro_iast (pc := 29) (n := 214) cl_78 cv_78 dX12_image_29 ?_
        refine ro_bnh (fun h7 => ?_)
        refine ro_iinc (pc := 30) (v := x5 + 1) (lv' := [(1, .int (x5 + 1)), (0, .ref (xa X 51))]) 1 dX12_image_30 rfl rfl (by decide) rfl ?_
        refine ro_goto (tgt := 11) (pc := 33) dX12_image_33 (by decide) ?_
        refine ro_lv [1, 0] rfl ?_
        exact hrec4 (x5 + 1, h7)
  · skip
    refine ro_iconst (v := (-1)) (pc := 7) dX12_image_7 (by decide) ?_
    exact ro_iret (pc := 8) rfl rfl dX12_image_8
theorem c_Mod_image (X : mu_X) (N : Nat) (h : mu_H) : ∀ r, f_Mod_image N h = some r → mI X m_Mod_image 1 [.ref (xa X 51)] h r.1 r.2 := fun r hr => mI_of (by decide) rfl (Nat.le_of_ble_eq_true rfl) rfl (cb_Mod_image X N h r hr)
set_option maxRecDepth 20000 in
theorem cb_Mod_isRest (X : mu_X) (N : Nat) (h : mu_H) (a1 : Int32) (a2 : Int32) (a3 : Int32) (a4 : Int32) (a5 : Int32) : aG X m_Mod_isRest (rmk 9) (fun _ => ax X) (fun _ _ _ => True) 0 0 (fun r : Int32 × mu_H => qI X r.1 r.2) (f_Mod_isRest N h a1 a2 a3 a4 a5) 0 [(0, .ref (xa X 51)), (1, .int a1), (2, .int a2), (3, .int a3), (4, .int a4), (5, .int a5)] [] h := by
  unfold f_Mod_isRest
  refine ro_iconst (v := 0) (pc := 0) dX12_isRest_0 (by decide) ?_
  refine ro_istore (pc := 1) (lv' := [(6, .int 0), (0, .ref (xa X 51)), (1, .int a1), (2, .int a2), (3, .int a3), (4, .int a4), (5, .int a5)]) dX12_isRest_1 (by decide) rfl ?_
  refine ro_lv [1, 2, 3, 4, 5, 6, 0] rfl ?_
  refine ro_lp (pc := 3) (lvs := fun (s : Int32 × mu_H) => [(0, .ref (xa X 51)), (1, .int a1), (2, .int a2), (3, .int a3), (4, .int a4), (5, .int a5), (6, .int s.1)]) (hs := fun (s : Int32 × mu_H) => s.2) (fun rec1 hrec1 s => ?_) N (0, h)
  obtain ⟨x2, h3⟩ := s; unfold f_Mod_isRest_L3; try dsimp only
  refine ro_iload (pc := 3) 6 dX12_isRest_3 rfl ?_
  refine ro_iconst (v := 3) (pc := 5) dX12_isRest_5 (by decide) ?_
  refine ro_icmp_gt (tgt := 75) (pc := 6) dX12_isRest_6 (by decide) (fun _ => ?_) (fun _ => ?_)
  · skip
    refine ro_iconst (v := 1) (pc := 75) dX12_isRest_75 (by decide) ?_
    exact ro_zret (pc := 76) rfl rfl rfl dX12_isRest_76
  · skip
    refine ro_iload (pc := 9) 6 dX12_isRest_9 rfl ?_
    refine ro_csP (pc := 11) (kc := 1) (avs := [.int x2]) (st := []) ok_Mod_isGameKind wd_1807 ⟨by decide, by decide⟩ ⟨Nat.zero_le _, Nat.zero_le _⟩ (c_Mod_isGameKind X N h3 x2) rfl rfl (Nat.le_of_ble_eq_true rfl) dX12_isRest_11 (fun x4 => ?_)
    refine ro_jn (pcj := 69) (lvs := fun (s : mu_H) => [(0, .ref (xa X 51)), (1, .int a1), (2, .int a2), (3, .int a3), (4, .int a4), (5, .int a5), (6, .int x2)]) (hs := fun (s : mu_H) => s) (sts := fun (s : mu_H) => []) (fun h6 => ?_) (fun j5 hj5 => ?_)
    · try dsimp only
      refine ro_iinc (pc := 69) (v := x2 + 1) (lv' := [(6, .int (x2 + 1)), (0, .ref (xa X 51)), (1, .int a1), (2, .int a2), (3, .int a3), (4, .int a4), (5, .int a5)]) 6 dX12_isRest_69 rfl rfl (by decide) rfl ?_
      refine ro_goto (tgt := 3) (pc := 72) dX12_isRest_72 (by decide) ?_
      refine ro_lv [1, 2, 3, 4, 5, 6, 0] rfl ?_
      exact hrec1 (x2 + 1, h6)
    · skip
      refine ro_if_eq (tgt := 69) (pc := 14) dX12_isRest_14 (by decide) (fun _ => ?_) (fun _ => ?_)
      · skip
        exact hj5 h3
      · skip
        refine ro_aload_n (pc := 17) 0 dX12_isRest_17 rfl rfl ?_
        refine ro_iload_n (pc := 18) 1 dX12_isRest_18 rfl rfl ?_
        refine ro_iload_n (pc := 19) 2 dX12_isRest_19 rfl rfl ?_
        refine ro_iload_n (pc := 20) 3 dX12_isRest_20 rfl rfl ?_
        refine ro_iload (pc := 21) 6 dX12_isRest_21 rfl ?_
        refine ro_iload (pc := 23) 5 dX12_isRest_23 rfl ?_
        refine ro_cvI (pc := 25) (kc := 8) (avs := [.int a1, .int a2, .int a3, .int x2, .int a5]) (st := []) ok_Mod_gameOf wd_1811 cl_51 cv_51 rfl ⟨by decide, by decide⟩ ⟨Nat.zero_le _, Nat.zero_le _⟩ (c_Mod_gameOf X N h3 a1 a2 a3 x2 a5) rfl rfl (Nat.le_of_ble_eq_true rfl) dX12_isRest_25 (fun x7 h8 => ?_)
        refine ro_aload_n (pc := 28) 0 dX12_isRest_28 rfl rfl ?_
        refine ro_iload_n (pc := 29) 1 dX12_isRest_29 rfl rfl ?_
        refine ro_iload_n (pc := 30) 2 dX12_isRest_30 rfl rfl ?_
        refine ro_iload_n (pc := 31) 3 dX12_isRest_31 rfl rfl ?_
        refine ro_iload (pc := 32) 4 dX12_isRest_32 rfl ?_
        refine ro_iload (pc := 34) 5 dX12_isRest_34 rfl ?_
        refine ro_cvI (pc := 36) (kc := 8) (avs := [.int a1, .int a2, .int a3, .int a4, .int a5]) (st := [.int x7]) ok_Mod_gameOf wd_1811 cl_51 cv_51 rfl ⟨by decide, by decide⟩ ⟨Nat.zero_le _, Nat.zero_le _⟩ (c_Mod_gameOf X N h8 a1 a2 a3 a4 a5) rfl rfl (Nat.le_of_ble_eq_true rfl) dX12_isRest_36 (fun x10 h11 => ?_)
        refine ro_icmp_gt (tgt := 67) (pc := 39) dX12_isRest_39 (by decide) (fun _ => ?_) (fun _ => ?_)
        · skip
          refine ro_iconst (v := 0) (pc := 67) dX12_isRest_67 (by decide) ?_
          exact ro_zret (pc := 68) rfl rfl rfl dX12_isRest_68
        · skip
          refine ro_aload_n (pc := 42) 0 dX12_isRest_42 rfl rfl ?_
          refine ro_iload_n (pc := 43) 2 dX12_isRest_43 rfl rfl ?_
          refine ro_iload_n (pc := 44) 1 dX12_isRest_44 rfl rfl ?_
          refine ro_iload_n (pc := 45) 3 dX12_isRest_45 rfl rfl ?_
          refine ro_iload (pc := 46) 6 dX12_isRest_46 rfl ?_
          refine ro_iload (pc := 48) 4 dX12_isRest_48 rfl ?_
          refine ro_cvI (pc := 50) (kc := 8) (avs := [.int a2, .int a1, .int a3, .int x2, .int a4]) (st := []) ok_Mod_gameOf wd_1811 cl_51 cv_51 rfl ⟨by decide, by decide⟩ ⟨Nat.zero_le _, Nat.zero_le _⟩ (c_Mod_gameOf X N h11 a2 a1 a3 x2 a4) rfl rfl (Nat.le_of_ble_eq_true rfl) dX12_isRest_50 (fun x13 h14 => ?_)
          refine ro_aload_n (pc := 53) 0 dX12_isRest_53 rfl rfl ?_
          refine ro_iload_n (pc := 54) 2 dX12_isRest_54 rfl rfl ?_
          refine ro_iload_n (pc := 55) 1 dX12_isRest_55 rfl rfl ?_
          refine ro_iload_n (pc := 56) 3 dX12_isRest_56 rfl rfl ?_
          refine ro_iload (pc := 57) 5 dX12_isRest_57 rfl ?_
          refine ro_iload (pc := 59) 4 dX12_isRest_59 rfl ?_
          refine ro_cvI (pc := 61) (kc := 8) (avs := [.int a2, .int a1, .int a3, .int a5, .int a4]) (st := [.int x13]) ok_Mod_gameOf wd_1811 cl_51 cv_51 rfl ⟨by decide, by decide⟩ ⟨Nat.zero_le _, Nat.zero_le _⟩ (c_Mod_gameOf X N h14 a2 a1 a3 a5 a4) rfl rfl (Nat.le_of_ble_eq_true rfl) dX12_isRest_61 (fun x16 h17 => ?_)
          refine ro_icmp_le (tgt := 69) (pc := 64) dX12_isRest_64 (by decide) (fun _ => ?_) (fun _ => ?_)
          · skip
            exact hj5 h17
          · skip
            refine ro_iconst (v := 0) (pc := 67) dX12_isRest_67 (by decide) ?_
            exact ro_zret (pc := 68) rfl rfl rfl dX12_isRest_68
theorem c_Mod_isRest (X : mu_X) (N : Nat) (h : mu_H) (a1 : Int32) (a2 : Int32) (a3 : Int32) (a4 : Int32) (a5 : Int32) : ∀ r, f_Mod_isRest N h a1 a2 a3 a4 a5 = some r → mI X m_Mod_isRest 9 [.ref (xa X 51), .int a1, .int a2, .int a3, .int a4, .int a5] h r.1 r.2 := fun r hr => mI_of (by decide) rfl (Nat.le_of_ble_eq_true rfl) rfl (cb_Mod_isRest X N h a1 a2 a3 a4 a5 r hr)
set_option maxRecDepth 20000 in
theorem cb_Mod_law (X : mu_X) (N : Nat) (h : mu_H) (a1 : Int32) : aG X m_Mod_law (rmk 2) (fun _ => ax X) (fun _ _ _ => True) 0 0 (fun r : Int32 × mu_H => qI X r.1 r.2) (f_Mod_law N h a1) 0 [(0, .ref (xa X 51)), (1, .int a1)] [] h := by
  unfold f_Mod_law
  refine ro_iload_n (pc := 0) 1 dX12_law_0 rfl rfl ?_
  refine ro_iconst (v := (-1)) (pc := 1) dX12_law_1 (by decide) ?_
  refine ro_aload_n (pc := 2) 0 dX12_law_2 rfl rfl ?_
  refine gf_X12_13 (pc := 3) wd_1335 dX12_law_3 ?_
  refine ro_iconst (v := 1) (pc := 6) dX12_law_6 (by decide) ?_
  refine ro_isub (pc := 7) dX12_law_7 ?_
  refine ro_csP (pc := 8) (kc := 1) (avs := [.int a1, .int (-1), .int ((h.1 51 13) - 1)]) (st := []) ok_Mod_in wd_1523 ⟨by decide, by decide⟩ ⟨Nat.zero_le _, Nat.zero_le _⟩ (c_Mod_in X N h a1 (-1) ((h.1 51 13) - 1)) rfl rfl (Nat.le_of_ble_eq_true rfl) dX12_law_8 (fun x1 => ?_)
  refine ro_if_ne (tgt := 16) (pc := 11) dX12_law_11 (by decide) (fun _ => ?_) (fun _ => ?_)
  · skip
    refine ro_aload_n (pc := 16) 0 dX12_law_16 rfl rfl ?_
    refine ro_iload_n (pc := 17) 1 dX12_law_17 rfl rfl ?_
    refine pf_X12_29 (pc := 18) wd_1351 dX12_law_18 ?_
    refine ro_bnh (fun h2 => ?_)
    refine ro_iconst (v := 1) (pc := 21) dX12_law_21 (by decide) ?_
    exact ro_zret (pc := 22) rfl rfl rfl dX12_law_22
  · skip
    refine ro_iconst (v := 0) (pc := 14) dX12_law_14 (by decide) ?_
    exact ro_zret (pc := 15) rfl rfl rfl dX12_law_15
theorem c_Mod_law (X : mu_X) (N : Nat) (h : mu_H) (a1 : Int32) : ∀ r, f_Mod_law N h a1 = some r → mI X m_Mod_law 2 [.ref (xa X 51), .int a1] h r.1 r.2 := fun r hr => mI_of (by decide) rfl (Nat.le_of_ble_eq_true rfl) rfl (cb_Mod_law X N h a1 r hr)
