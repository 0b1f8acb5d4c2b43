def m_Mod_in : mu_M := (RX12, yX12_in, cX12_in, 3, some .boolean)
theorem ok_Mod_in : mOKs m_Mod_in 3 := ⟨wd_1524, wd_107, wd_1525, by decide, by decide, by decide +kernel⟩
def m_Mod_areFeigning : mu_M := (RX12, yX12_areFeigning, cX12_areFeigning, 2, some .boolean)
theorem ok_Mod_areFeigning : mOKv m_Mod_areFeigning 1 := ⟨wd_1857, wd_90, wd_107, wd_1858, by decide, by decide, by decide +kernel⟩
def m_Mod_areSeasons : mu_M := (RX12, yX12_areSeasons, cX12_areSeasons, 2, some .boolean)
theorem ok_Mod_areSeasons : mOKv m_Mod_areSeasons 1 := ⟨wd_1731, wd_75, wd_107, wd_1732, by decide, by decide, by decide +kernel⟩
def m_Mod_isHouse : mu_M := (RX12, yX12_isHouse, cX12_isHouse, 2, some .boolean)
theorem ok_Mod_isHouse : mOKv m_Mod_isHouse 1 := ⟨wd_1636, wd_62, wd_107, wd_1637, by decide, by decide, by decide +kernel⟩
def m_Mod_isStretch : mu_M := (RX12, yX12_isStretch, cX12_isStretch, 2, some .boolean)
theorem ok_Mod_isStretch : mOKv m_Mod_isStretch 1 := ⟨wd_1628, wd_61, wd_107, wd_1629, by decide, by decide, by decide +kernel⟩
def m_Mod_ofHouse : mu_M := (RX12, yX12_ofHouse, cX12_ofHouse, 3, some .int)
theorem ok_Mod_ofHouse : mOKv m_Mod_ofHouse 2 := ⟨wd_1640, wd_63, wd_107, wd_1641, by decide, by decide, by decide +kernel⟩
def m_Mod_of : mu_M := (RX12, yX12_of, cX12_of, 3, some .int)
theorem ok_Mod_of : mOKv m_Mod_of 2 := ⟨wd_1610, wd_59, wd_107, wd_1611, by decide, by decide, by decide +kernel⟩
def m_Mod_haulOf : mu_M := (RX12, yX12_haulOf, cX12_haulOf, 3, some .int)
theorem ok_Mod_haulOf : mOKv m_Mod_haulOf 2 := ⟨wd_1656, wd_65, wd_107, wd_1657, by decide, by decide, by decide +kernel⟩
def m_Mod_comes : mu_M := (RX12, yX12_comes, cX12_comes, 3, some .boolean)
theorem ok_Mod_comes : mOKv m_Mod_comes 2 := ⟨wd_1652, wd_64, wd_107, wd_1653, by decide, by decide, by decide +kernel⟩
def m_Mod_areTwo : mu_M := (RX12, yX12_areTwo, cX12_areTwo, 4, some .boolean)
theorem ok_Mod_areTwo : mOKv m_Mod_areTwo 3 := ⟨wd_1805, wd_84, wd_107, wd_1806, by decide, by decide, by decide +kernel⟩
def m_Mod_here : mu_M := (RX12, yX12_here, cX12_here, 1, some .int)
theorem ok_Mod_here : mOKv m_Mod_here 0 := ⟨wd_1494, wd_37, wd_107, wd_1495, by decide, by decide, by decide +kernel⟩
def m_Mod_look : mu_M := (RX12, yX12_look, cX12_look, 1, some .int)
theorem ok_Mod_look : mOKv m_Mod_look 0 := ⟨wd_1490, wd_36, wd_107, wd_1491, by decide, by decide, by decide +kernel⟩
def m_Mod_bad : mu_M := (RX12, yX12_bad, cX12_bad, 1, none)
theorem ok_Mod_bad : mOKv m_Mod_bad 0 := ⟨wd_1521, wd_40, wd_107, wd_1522, by decide, by decide, by decide +kernel⟩
def m_Mod_atEnd : mu_M := (RX12, yX12_atEnd, cX12_atEnd, 1, some .int)
theorem ok_Mod_atEnd : mOKv m_Mod_atEnd 0 := ⟨wd_1598, wd_57, wd_107, wd_1599, by decide, by decide, by decide +kernel⟩
def m_Mod_isDigit : mu_M := (RX12, yX12_isDigit, cX12_isDigit, 1, some .boolean)
theorem ok_Mod_isDigit : mOKs m_Mod_isDigit 1 := ⟨wd_1517, wd_107, wd_1518, by decide, by decide, by decide +kernel⟩
def m_Mod_plainNumber : mu_M := (RX12, yX12_plainNumber, cX12_plainNumber, 3, some .int)
theorem ok_Mod_plainNumber : mOKv m_Mod_plainNumber 0 := ⟨wd_1576, wd_53, wd_107, wd_1577, by decide, by decide, by decide +kernel⟩
def m_Mod_put : mu_M := (RX12, yX12_put, cX12_put, 3, none)
theorem ok_Mod_put : mOKv m_Mod_put 2 := ⟨wd_1556, wd_48, wd_107, wd_1557, by decide, by decide, by decide +kernel⟩
def m_Mod_letterOf : mu_M := (RX12, yX12_letterOf, cX12_letterOf, 1, some .int)
theorem ok_Mod_letterOf : mOKs m_Mod_letterOf 1 := ⟨wd_1579, wd_107, wd_1580, by decide, by decide, by decide +kernel⟩
def m_Mod_opens : mu_M := (RX12, yX12_opens, cX12_opens, 1, none)
theorem ok_Mod_opens : mOKv m_Mod_opens 0 := ⟨wd_1552, wd_47, wd_107, wd_1553, by decide, by decide, by decide +kernel⟩
def m_Mod_closes : mu_M := (RX12, yX12_closes, cX12_closes, 2, none)
theorem ok_Mod_closes : mOKv m_Mod_closes 1 := ⟨wd_1560, wd_49, wd_107, wd_1561, by decide, by decide, by decide +kernel⟩
def m_Mod_atom : mu_M := (RX12, yX12_atom, cX12_atom, 2, none)
theorem ok_Mod_atom : mOKv m_Mod_atom 0 := ⟨wd_1572, wd_52, wd_107, wd_1573, by decide, by decide, by decide +kernel⟩
def m_Mod_term : mu_M := (RX12, yX12_term, cX12_term, 2, none)
theorem ok_Mod_term : mOKv m_Mod_term 0 := ⟨wd_1568, wd_51, wd_107, wd_1569, by decide, by decide, by decide +kernel⟩
def m_Mod_sum : mu_M := (RX12, yX12_sum, cX12_sum, 2, none)
theorem ok_Mod_sum : mOKv m_Mod_sum 0 := ⟨wd_1564, wd_50, wd_107, wd_1565, by decide, by decide, by decide +kernel⟩
def m_Mod_back : mu_M := (RX12, yX12_back, cX12_back, 2, some .int)
theorem ok_Mod_back : mOKv m_Mod_back 0 := ⟨wd_1917, wd_1918, wd_107, wd_1919, by decide, by decide, by decide +kernel⟩
def m_Mod_isFeigned : mu_M := (RX12, yX12_isFeigned, cX12_isFeigned, 5, some .boolean)
theorem ok_Mod_isFeigned : mOKv m_Mod_isFeigned 2 := ⟨wd_1861, wd_91, wd_107, wd_1862, by decide, by decide, by decide +kernel⟩
def m_Mod_feigned : mu_M := (RX12, yX12_feigned, cX12_feigned, 5, some .int)
theorem ok_Mod_feigned : mOKv m_Mod_feigned 2 := ⟨wd_1852, wd_1853, wd_107, wd_1854, by decide, by decide, by decide +kernel⟩
def m_Mod_has : mu_M := (RX12, yX12_has, cX12_has, 2, some .boolean)
theorem ok_Mod_has : mOKs m_Mod_has 2 := ⟨wd_1504, wd_107, wd_1505, by decide, by decide, by decide +kernel⟩
def m_Mod_best : mu_M := (RX12, yX12_best, cX12_best, 7, some .int)
theorem ok_Mod_best : mOKv m_Mod_best 1 := ⟨wd_1870, wd_1871, wd_107, wd_1872, by decide, by decide, by decide +kernel⟩
def m_Mod_bounded : mu_M := (RX12, yX12_bounded, cX12_bounded, 2, some .int)
theorem ok_Mod_bounded : mOKs m_Mod_bounded 1 := ⟨wd_1682, wd_107, wd_1683, by decide, by decide, by decide +kernel⟩
def m_Mod_worked : mu_M := (RX12, yX12_worked, cX12_worked, 5, some .int)
theorem ok_Mod_worked : mOKs m_Mod_worked 3 := ⟨wd_1679, wd_107, wd_1680, by decide, by decide, by decide +kernel⟩
def m_Mod_workOut : mu_M := (RX12, yX12_workOut, cX12_workOut, 6, some .int)
theorem ok_Mod_workOut : mOKv m_Mod_workOut 3 := ⟨wd_1676, wd_69, wd_107, wd_1677, by decide, by decide, by decide +kernel⟩
def m_Mod_worthOf : mu_M := (RX12, yX12_worthOf, cX12_worthOf, 3, some .int)
theorem ok_Mod_worthOf : mOKv m_Mod_worthOf 1 := ⟨wd_1672, wd_68, wd_107, wd_1673, by decide, by decide, by decide +kernel⟩
def m_Mod_isWinter : mu_M := (RX12, yX12_isWinter, cX12_isWinter, 2, some .boolean)
theorem ok_Mod_isWinter : mOKv m_Mod_isWinter 1 := ⟨wd_1695, wd_70, wd_107, wd_1696, by decide, by decide, by decide +kernel⟩
def m_Mod_doesBy : mu_M := (RX12, yX12_doesBy, cX12_doesBy, 6, some .int)
theorem ok_Mod_doesBy : mOKv m_Mod_doesBy 4 := ⟨wd_1668, wd_67, wd_107, wd_1669, by decide, by decide, by decide +kernel⟩
def m_Mod_doesNow : mu_M := (RX12, yX12_doesNow, cX12_doesNow, 4, some .int)
theorem ok_Mod_doesNow : mOKv m_Mod_doesNow 3 := ⟨wd_1664, wd_66, wd_107, wd_1665, by decide, by decide, by decide +kernel⟩
def m_Mod_buys : mu_M := (RX12, yX12_buys, cX12_buys, 5, some .int)
theorem ok_Mod_buys : mOKv m_Mod_buys 0 := ⟨wd_1796, wd_1797, wd_107, wd_1798, by decide, by decide, by decide +kernel⟩
def m_Mod_byteOf : mu_M := (RX12, yX12_byteOf, cX12_byteOf, 7, some .int)
theorem ok_Mod_byteOf : mOKs m_Mod_byteOf 6 := ⟨wd_1471, wd_107, wd_1472, by decide, by decide, by decide +kernel⟩
def m_Mod_canMend : mu_M := (RX12, yX12_canMend, cX12_canMend, 8, some .boolean)
theorem ok_Mod_canMend : mOKv m_Mod_canMend 5 := ⟨wd_1777, wd_81, wd_107, wd_1778, by decide, by decide, by decide +kernel⟩
def m_Mod_isSign : mu_M := (RX12, yX12_isSign, cX12_isSign, 1, some .boolean)
theorem ok_Mod_isSign : mOKs m_Mod_isSign 1 := ⟨wd_1586, wd_107, wd_1587, by decide, by decide, by decide +kernel⟩
def m_Mod_compare : mu_M := (RX12, yX12_compare, cX12_compare, 2, none)
theorem ok_Mod_compare : mOKv m_Mod_compare 0 := ⟨wd_1583, wd_54, wd_107, wd_1584, by decide, by decide, by decide +kernel⟩
def m_Mod_goOnAnd : mu_M := (RX12, yX12_goOnAnd, cX12_goOnAnd, 1, none)
theorem ok_Mod_goOnAnd : mOKv m_Mod_goOnAnd 0 := ⟨wd_1590, wd_55, wd_107, wd_1591, by decide, by decide, by decide +kernel⟩
def m_Mod_goOnOr : mu_M := (RX12, yX12_goOnOr, cX12_goOnOr, 1, none)
theorem ok_Mod_goOnOr : mOKv m_Mod_goOnOr 0 := ⟨wd_1594, wd_56, wd_107, wd_1595, by decide, by decide, by decide +kernel⟩
def m_Mod_condition : mu_M := (RX12, yX12_condition, cX12_condition, 1, none)
theorem ok_Mod_condition : mOKv m_Mod_condition 0 := ⟨wd_1544, wd_45, wd_107, wd_1545, by decide, by decide, by decide +kernel⟩
def m_Mod_unit : mu_M := (RX12, yX12_unit, cX12_unit, 2, none)
theorem ok_Mod_unit : mOKv m_Mod_unit 0 := ⟨wd_1548, wd_46, wd_107, wd_1549, by decide, by decide, by decide +kernel⟩
def m_Mod_clause : mu_M := (RX12, yX12_clause, cX12_clause, 3, none)
theorem ok_Mod_clause : mOKv m_Mod_clause 0 := ⟨wd_1540, wd_44, wd_107, wd_1541, by decide, by decide, by decide +kernel⟩
def m_Mod_sumOf : mu_M := (RX12, yX12_sumOf, cX12_sumOf, 5, some .int)
theorem ok_Mod_sumOf : mOKv m_Mod_sumOf 2 := ⟨wd_1743, wd_78, wd_107, wd_1744, by decide, by decide, by decide +kernel⟩
def f_Mod_in (N : Nat) (h : mu_H) (a0 : Int32) (a1 : Int32) (a2 : Int32) : Option Int32 :=
  if a0 < a1 then
    some 0
  else
    if a2 < a0 then
      some 0
    else
      some 1
def f_Mod_areFeigning (N : Nat) (h : mu_H) (a1 : Int32) : Option Int32 :=
  if h.1 51 25 ≤ 0 then
    some 0
  else
    (f_Mod_in N h a1 0 3).bind fun x1 =>
    if x1 = 0 then
      some 0
    else
      some 1
def f_Mod_areSeasons (N : Nat) (h : mu_H) (a1 : Int32) : Option Int32 :=
  (f_Mod_in N h a1 1 60).bind fun x1 =>
  if x1 = 0 then
    some 0
  else
    gd (ix 32 214) <|
    if 3999 < (h.1 68 (32 : Int32).toNatClampNeg) + a1 then
      some 0
    else
      some 1
def f_Mod_isHouse (N : Nat) (h : mu_H) (a1 : Int32) : Option Int32 :=
  (f_Mod_in N h a1 0 ((h.1 51 26) - 1)).bind fun x1 =>
  gd (zb x1) (some x1)
def f_Mod_isStretch (N : Nat) (h : mu_H) (a1 : Int32) : Option Int32 :=
  (f_Mod_in N h a1 0 ((h.1 51 25) - 1)).bind fun x1 =>
  gd (zb x1) (some x1)
def f_Mod_ofHouse (N : Nat) (h : mu_H) (a1 : Int32) (a2 : Int32) : Option Int32 :=
  gd (ix ((3 * a1) + a2) 18) <|
  some (h.1 67 ((3 * a1) + a2).toNatClampNeg)
def f_Mod_of (N : Nat) (h : mu_H) (a1 : Int32) (a2 : Int32) : Option Int32 :=
  gd (ix ((5 * a1) + a2) 45) <|
  some (h.1 66 ((5 * a1) + a2).toNatClampNeg)
def f_Mod_haulOf (N : Nat) (h : mu_H) (a1 : Int32) (a2 : Int32) : Option Int32 :=
  (f_Mod_ofHouse N h a1 0).bind fun x1 =>
  (f_Mod_of N h a2 0).bind fun x2 =>
  gd (ix ((8 * x1) + x2) 64) <|
  (f_Mod_ofHouse N h a1 0).bind fun x3 =>
  (f_Mod_of N h a2 1).bind fun x4 =>
  gd (ix ((8 * x3) + x4) 64) <|
  some (z_mmin (h.1 70 ((8 * x1) + x2).toNatClampNeg) (h.1 70 ((8 * x3) + x4).toNatClampNeg))
def f_Mod_comes (N : Nat) (h : mu_H) (a1 : Int32) (a2 : Int32) : Option Int32 :=
  (f_Mod_haulOf N h a1 a2).bind fun x1 =>
  if 1000000 ≤ x1 then
    some 0
  else
    some 1
def f_Mod_areTwo (N : Nat) (h : mu_H) (a1 : Int32) (a2 : Int32) (a3 : Int32) : Option Int32 :=
  (f_Mod_isHouse N h a1).bind fun x1 =>
  if x1 = 0 then
    some 0
  else
    (f_Mod_isHouse N h a2).bind fun x2 =>
    if x2 = 0 then
      some 0
    else
      if a1 = a2 then
        some 0
      else
        (f_Mod_isStretch N h a3).bind fun x3 =>
        if x3 = 0 then
          some 0
        else
          (f_Mod_comes N h a1 a3).bind fun x4 =>
          if x4 = 0 then
            some 0
          else
            (f_Mod_comes N h a2 a3).bind fun x5 =>
            if x5 = 0 then
              some 0
            else
              some 1
def f_Mod_here (N : Nat) (h : mu_H) : Option Int32 :=
  if h.1 51 2 ≤ h.1 51 3 then
    some (-1)
  else
    gd (ix (h.1 51 3) 240) <|
    some (h.1 52 (h.1 51 3).toNatClampNeg)
def f_Mod_look_L0 (N : Nat) (k1 : mu_H → Option (Int32 × mu_H)) (rec4 : mu_H → Option (Int32 × mu_H)) : mu_H → Option (Int32 × mu_H) := fun (h5 : mu_H) =>
  (f_Mod_here N h5).bind fun x6 =>
  if x6 = 32 then
    bn (ui h5 51 3 ((h5.1 51 3) + 1)) fun h7 =>
    rec4 h7
  else
    k1 h5
def f_Mod_look (N : Nat) (h : mu_H) : Option (Int32 × mu_H) :=
  jn (fun (h2 : mu_H) =>
    (f_Mod_here N h2).bind fun x3 =>
    some (x3, h2)) fun k1 =>
  lp (f_Mod_look_L0 N k1) N h
def f_Mod_bad (N : Nat) (h : mu_H) : Option mu_H :=
  jn (fun (x2 : Int32) =>
    bn (ui h 51 4 x2) fun h3 =>
    some h3) fun j1 =>
  if h.1 51 4 = (-1) then
    j1 (h.1 51 3)
  else
    j1 (h.1 51 4)
def f_Mod_atEnd (N : Nat) (h : mu_H) : Option (Int32 × mu_H) :=
  jn (fun (h2 : mu_H) =>
    some (h2.1 51 4, h2)) fun j1 =>
  if h.1 51 4 = (-1) then
    bi (f_Mod_look N h) fun x3 h4 =>
    if x3 = (-1) then
      j1 h4
    else
      (f_Mod_bad N h4).bind fun h6 =>
      j1 h6
  else
    j1 h
def f_Mod_isDigit (N : Nat) (h : mu_H) (a0 : Int32) : Option Int32 :=
  if a0 < 48 then
    some 0
  else
    if 57 < a0 then
      some 0
    else
      some 1
def f_Mod_plainNumber_L4 (N : Nat) (k1 : (Int32 × mu_H) → Option (Int32 × mu_H)) (rec7 : (Int32 × Int32 × mu_H) → Option (Int32 × mu_H)) : (Int32 × Int32 × mu_H) → Option (Int32 × mu_H) := fun ((x8, x9, h10) : Int32 × Int32 × mu_H) =>
  if 4 ≤ x9 then
    k1 (x8, h10)
  else
    (f_Mod_here N h10).bind fun x11 =>
    (f_Mod_isDigit N h10 x11).bind fun x12 =>
    if x12 = 0 then
      k1 (x8, h10)
    else
      (f_Mod_here N h10).bind fun x13 =>
      bn (((10 * x8) + x13) - 48) fun x14 =>
      bn (ui h10 51 3 ((h10.1 51 3) + 1)) fun h15 =>
      rec7 (x14, x9 + 1, h15)
def f_Mod_plainNumber (N : Nat) (h : mu_H) : Option (Int32 × mu_H) :=
  jn (fun ((x2, h3) : Int32 × mu_H) =>
    (f_Mod_here N h3).bind fun x4 =>
    (f_Mod_isDigit N h3 x4).bind fun x5 =>
    if x5 = 0 then
      some (x2, h3)
    else
      (f_Mod_bad N h3).bind fun h6 =>
      some (x2, h6)) fun k1 =>
  lp (f_Mod_plainNumber_L4 N k1) N (0, 0, h)
def f_Mod_put (N : Nat) (h : mu_H) (a1 : Int32) (a2 : Int32) : Option mu_H :=
  gd (ix (h.1 51 14) 5) <|
  gd (ix ((520 * (h.1 51 14)) + (h.1 55 (h.1 51 14).toNatClampNeg)) 2600) <|
  bn (ui h 53 ((520 * (h.1 51 14)) + (h.1 55 (h.1 51 14).toNatClampNeg)).toNatClampNeg a1) fun h1 =>
  gd (ix (h1.1 51 14) 5) <|
  gd (ix ((520 * (h1.1 51 14)) + (h1.1 55 (h1.1 51 14).toNatClampNeg)) 2600) <|
  bn (ui h1 54 ((520 * (h1.1 51 14)) + (h1.1 55 (h1.1 51 14).toNatClampNeg)).toNatClampNeg a2) fun h2 =>
  gd (ix (h2.1 51 14) 5) <|
  gd (ix (h2.1 51 14) 5) <|
  bn (ui h2 55 (h2.1 51 14).toNatClampNeg ((h2.1 55 (h2.1 51 14).toNatClampNeg) + 1)) fun h3 =>
  some h3
def f_Mod_letterOf (N : Nat) (h : mu_H) (a0 : Int32) : Option Int32 :=
  if a0 = 113 then
    some 0
  else
    if a0 = 122 then
      some 1
    else
      if a0 = 104 then
        some 2
      else
        if a0 = 119 then
          some 3
        else
          if a0 = 101 then
            some 4
          else
            if a0 = 115 then
              some 5
            else
              some (-1)
def f_Mod_opens (N : Nat) (h : mu_H) : Option mu_H :=
  jn (fun (h2 : mu_H) =>
    bn (ui h2 51 5 ((h2.1 51 5) + 1)) fun h3 =>
    bn (ui h3 51 3 ((h3.1 51 3) + 1)) fun h4 =>
    some h4) fun j1 =>
  if h.1 51 5 = 6 then
    (f_Mod_bad N h).bind fun h5 =>
    j1 h5
  else
    j1 h
def f_Mod_closes (N : Nat) (h : mu_H) (a1 : Int32) : Option mu_H :=
  jn (fun (h2 : mu_H) =>
    bn (ui h2 51 3 ((h2.1 51 3) + 1)) fun h3 =>
    bn (ui h3 51 5 ((h3.1 51 5) - 1)) fun h4 =>
    some h4) fun j1 =>
  if h.1 51 4 = (-1) then
    bi (f_Mod_look N h) fun x5 h6 =>
    if x5 = a1 then
      j1 h6
    else
      (f_Mod_bad N h6).bind fun h8 =>
      j1 h8
  else
    j1 h
def f_Mod_atom_B (N : Nat) (rf : mu_H → Option mu_H) (h : mu_H) : Option mu_H :=
  bi (f_Mod_look N h) fun x1 h2 =>
  (f_Mod_isDigit N h2 x1).bind fun x4 =>
  if x4 = 0 then
    (f_Mod_letterOf N h2 x1).bind fun x5 =>
    if x5 = (-1) then
      if x1 = 91 then
        (f_Mod_opens N h2).bind fun h7 =>
        if h7.1 51 4 = (-1) then
          (rf h7).bind fun h8 =>
          (f_Mod_closes N h8 93).bind fun h9 =>
          some h9
        else
          some h7
      else
        (f_Mod_bad N h2).bind fun h6 =>
        some h6
    else
      bn (ui h2 51 3 ((h2.1 51 3) + 1)) fun h10 =>
      (f_Mod_letterOf N h10 x1).bind fun x11 =>
      (f_Mod_put N h10 1 x11).bind fun h12 =>
      some h12
  else
    bi (f_Mod_plainNumber N h2) fun x13 h14 =>
    (f_Mod_put N h14 0 x13).bind fun h16 =>
    some h16
def f_Mod_term_L21 (N : Nat) (rf : mu_H → Option mu_H) (rec5 : (Int32 × mu_H) → Option mu_H) : (Int32 × mu_H) → Option mu_H := fun ((x6, h7) : Int32 × mu_H) =>
  jn (fun (_ : Unit) =>
    bn (ui h7 51 3 ((h7.1 51 3) + 1)) fun h9 =>
    (f_Mod_atom_B N rf h9).bind fun h10 =>
    jn (fun (x12 : Int32) =>
      (f_Mod_put N h10 x12 0).bind fun h13 =>
      jn (fun ((x15, h16) : Int32 × mu_H) =>
        rec5 (x15, h16)) fun j14 =>
      if h13.1 51 4 = (-1) then
        bi (f_Mod_look N h13) fun x17 h18 =>
        j14 (x17, h18)
      else
        j14 ((-1), h13)) fun j11 =>
    if x6 = 42 then
      j11 4
    else
      j11 5) fun j8 =>
  if x6 = 42 then
    j8 ()
  else
    if x6 = 47 then
      j8 ()
    else
      some h7
def f_Mod_term_B (N : Nat) (rf : mu_H → Option mu_H) (h : mu_H) : Option mu_H :=
  (f_Mod_atom_B N rf h).bind fun h1 =>
  jn (fun ((x3, h4) : Int32 × mu_H) =>
    lp (f_Mod_term_L21 N rf) N (x3, h4)) fun j2 =>
  if h1.1 51 4 = (-1) then
    bi (f_Mod_look N h1) fun x20 h21 =>
    j2 (x20, h21)
  else
    j2 ((-1), h1)
def f_Mod_sum_L21 (N : Nat) (rf : mu_H → Option mu_H) (rec5 : (Int32 × mu_H) → Option mu_H) : (Int32 × mu_H) → Option mu_H := fun ((x6, h7) : Int32 × mu_H) =>
  jn (fun (_ : Unit) =>
    bn (ui h7 51 3 ((h7.1 51 3) + 1)) fun h9 =>
    (f_Mod_term_B N rf h9).bind fun h10 =>
    jn (fun (x12 : Int32) =>
      (f_Mod_put N h10 x12 0).bind fun h13 =>
      jn (fun ((x15, h16) : Int32 × mu_H) =>
        rec5 (x15, h16)) fun j14 =>
      if h13.1 51 4 = (-1) then
        bi (f_Mod_look N h13) fun x17 h18 =>
        j14 (x17, h18)
      else
        j14 ((-1), h13)) fun j11 =>
    if x6 = 43 then
      j11 2
    else
      j11 3) fun j8 =>
  if x6 = 43 then
    j8 ()
  else
    if x6 = 45 then
      j8 ()
    else
      some h7
def f_Mod_sum_B (N : Nat) (rf : mu_H → Option mu_H) (h : mu_H) : Option mu_H :=
  (f_Mod_term_B N rf h).bind fun h1 =>
  jn (fun ((x3, h4) : Int32 × mu_H) =>
    lp (f_Mod_sum_L21 N rf) N (x3, h4)) fun j2 =>
  if h1.1 51 4 = (-1) then
    bi (f_Mod_look N h1) fun x20 h21 =>
    j2 (x20, h21)
  else
    j2 ((-1), h1)
def f_Mod_sum_R (N : Nat) : (mu_H → Option mu_H) → mu_H → Option mu_H := f_Mod_sum_B N
def f_Mod_sum (N : Nat) (h : mu_H) : Option mu_H := lp (f_Mod_sum_R N) 10 h
def f_Mod_atom (N : Nat) (h : mu_H) : Option mu_H := f_Mod_atom_B N (f_Mod_sum N) h 
def f_Mod_term (N : Nat) (h : mu_H) : Option mu_H := f_Mod_term_B N (f_Mod_sum N) h 
def f_Mod_back_L11 (k1 : mu_H → Option (Int32 × mu_H)) (rec4 : (Int32 × mu_H) → Option (Int32 × mu_H)) : (Int32 × mu_H) → Option (Int32 × mu_H) := fun ((x5, h6) : Int32 × mu_H) =>
  if 214 ≤ x5 then
    k1 h6
  else
    gd (ix x5 214) <|
    gd (ix x5 214) <|
    bn (ui h6 68 x5.toNatClampNeg (h6.1 78 x5.toNatClampNeg)) fun h7 =>
    rec4 (x5 + 1, h7)
def f_Mod_back (N : Nat) (h : mu_H) : Option (Int32 × mu_H) :=
  if h.1 51 45 = 0 then
    some ((-1), h)
  else
    jn (fun (h2 : mu_H) =>
      bn (ui h2 51 32 0) fun h3 =>
      gd (ix 32 214) <|
      some (h3.1 68 (32 : Int32).toNatClampNeg, h3)) fun k1 =>
    lp (f_Mod_back_L11 k1) N (0, h)
def f_Mod_isFeigned_L17 (h : mu_H) (a2 : Int32) (rec4 : (Int32 × Int32) → Option Int32) : (Int32 × Int32) → Option Int32 := fun ((x5, x6) : Int32 × Int32) =>
  if h.1 51 40 ≤ x6 then
    gd (zb x5) (some x5)
  else
    if x5 = 0 then
      gd (zb x5) (some x5)
    else
      gd (ix x6 10) <|
      jn (fun (x8 : Int32) =>
        gd (ix x6 10) <|
        jn (fun (x10 : Int32) =>
          rec4 (x10, x6 + 1)) fun j9 =>
        if x8 = h.1 74 x6.toNatClampNeg then
          j9 1
        else
          j9 0) fun j7 =>
      if (h.1 73 x6.toNatClampNeg) &&& (a2 ^^^ (-1)) = 0 then
        j7 0
      else
        j7 1
def f_Mod_isFeigned (N : Nat) (h : mu_H) (a1 : Int32) (a2 : Int32) : Option Int32 :=
  (f_Int_bitCount N h a2).bind fun x1 =>
  jn (fun (x3 : Int32) =>
    lp (f_Mod_isFeigned_L17 h a2) N (x3, 0)) fun j2 =>
  if x1 = a1 then
    j2 1
  else
    j2 0
def f_Mod_feigned_L20 (N : Nat) (h : mu_H) (a1 : Int32) (a2 : Int32) (k2 : Int32 → Option Int32) (rec4 : (Int32 × Int32) → Option Int32) : (Int32 × Int32) → Option Int32 := fun ((x5, x6) : Int32 × Int32) =>
  if (1 : Int32) <<< ((h.1 51 26) &&& 31) ≤ x6 then
    k2 x5
  else
    (f_Mod_isFeigned N h a1 x6).bind fun x7 =>
    jn (fun (x9 : Int32) =>
      rec4 (x9, x6 + 1)) fun j8 =>
    if x7 = 0 then
      j8 x5
    else
      if x5 = a2 then
        some x6
      else
        j8 (x5 + 1)
def f_Mod_feigned (N : Nat) (h : mu_H) (a1 : Int32) (a2 : Int32) : Option Int32 :=
  (f_Mod_areFeigning N h a1).bind fun x1 =>
  if x1 = 0 then
    some (-1)
  else
    if (-1) ≤ a2 then
      jn (fun (x3 : Int32) =>
        if a2 = (-1) then
          some x3
        else
          some (-1)) fun k2 =>
      lp (f_Mod_feigned_L20 N h a1 a2 k2) N (0, 0)
    else
      some (-1)
def f_Mod_has (N : Nat) (h : mu_H) (a0 : Int32) (a1 : Int32) : Option Int32 :=
  if (a0 >>> (a1 &&& 31)) &&& 1 = 1 then
    some 1
  else
    some 0
def f_Mod_best_L42 (N : Nat) (h : mu_H) (a1 : Int32) (x6 : Int32) (k7 : Int32 → Option Int32) (rec14 : (Int32 × Int32) → Option Int32) : (Int32 × Int32) → Option Int32 := fun ((x15, x16) : Int32 × Int32) =>
  if (1 : Int32) <<< ((h.1 51 26) &&& 31) ≤ x16 then
    k7 x15
  else
    (f_Mod_isFeigned N h a1 x16).bind fun x17 =>
    jn (fun (x19 : Int32) =>
      bn (x15 + x19) fun x20 =>
      rec14 (x20, x16 + 1)) fun j18 =>
    if x17 = 0 then
      j18 0
    else
      (f_Mod_has N h x16 x6).bind fun x21 =>
      if x21 = 0 then
        j18 (-1)
      else
        j18 1
def f_Mod_best_L27 (N : Nat) (h : mu_H) (a1 : Int32) (rec3 : (Int32 × Int32 × Int32) → Option Int32) : (Int32 × Int32 × Int32) → Option Int32 := fun ((x4, x5, x6) : Int32 × Int32 × Int32) =>
  if h.1 51 26 ≤ x6 then
    some x4
  else
    jn (fun (x8 : Int32) =>
      jn (fun ((x10, x11) : Int32 × Int32) =>
        rec3 (x10, x11, x6 + 1)) fun j9 =>
      jn (fun (_ : Unit) =>
        bn (z_mabs x8) fun x13 =>
        j9 (x6, x13)) fun j12 =>
      if x4 = (-1) then
        j12 ()
      else
        if x5 ≤ z_mabs x8 then
          j9 (x4, x5)
        else
          j12 ()) fun k7 =>
    lp (f_Mod_best_L42 N h a1 x6 k7) N (0, 0)
def f_Mod_best (N : Nat) (h : mu_H) (a1 : Int32) : Option Int32 :=
  (f_Mod_areFeigning N h a1).bind fun x1 =>
  if x1 = 0 then
    some (-1)
  else
    (f_Mod_feigned N h a1 0).bind fun x2 =>
    if x2 = (-1) then
      some (-1)
    else
      lp (f_Mod_best_L27 N h a1) N ((-1), 0, 0)
def f_Mod_bounded (N : Nat) (h : mu_H) (a0 : Int64) : Option Int32 :=
  some ((z_mmaxL (-1000000) (z_mminL 1000000 a0)).toInt32)
def f_Mod_worked (N : Nat) (h : mu_H) (a0 : Int32) (a1 : Int64) (a3 : Int64) : Option Int32 :=
  if a0 = 2 then
    (f_Mod_bounded N h (a1 + a3)).bind fun x1 =>
    some x1
  else if a0 = 3 then
    (f_Mod_bounded N h (a1 - a3)).bind fun x2 =>
    some x2
  else if a0 = 4 then
    (f_Mod_bounded N h (a1 * a3)).bind fun x3 =>
    some x3
  else if a0 = 5 then
    if lg_cmp a3 0 = 0 then
      some 0
    else
      gd (decide (¬ a3 = 0)) <|
      (f_Mod_bounded N h (a1 / a3)).bind fun x4 =>
      some x4
  else if a0 = 6 then
    if lg_cmp a1 a3 = 0 then
      some 1
    else
      some 0
  else if a0 = 7 then
    if 0 ≤ lg_cmp a1 a3 then
      some 0
    else
      some 1
  else if a0 = 8 then
    if lg_cmp a1 a3 ≤ 0 then
      some 0
    else
      some 1
  else if a0 = 9 then
    if lg_cmp a1 0 = 0 then
      if lg_cmp a3 0 = 0 then
        some 0
      else
        some 1
    else
      some 1
  else if a0 = 10 then
    if lg_cmp a1 0 = 0 then
      some 0
    else
      if lg_cmp a3 0 = 0 then
        some 0
      else
        some 1
  else 
    if lg_cmp a1 0 = 0 then
      if lg_cmp a3 0 = 0 then
        some 0
      else
        some 1
    else
      some 1
def f_Mod_workOut_L12 (N : Nat) (a1 : Int32) (a3 : Int32) (k2 : mu_H → Option (Int32 × mu_H)) (rec4 : (Int32 × Int32 × mu_H) → Option (Int32 × mu_H)) : (Int32 × Int32 × mu_H) → Option (Int32 × mu_H) := fun ((x5, x6, h7) : Int32 × Int32 × mu_H) =>
  if (520 * a1) + a3 ≤ x6 then
    k2 h7
  else
    gd (ix x6 2600) <|
    jn (fun ((x9, h10) : Int32 × mu_H) =>
      rec4 (x9, x6 + 1, h10)) fun j8 =>
    jn (fun (_ : Unit) =>
      gd (ix x6 2600) <|
      jn (fun (x13 : Int32) =>
        gd (ix x5 80) <|
        bn (ui h7 61 x5.toNatClampNeg x13) fun h14 =>
        j8 (x5 + 1, h14)) fun j12 =>
      if h7.1 53 x6.toNatClampNeg = 0 then
        gd (ix x6 2600) <|
        j12 (h7.1 54 x6.toNatClampNeg)
      else
        gd (ix x6 2600) <|
        gd (ix (h7.1 54 x6.toNatClampNeg) 6) <|
        j12 (h7.1 60 (h7.1 54 x6.toNatClampNeg).toNatClampNeg)) fun j11 =>
    if h7.1 53 x6.toNatClampNeg = 0 then
      j11 ()
    else
      gd (ix x6 2600) <|
      if h7.1 53 x6.toNatClampNeg = 1 then
        j11 ()
      else
        gd (ix x6 2600) <|
        if h7.1 53 x6.toNatClampNeg = 9 then
          gd (ix (x5 - 1) 80) <|
          gd (ix (x5 - 1) 80) <|
          bn (ui h7 61 (x5 - 1).toNatClampNeg (1 - (h7.1 61 (x5 - 1).toNatClampNeg))) fun h17 =>
          j8 (x5, h17)
        else
          gd (ix x6 2600) <|
          gd (ix ((x5 + (-1)) - 1) 80) <|
          gd (ix (x5 + (-1)) 80) <|
          (f_Mod_worked N h7 (h7.1 53 x6.toNatClampNeg) ((h7.1 61 ((x5 + (-1)) - 1).toNatClampNeg).toInt64) ((h7.1 61 (x5 + (-1)).toNatClampNeg).toInt64)).bind fun x15 =>
          gd (ix ((x5 + (-1)) - 1) 80) <|
          bn (ui h7 61 ((x5 + (-1)) - 1).toNatClampNeg x15) fun h16 =>
          j8 (x5 + (-1), h16)
def f_Mod_workOut (N : Nat) (h : mu_H) (a1 : Int32) (a2 : Int32) (a3 : Int32) : Option (Int32 × mu_H) :=
  bn ((520 * a1) + a2) fun x1 =>
  jn (fun (h3 : mu_H) =>
    gd (ix 0 80) <|
    some (h3.1 61 (0 : Int32).toNatClampNeg, h3)) fun k2 =>
  lp (f_Mod_workOut_L12 N a1 a3 k2) N (0, x1, h)
def f_Mod_worthOf_L6 (N : Nat) (a1 : Int32) (k2 : (Int32 × mu_H) → Option (Int32 × mu_H)) (rec8 : (Int32 × mu_H) → Option (Int32 × mu_H)) : (Int32 × mu_H) → Option (Int32 × mu_H) := fun ((x9, h10) : Int32 × mu_H) =>
  gd (ix a1 5) <|
  if (140 * a1) + (h10.1 56 a1.toNatClampNeg) ≤ x9 then
    some (0, h10)
  else
    gd (ix x9 700) <|
    gd (ix x9 700) <|
    if h10.1 57 x9.toNatClampNeg = h10.1 58 x9.toNatClampNeg then
      k2 (x9, h10)
    else
      gd (ix x9 700) <|
      gd (ix x9 700) <|
      bi (f_Mod_workOut N h10 a1 (h10.1 57 x9.toNatClampNeg) (h10.1 58 x9.toNatClampNeg)) fun x11 h12 =>
      if x11 = 0 then
        rec8 (x9 + 1, h12)
      else
        k2 (x9, h12)
def f_Mod_worthOf (N : Nat) (h : mu_H) (a1 : Int32) : Option (Int32 × mu_H) :=
  bn (140 * a1) fun x1 =>
  jn (fun ((x3, h4) : Int32 × mu_H) =>
    gd (ix x3 700) <|
    gd (ix x3 700) <|
    bi (f_Mod_workOut N h4 a1 (h4.1 58 x3.toNatClampNeg) (h4.1 59 x3.toNatClampNeg)) fun x5 h6 =>
    some (x5, h6)) fun k2 =>
  lp (f_Mod_worthOf_L6 N a1 k2) N (x1, h)
def f_Mod_isWinter (N : Nat) (h : mu_H) (a1 : Int32) : Option Int32 :=
  if a1 - a1 / 4 * 4 = 3 then
    some 1
  else
    some 0
def f_Mod_doesBy (N : Nat) (h : mu_H) (a1 : Int32) (a2 : Int32) (a3 : Int32) (a4 : Int32) : Option (Int32 × mu_H) :=
  jn (fun (x2 : Int32) =>
    jn (fun ((x4, h5) : Int32 × mu_H) =>
      gd (ix 32 214) <|
      (f_Mod_isWinter N h5 (h5.1 68 (32 : Int32).toNatClampNeg)).bind fun x6 =>
      if x6 = 0 then
        some (x4, h5)
      else
        some (x4 / 2, h5)) fun j3 =>
    jn (fun (_ : Unit) =>
      (f_Mod_ofHouse N h a1 1).bind fun x8 =>
      (f_Mod_haulOf N h a1 a2).bind fun x9 =>
      bn ((2 * x8) - x9) fun x10 =>
      jn (fun ((x12, h13) : Int32 × mu_H) =>
        gd (decide (¬ a3 + 1 = 0)) <|
        bn ((z_mmax 0 (z_mmin 99 x12)) / (a3 + 1)) fun x14 =>
        j3 (x14, h13)) fun j11 =>
      if h.1 51 29 = (-1) then
        j11 (x10, h)
      else
        (f_Mod_ofHouse N h a1 1).bind fun x15 =>
        gd (ix 0 6) <|
        bn (ui h 60 (0 : Int32).toNatClampNeg x15) fun h16 =>
        (f_Mod_ofHouse N h16 a1 2).bind fun x17 =>
        gd (ix 1 6) <|
        bn (ui h16 60 (1 : Int32).toNatClampNeg x17) fun h18 =>
        (f_Mod_haulOf N h18 a1 a2).bind fun x19 =>
        gd (ix 2 6) <|
        bn (ui h18 60 (2 : Int32).toNatClampNeg x19) fun h20 =>
        gd (ix 3 6) <|
        bn (ui h20 60 (3 : Int32).toNatClampNeg a4) fun h21 =>
        gd (ix (9 + a2) 214) <|
        gd (ix 4 6) <|
        bn (ui h21 60 (4 : Int32).toNatClampNeg (h21.1 68 (9 + a2).toNatClampNeg)) fun h22 =>
        gd (ix 32 214) <|
        gd (ix 5 6) <|
        bn (ui h22 60 (5 : Int32).toNatClampNeg ((h22.1 68 (32 : Int32).toNatClampNeg) - (h22.1 68 (32 : Int32).toNatClampNeg) / 4 * 4)) fun h23 =>
        bi (f_Mod_worthOf N h23 (h23.1 51 29)) fun x24 h25 =>
        j11 (x24, h25)) fun j7 =>
    if a3 = 0 then
      j7 ()
    else
      if a3 = 1 then
        j7 ()
      else
        j3 (x2, h)) fun j1 =>
  if a3 = 2 then
    j1 8
  else
    j1 0
def f_Mod_doesNow (N : Nat) (h : mu_H) (a1 : Int32) (a2 : Int32) (a3 : Int32) : Option (Int32 × mu_H) :=
  gd (ix (0 + a2) 214) <|
  bi (f_Mod_doesBy N h a1 a2 a3 (h.1 68 (0 + a2).toNatClampNeg)) fun x1 h2 =>
  some (x1, h2)
def f_Mod_buys_L26 (N : Nat) (x3 : Int32) (k5 : (Int32 × mu_H) → Option (Int32 × mu_H)) (rec11 : (Int32 × Int32 × mu_H) → Option (Int32 × mu_H)) : (Int32 × Int32 × mu_H) → Option (Int32 × mu_H) := fun ((x12, x13, h14) : Int32 × Int32 × mu_H) =>
  if h14.1 51 25 ≤ x13 then
    k5 (x12, h14)
  else
    jn (fun ((x16, h17) : Int32 × mu_H) =>
      rec11 (x16, x13 + 1, h17)) fun j15 =>
    jn (fun (h19 : mu_H) =>
      j15 (0, h19)) fun j18 =>
    if x12 = 0 then
      j18 h14
    else
      (f_Mod_comes N h14 x3 x13).bind fun x20 =>
      jn (fun (h22 : mu_H) =>
        j15 (1, h22)) fun j21 =>
      if x20 = 0 then
        j21 h14
      else
        bi (f_Mod_doesNow N h14 x3 x13 0) fun x23 h24 =>
        bi (f_Mod_doesNow N h24 x3 x13 2) fun x26 h27 =>
        if x26 ≤ x23 then
          j18 h27
        else
          j21 h27
def f_Mod_buys_L13 (N : Nat) (rec1 : (Int32 × Int32 × mu_H) → Option (Int32 × mu_H)) : (Int32 × Int32 × mu_H) → Option (Int32 × mu_H) := fun ((x2, x3, h4) : Int32 × Int32 × mu_H) =>
  if h4.1 51 26 ≤ x3 then
    some (x2, h4)
  else
    jn (fun ((x6, h7) : Int32 × mu_H) =>
      jn (fun (x9 : Int32) =>
        bn (x2 ||| x9) fun x10 =>
        rec1 (x10, x3 + 1, h7)) fun j8 =>
      if x6 = 0 then
        j8 0
      else
        j8 ((1 : Int32) <<< (x3 &&& 31))) fun k5 =>
    lp (f_Mod_buys_L26 N x3 k5) N (1, 0, h4)
def f_Mod_buys (N : Nat) (h : mu_H) : Option (Int32 × mu_H) :=
  if h.1 51 25 = 0 then
    some ((-1), h)
  else
    lp (f_Mod_buys_L13 N) N (0, 0, h)
def f_Mod_byteOf (N : Nat) (h : mu_H) (a0 : Int32) (a1 : Int32) (a2 : Int32) (a3 : Int32) (a4 : Int32) (a5 : Int32) : Option Int32 :=
  jn (fun (x2 : Int32) =>
    some ((x2 >>> ((24 - (8 * (a5 - a5 / 4 * 4))) &&& 31)) &&& 255)) fun j1 =>
  if 4 ≤ a5 then
    if 8 ≤ a5 then
      if 12 ≤ a5 then
        if 16 ≤ a5 then
          j1 a4
        else
          j1 a3
      else
        j1 a2
    else
      j1 a1
  else
    j1 a0
def f_Mod_canMend_L28 (N : Nat) (rf : mu_H → Int32 → Int32 → Int32 → Int32 → Int32 → Option (Int32 × mu_H)) (a1 : Int32) (a2 : Int32) (a3 : Int32) (a4 : Int32) (a5 : Int32) (rec1 : (Int32 × Int32 × mu_H) → Option (Int32 × mu_H)) : (Int32 × Int32 × mu_H) → Option (Int32 × mu_H) := fun ((x2, x3, h4) : Int32 × Int32 × mu_H) =>
  if h4.1 51 26 ≤ x3 then
    gd (zb x2) (some (x2, h4))
  else
    if x2 = 0 then
      gd (ix x3 6) <|
      jn (fun ((x6, h7) : Int32 × mu_H) =>
        rec1 (x6, x3 + 1, h7)) fun j5 =>
      if h4.1 72 x3.toNatClampNeg ≤ 0 then
        j5 (x2, h4)
      else
        (f_Mod_comes N h4 x3 a1).bind fun x8 =>
        if x8 = 0 then
          j5 (x2, h4)
        else
          gd (ix x3 6) <|
          gd (ix x3 6) <|
          bn (ui h4 72 x3.toNatClampNeg ((h4.1 72 x3.toNatClampNeg) - 1)) fun h9 =>
          bi (f_Mod_doesBy N h9 x3 a1 0 a3) fun x10 h11 =>
          bi (rf h11 a1 (a2 - 1) (z_mmax 0 (a3 - x10)) a4 ((10 * a5) + x3)) fun x13 h14 =>
          gd (ix x3 6) <|
          gd (ix x3 6) <|
          bn (ui h14 72 x3.toNatClampNeg ((h14.1 72 x3.toNatClampNeg) + 1)) fun h16 =>
          j5 (x13, h16)
    else
      gd (zb x2) (some (x2, h4))
def f_Mod_canMend_B (N : Nat) (rf : mu_H → Int32 → Int32 → Int32 → Int32 → Int32 → Option (Int32 × mu_H)) (h : mu_H) (a1 : Int32) (a2 : Int32) (a3 : Int32) (a4 : Int32) (a5 : Int32) : Option (Int32 × mu_H) :=
  if a2 = 0 then
    bn (ui h 51 35 a5) fun h17 =>
    if a4 < a3 then
      some (0, h17)
    else
      some (1, h17)
  else
    lp (f_Mod_canMend_L28 N rf a1 a2 a3 a4 a5) N (0, 0, h)
def f_Mod_canMend_R (N : Nat) : ((mu_H × Int32 × Int32 × Int32 × Int32 × Int32) → Option (Int32 × mu_H)) → (mu_H × Int32 × Int32 × Int32 × Int32 × Int32) → Option (Int32 × mu_H) := fun (rf : (mu_H × Int32 × Int32 × Int32 × Int32 × Int32) → Option (Int32 × mu_H)) (s : mu_H × Int32 × Int32 × Int32 × Int32 × Int32) => f_Mod_canMend_B N (fun h a1 a2 a3 a4 a5 => rf (h, a1, a2, a3, a4, a5)) s.1 s.2.1 s.2.2.1 s.2.2.2.1 s.2.2.2.2.1 s.2.2.2.2.2
def f_Mod_canMend (N : Nat) (h : mu_H) (a1 : Int32) (a2 : Int32) (a3 : Int32) (a4 : Int32) (a5 : Int32) : Option (Int32 × mu_H) := lp (f_Mod_canMend_R N) 10 (h, a1, a2, a3, a4, a5)
def f_Mod_isSign (N : Nat) (h : mu_H) (a0 : Int32) : Option Int32 :=
  if a0 = 61 then
    some 1
  else
    if a0 = 60 then
      some 1
    else
      if a0 = 62 then
        some 1
      else
        some 0
def f_Mod_compare (N : Nat) (h : mu_H) : Option mu_H :=
  jn (fun ((x2, h3) : Int32 × mu_H) =>
    (f_Mod_isSign N h3 x2).bind fun x4 =>
    if x4 = 0 then
      (f_Mod_bad N h3).bind fun h10 =>
      some h10
    else
      bn (ui h3 51 3 ((h3.1 51 3) + 1)) fun h5 =>
      (f_Mod_sum N h5).bind fun h6 =>
      jn (fun (x8 : Int32) =>
        (f_Mod_put N h6 x8 0).bind fun h9 =>
        some h9) fun j7 =>
      if x2 = 61 then
        j7 6
      else
        if x2 = 60 then
          j7 7
        else
          j7 8) fun j1 =>
  if h.1 51 4 = (-1) then
    bi (f_Mod_look N h) fun x11 h12 =>
    j1 (x11, h12)
  else
    j1 ((-1), h)
def f_Mod_goOnAnd_L0 (N : Nat) (rf : mu_H → Option mu_H) (rec1 : mu_H → Option mu_H) : mu_H → Option mu_H := fun (h2 : mu_H) =>
  if h2.1 51 4 = (-1) then
    bi (f_Mod_look N h2) fun x3 h4 =>
    if x3 = 38 then
      bn (ui h4 51 3 ((h4.1 51 3) + 1)) fun h6 =>
      (rf h6).bind fun h7 =>
      (f_Mod_put N h7 10 0).bind fun h8 =>
      rec1 h8
    else
      some h4
  else
    some h2
def f_Mod_goOnAnd_B (N : Nat) (rf : mu_H → Option mu_H) (h : mu_H) : Option mu_H :=
  lp (f_Mod_goOnAnd_L0 N rf) N h
def f_Mod_goOnOr_L0 (N : Nat) (rf : mu_H → Option mu_H) (rec1 : mu_H → Option mu_H) : mu_H → Option mu_H := fun (h2 : mu_H) =>
  if h2.1 51 4 = (-1) then
    bi (f_Mod_look N h2) fun x3 h4 =>
    if x3 = 124 then
      bn (ui h4 51 3 ((h4.1 51 3) + 1)) fun h6 =>
      (rf h6).bind fun h7 =>
      (f_Mod_goOnAnd_B N rf h7).bind fun h8 =>
      (f_Mod_put N h8 11 0).bind fun h9 =>
      rec1 h9
    else
      some h4
  else
    some h2
def f_Mod_goOnOr_B (N : Nat) (rf : mu_H → Option mu_H) (h : mu_H) : Option mu_H :=
  lp (f_Mod_goOnOr_L0 N rf) N h
def f_Mod_condition_B (N : Nat) (rf : mu_H → Option mu_H) (h : mu_H) : Option mu_H :=
  (rf h).bind fun h1 =>
  (f_Mod_goOnAnd_B N rf h1).bind fun h2 =>
  (f_Mod_goOnOr_B N rf h2).bind fun h3 =>
  some h3
def f_Mod_unit_B (N : Nat) (rf : mu_H → Option mu_H) (h : mu_H) : Option mu_H :=
  bi (f_Mod_look N h) fun x1 h2 =>
  if x1 = 33 then
    (f_Mod_opens N h2).bind fun h9 =>
    if h9.1 51 4 = (-1) then
      (rf h9).bind fun h10 =>
      (f_Mod_put N h10 9 0).bind fun h11 =>
      bn (ui h11 51 5 ((h11.1 51 5) - 1)) fun h12 =>
      some h12
    else
      some h9
  else
    if x1 = 40 then
      (f_Mod_opens N h2).bind fun h6 =>
      if h6.1 51 4 = (-1) then
        (f_Mod_condition_B N rf h6).bind fun h7 =>
        (f_Mod_closes N h7 41).bind fun h8 =>
        some h8
      else
        some h6
    else
      (f_Mod_sum N h2).bind fun h4 =>
      if h4.1 51 4 = (-1) then
        (f_Mod_compare N h4).bind fun h5 =>
        some h5
      else
        some h4
def f_Mod_unit_R (N : Nat) : (mu_H → Option mu_H) → mu_H → Option mu_H := f_Mod_unit_B N
def f_Mod_unit (N : Nat) (h : mu_H) : Option mu_H := lp (f_Mod_unit_R N) 10 h
def f_Mod_goOnAnd (N : Nat) (h : mu_H) : Option mu_H := f_Mod_goOnAnd_B N (f_Mod_unit N) h 
def f_Mod_goOnOr (N : Nat) (h : mu_H) : Option mu_H := f_Mod_goOnOr_B N (f_Mod_unit N) h 
def f_Mod_condition (N : Nat) (h : mu_H) : Option mu_H := f_Mod_condition_B N (f_Mod_unit N) h 
def f_Mod_clause (N : Nat) (h : mu_H) : Option mu_H :=
  gd (ix (h.1 51 14) 5) <|
  bn ((140 * (h.1 51 14)) + (h.1 56 (h.1 51 14).toNatClampNeg)) fun x1 =>
  jn (fun (h3 : mu_H) =>
    bn (ui h3 51 3 ((h3.1 51 3) + 1)) fun h4 =>
    jn (fun (h6 : mu_H) =>
      bn (ui h6 51 3 ((h6.1 51 3) + 1)) fun h7 =>
      if h7.1 51 4 = (-1) then
        gd (ix (h7.1 51 14) 5) <|
        gd (ix x1 700) <|
        bn (ui h7 57 x1.toNatClampNeg (h7.1 55 (h7.1 51 14).toNatClampNeg)) fun h8 =>
        bi (f_Mod_look N h8) fun x9 h10 =>
        jn (fun ((x13, h14) : Int32 × mu_H) =>
          jn (fun ((x16, h17) : Int32 × mu_H) =>
            gd (ix x1 700) <|
            gd (ix x1 700) <|
            bn (ui h17 58 x1.toNatClampNeg (h17.1 57 x1.toNatClampNeg)) fun h18 =>
            jn (fun (h20 : mu_H) =>
              gd (ix (h20.1 51 14) 5) <|
              gd (ix x1 700) <|
              bn (ui h20 59 x1.toNatClampNeg (h20.1 55 (h20.1 51 14).toNatClampNeg)) fun h21 =>
              gd (ix (h21.1 51 14) 5) <|
              gd (ix (h21.1 51 14) 5) <|
              bn (ui h21 56 (h21.1 51 14).toNatClampNeg ((h21.1 56 (h21.1 51 14).toNatClampNeg) + 1)) fun h22 =>
              some h22) fun j19 =>
            if x16 = 0 then
              j19 h18
            else
              if h18.1 51 4 = (-1) then
                bi (f_Mod_look N h18) fun x23 h24 =>
                if x23 = 63 then
                  bn (ui h24 51 3 ((h24.1 51 3) + 1)) fun h26 =>
                  gd (ix (h26.1 51 14) 5) <|
                  gd (ix x1 700) <|
                  bn (ui h26 58 x1.toNatClampNeg (h26.1 55 (h26.1 51 14).toNatClampNeg)) fun h27 =>
                  (f_Mod_sum N h27).bind fun h28 =>
                  j19 h28
                else
                  (f_Mod_bad N h24).bind fun h29 =>
                  some h29
              else
                j19 h18) fun j15 =>
          if x13 = 0 then
            (f_Mod_sum N h14).bind fun h30 =>
            jn (fun ((x32, h33) : Int32 × mu_H) =>
              if x32 = 0 then
                j15 (x32, h33)
              else
                (f_Mod_compare N h33).bind fun h34 =>
                (f_Mod_goOnAnd N h34).bind fun h35 =>
                (f_Mod_goOnOr N h35).bind fun h36 =>
                j15 (x32, h36)) fun j31 =>
            jn (fun (h38 : mu_H) =>
              j31 (0, h38)) fun j37 =>
            if h30.1 51 4 = (-1) then
              bi (f_Mod_look N h30) fun x39 h40 =>
              (f_Mod_isSign N h40 x39).bind fun x42 =>
              if x42 = 0 then
                j37 h40
              else
                j31 (1, h40)
            else
              j37 h30
          else
            (f_Mod_condition N h14).bind fun h43 =>
            j15 (x13, h43)) fun j12 =>
        jn (fun (h45 : mu_H) =>
          j12 (1, h45)) fun j44 =>
        if x9 = 33 then
          j44 h10
        else
          bi (f_Mod_look N h10) fun x46 h47 =>
          if x46 = 40 then
            j44 h47
          else
            j12 (0, h47)
      else
        some h7) fun j5 =>
    if h4.1 51 4 = (-1) then
      bi (f_Mod_look N h4) fun x49 h50 =>
      if x49 = 58 then
        j5 h50
      else
        (f_Mod_bad N h50).bind fun h52 =>
        j5 h52
    else
      j5 h4) fun j2 =>
  if h.1 51 4 = (-1) then
    bi (f_Mod_look N h) fun x53 h54 =>
    if x53 = 121 then
      j2 h54
    else
      (f_Mod_bad N h54).bind fun h56 =>
      j2 h56
  else
    j2 h
def f_Mod_sumOf_L5 (h : mu_H) (a1 : Int32) (a2 : Int32) (rec1 : (Int32 × Int32) → Option Int32) : (Int32 × Int32) → Option Int32 := fun ((x2, x3) : Int32 × Int32) =>
  if a2 ≤ x3 then
    some x2
  else
    gd (ix (a1 + x3) 214) <|
    bn (x2 + (h.1 68 (a1 + x3).toNatClampNeg)) fun x4 =>
    rec1 (x4, x3 + 1)
def f_Mod_sumOf (N : Nat) (h : mu_H) (a1 : Int32) (a2 : Int32) : Option Int32 :=
  lp (f_Mod_sumOf_L5 h a1 a2) N (0, 0)
set_option maxRecDepth 20000 in
theorem cb_Mod_in (X : mu_X) (N : Nat) (h : mu_H) (a0 : Int32) (a1 : Int32) (a2 : Int32) : aG X m_Mod_in (rmk 1) (fun _ => ax X) (fun _ _ _ => True) 0 0 (fun r : Int32 => qI X r h) (f_Mod_in N h a0 a1 a2) 0 [(0, .int a0), (1, .int a1), (2, .int a2)] [] h := by
  unfold f_Mod_in
  refine ro_iload_n (pc := 0) 0 dX12_in_0 rfl rfl ?_
  refine ro_iload_n (pc := 1) 1 dX12_in_1 rfl rfl ?_
  refine ro_icmp_lt (tgt := 14) (pc := 2) dX12_in_2 (by decide) (fun _ => ?_) (fun _ => ?_)
  · skip
    refine ro_iconst (v := 0) (pc := 14) dX12_in_14 (by decide) ?_
    exact ro_zret (pc := 15) rfl rfl rfl dX12_in_15
  · skip
    refine ro_iload_n (pc := 5) 0 dX12_in_5 rfl rfl ?_
    refine ro_iload_n (pc := 6) 2 dX12_in_6 rfl rfl ?_
    refine ro_icmp_gt (tgt := 14) (pc := 7) dX12_in_7 (by decide) (fun _ => ?_) (fun _ => ?_)
    · skip
      refine ro_iconst (v := 0) (pc := 14) dX12_in_14 (by decide) ?_
      exact ro_zret (pc := 15) rfl rfl rfl dX12_in_15
    · skip
      refine ro_iconst (v := 1) (pc := 10) dX12_in_10 (by decide) ?_
      refine ro_goto (tgt := 15) (pc := 11) dX12_in_11 (by decide) ?_
      exact ro_zret (pc := 15) rfl rfl rfl dX12_in_15
theorem c_Mod_in (X : mu_X) (N : Nat) (h : mu_H) (a0 : Int32) (a1 : Int32) (a2 : Int32) : ∀ r, f_Mod_in N h a0 a1 a2 = some r → mI X m_Mod_in 1 [.int a0, .int a1, .int a2] h r h := fun r hr => mI_of (by decide) rfl (Nat.le_of_ble_eq_true rfl) rfl (cb_Mod_in X N h a0 a1 a2 r hr)
set_option maxRecDepth 20000 in
theorem cb_Mod_areFeigning (X : mu_X) (N : Nat) (h : mu_H) (a1 : Int32) : aG X m_Mod_areFeigning (rmk 2) (fun _ => ax X) (fun _ _ _ => True) 0 0 (fun r : Int32 => qI X r h) (f_Mod_areFeigning N h a1) 0 [(0, .ref (xa X 51)), (1, .int a1)] [] h := by
  unfold f_Mod_areFeigning
  refine ro_aload_n (pc := 0) 0 dX12_areFeigning_0 rfl rfl ?_
  refine gf_X12_25 (pc := 1) wd_1347 dX12_areFeigning_1 ?_
  refine ro_if_le (tgt := 20) (pc := 4) dX12_areFeigning_4 (by decide) (fun _ => ?_) (fun _ => ?_)
  · skip
    refine ro_iconst (v := 0) (pc := 20) dX12_areFeigning_20 (by decide) ?_
    exact ro_zret (pc := 21) rfl rfl rfl dX12_areFeigning_21
  · skip
    refine ro_iload_n (pc := 7) 1 dX12_areFeigning_7 rfl rfl ?_
    refine ro_iconst (v := 0) (pc := 8) dX12_areFeigning_8 (by decide) ?_
    refine ro_iconst (v := 3) (pc := 9) dX12_areFeigning_9 (by decide) ?_
    refine ro_csP (pc := 10) (kc := 1) (avs := [.int a1, .int 0, .int 3]) (st := []) ok_Mod_in wd_1523 ⟨by decide, by decide⟩ ⟨Nat.zero_le _, Nat.zero_le _⟩ (c_Mod_in X N h a1 0 3) rfl rfl (Nat.le_of_ble_eq_true rfl) dX12_areFeigning_10 (fun x1 => ?_)
    refine ro_if_eq (tgt := 20) (pc := 13) dX12_areFeigning_13 (by decide) (fun _ => ?_) (fun _ => ?_)
    · skip
      refine ro_iconst (v := 0) (pc := 20) dX12_areFeigning_20 (by decide) ?_
      exact ro_zret (pc := 21) rfl rfl rfl dX12_areFeigning_21
    · skip
      refine ro_iconst (v := 1) (pc := 16) dX12_areFeigning_16 (by decide) ?_
      refine ro_goto (tgt := 21) (pc := 17) dX12_areFeigning_17 (by decide) ?_
      exact ro_zret (pc := 21) rfl rfl rfl dX12_areFeigning_21
theorem c_Mod_areFeigning (X : mu_X) (N : Nat) (h : mu_H) (a1 : Int32) : ∀ r, f_Mod_areFeigning N h a1 = some r → mI X m_Mod_areFeigning 2 [.ref (xa X 51), .int a1] h r h := fun r hr => mI_of (by decide) rfl (Nat.le_of_ble_eq_true rfl) rfl (cb_Mod_areFeigning X N h a1 r hr)
set_option maxRecDepth 20000 in
theorem cb_Mod_areSeasons (X : mu_X) (N : Nat) (h : mu_H) (a1 : Int32) : aG X m_Mod_areSeasons (rmk 2) (fun _ => ax X) (fun _ _ _ => True) 0 0 (fun r : Int32 => qI X r h) (f_Mod_areSeasons N h a1) 0 [(0, .ref (xa X 51)), (1, .int a1)] [] h := by
  unfold f_Mod_areSeasons
  refine ro_iload_n (pc := 0) 1 dX12_areSeasons_0 rfl rfl ?_
  refine ro_iconst (v := 1) (pc := 1) dX12_areSeasons_1 (by decide) ?_
  refine ro_bipush (v := 60) (pc := 2) dX12_areSeasons_2 (by decide) ?_
  refine ro_csP (pc := 4) (kc := 1) (avs := [.int a1, .int 1, .int 60]) (st := []) ok_Mod_in wd_1523 ⟨by decide, by decide⟩ ⟨Nat.zero_le _, Nat.zero_le _⟩ (c_Mod_in X N h a1 1 60) rfl rfl (Nat.le_of_ble_eq_true rfl) dX12_areSeasons_4 (fun x1 => ?_)
  refine ro_if_eq (tgt := 29) (pc := 7) dX12_areSeasons_7 (by decide) (fun _ => ?_) (fun _ => ?_)
  · skip
    refine ro_iconst (v := 0) (pc := 29) dX12_areSeasons_29 (by decide) ?_
    exact ro_zret (pc := 30) rfl rfl rfl dX12_areSeasons_30
  · skip
    refine ro_aload_n (pc := 10) 0 dX12_areSeasons_10 rfl rfl ?_
    refine gf_X12_27 (pc := 11) wd_1349 dX12_areSeasons_11 ?_
    refine ro_bipush (v := 32) (pc := 14) dX12_areSeasons_14 (by decide) ?_
    refine ro_iald (pc := 16) (n := 214) cl_68 cv_68 dX12_areSeasons_16 ?_
    refine ro_iload_n (pc := 17) 1 dX12_areSeasons_17 rfl rfl ?_
    refine ro_iadd (pc := 18) dX12_areSeasons_18 ?_
    refine ro_sipush (v := 3999) (pc := 19) dX12_areSeasons_19 (by decide) ?_
    refine ro_icmp_gt (tgt := 29) (pc := 22) dX12_areSeasons_22 (by decide) (fun _ => ?_) (fun _ => ?_)
    · skip
      refine ro_iconst (v := 0) (pc := 29) dX12_areSeasons_29 (by decide) ?_
      exact ro_zret (pc := 30) rfl rfl rfl dX12_areSeasons_30
    · skip
      refine ro_iconst (v := 1) (pc := 25) dX12_areSeasons_25 (by decide) ?_
      refine ro_goto (tgt := 30) (pc := 26) dX12_areSeasons_26 (by decide) ?_
      exact ro_zret (pc := 30) rfl rfl rfl dX12_areSeasons_30
theorem c_Mod_areSeasons (X : mu_X) (N : Nat) (h : mu_H) (a1 : Int32) : ∀ r, f_Mod_areSeasons N h a1 = some r → mI X m_Mod_areSeasons 2 [.ref (xa X 51), .int a1] h r h := fun r hr => mI_of (by decide) rfl (Nat.le_of_ble_eq_true rfl) rfl (cb_Mod_areSeasons X N h a1 r hr)
set_option maxRecDepth 20000 in
theorem cb_Mod_isHouse (X : mu_X) (N : Nat) (h : mu_H) (a1 : Int32) : aG X m_Mod_isHouse (rmk 2) (fun _ => ax X) (fun _ _ _ => True) 0 0 (fun r : Int32 => qI X r h) (f_Mod_isHouse N h a1) 0 [(0, .ref (xa X 51)), (1, .int a1)] [] h := by
  unfold f_Mod_isHouse
  refine ro_iload_n (pc := 0) 1 dX12_isHouse_0 rfl rfl ?_
  refine ro_iconst (v := 0) (pc := 1) dX12_isHouse_1 (by decide) ?_
  refine ro_aload_n (pc := 2) 0 dX12_isHouse_2 rfl rfl ?_
  refine gf_X12_26 (pc := 3) wd_1348 dX12_isHouse_3 ?_
  refine ro_iconst (v := 1) (pc := 6) dX12_isHouse_6 (by decide) ?_
  refine ro_isub (pc := 7) dX12_isHouse_7 ?_
  refine ro_csP (pc := 8) (kc := 1) (avs := [.int a1, .int 0, .int ((h.1 51 26) - 1)]) (st := []) ok_Mod_in wd_1523 ⟨by decide, by decide⟩ ⟨Nat.zero_le _, Nat.zero_le _⟩ (c_Mod_in X N h a1 0 ((h.1 51 26) - 1)) rfl rfl (Nat.le_of_ble_eq_true rfl) dX12_isHouse_8 (fun x1 => ?_)
  exact ro_zretg (pc := 11) rfl rfl dX12_isHouse_11
theorem c_Mod_isHouse (X : mu_X) (N : Nat) (h : mu_H) (a1 : Int32) : ∀ r, f_Mod_isHouse N h a1 = some r → mI X m_Mod_isHouse 2 [.ref (xa X 51), .int a1] h r h := fun r hr => mI_of (by decide) rfl (Nat.le_of_ble_eq_true rfl) rfl (cb_Mod_isHouse X N h a1 r hr)
set_option maxRecDepth 20000 in
theorem cb_Mod_isStretch (X : mu_X) (N : Nat) (h : mu_H) (a1 : Int32) : aG X m_Mod_isStretch (rmk 2) (fun _ => ax X) (fun _ _ _ => True) 0 0 (fun r : Int32 => qI X r h) (f_Mod_isStretch N h a1) 0 [(0, .ref (xa X 51)), (1, .int a1)] [] h := by
  unfold f_Mod_isStretch
  refine ro_iload_n (pc := 0) 1 dX12_isStretch_0 rfl rfl ?_
  refine ro_iconst (v := 0) (pc := 1) dX12_isStretch_1 (by decide) ?_
  refine ro_aload_n (pc := 2) 0 dX12_isStretch_2 rfl rfl ?_
  refine gf_X12_25 (pc := 3) wd_1347 dX12_isStretch_3 ?_
  refine ro_iconst (v := 1) (pc := 6) dX12_isStretch_6 (by decide) ?_
  refine ro_isub (pc := 7) dX12_isStretch_7 ?_
  refine ro_csP (pc := 8) (kc := 1) (avs := [.int a1, .int 0, .int ((h.1 51 25) - 1)]) (st := []) ok_Mod_in wd_1523 ⟨by decide, by decide⟩ ⟨Nat.zero_le _, Nat.zero_le _⟩ (c_Mod_in X N h a1 0 ((h.1 51 25) - 1)) rfl rfl (Nat.le_of_ble_eq_true rfl) dX12_isStretch_8 (fun x1 => ?_)
  exact ro_zretg (pc := 11) rfl rfl dX12_isStretch_11
theorem c_Mod_isStretch (X : mu_X) (N : Nat) (h : mu_H) (a1 : Int32) : ∀ r, f_Mod_isStretch N h a1 = some r → mI X m_Mod_isStretch 2 [.ref (xa X 51), .int a1] h r h := fun r hr => mI_of (by decide) rfl (Nat.le_of_ble_eq_true rfl) rfl (cb_Mod_isStretch X N h a1 r hr)
set_option maxRecDepth 20000 in
theorem cb_Mod_ofHouse (X : mu_X) (N : Nat) (h : mu_H) (a1 : Int32) (a2 : Int32) : aG X m_Mod_ofHouse (rmk 1) (fun _ => ax X) (fun _ _ _ => True) 0 0 (fun r : Int32 => qI X r h) (f_Mod_ofHouse N h a1 a2) 0 [(0, .ref (xa X 51)), (1, .int a1), (2, .int a2)] [] h := by
  unfold f_Mod_ofHouse
  refine ro_aload_n (pc := 0) 0 dX12_ofHouse_0 rfl rfl ?_
  refine gf_X12_24 (pc := 1) wd_1346 dX12_ofHouse_1 ?_
  refine ro_iconst (v := 3) (pc := 4) dX12_ofHouse_4 (by decide) ?_
  refine ro_iload_n (pc := 5) 1 dX12_ofHouse_5 rfl rfl ?_
  refine ro_imul (pc := 6) dX12_ofHouse_6 ?_
  refine ro_iload_n (pc := 7) 2 dX12_ofHouse_7 rfl rfl ?_
  refine ro_iadd (pc := 8) dX12_ofHouse_8 ?_
  refine ro_iald (pc := 9) (n := 18) cl_67 cv_67 dX12_ofHouse_9 ?_
  exact ro_iret (pc := 10) rfl rfl dX12_ofHouse_10
theorem c_Mod_ofHouse (X : mu_X) (N : Nat) (h : mu_H) (a1 : Int32) (a2 : Int32) : ∀ r, f_Mod_ofHouse N h a1 a2 = some r → mI X m_Mod_ofHouse 1 [.ref (xa X 51), .int a1, .int a2] h r h := fun r hr => mI_of (by decide) rfl (Nat.le_of_ble_eq_true rfl) rfl (cb_Mod_ofHouse X N h a1 a2 r hr)
set_option maxRecDepth 20000 in
theorem cb_Mod_of (X : mu_X) (N : Nat) (h : mu_H) (a1 : Int32) (a2 : Int32) : aG X m_Mod_of (rmk 1) (fun _ => ax X) (fun _ _ _ => True) 0 0 (fun r : Int32 => qI X r h) (f_Mod_of N h a1 a2) 0 [(0, .ref (xa X 51)), (1, .int a1), (2, .int a2)] [] h := by
  unfold f_Mod_of
  refine ro_aload_n (pc := 0) 0 dX12_of_0 rfl rfl ?_
  refine gf_X12_23 (pc := 1) wd_1345 dX12_of_1 ?_
  refine ro_iconst (v := 5) (pc := 4) dX12_of_4 (by decide) ?_
  refine ro_iload_n (pc := 5) 1 dX12_of_5 rfl rfl ?_
  refine ro_imul (pc := 6) dX12_of_6 ?_
  refine ro_iload_n (pc := 7) 2 dX12_of_7 rfl rfl ?_
  refine ro_iadd (pc := 8) dX12_of_8 ?_
  refine ro_iald (pc := 9) (n := 45) cl_66 cv_66 dX12_of_9 ?_
  exact ro_iret (pc := 10) rfl rfl dX12_of_10
theorem c_Mod_of (X : mu_X) (N : Nat) (h : mu_H) (a1 : Int32) (a2 : Int32) : ∀ r, f_Mod_of N h a1 a2 = some r → mI X m_Mod_of 1 [.ref (xa X 51), .int a1, .int a2] h r h := fun r hr => mI_of (by decide) rfl (Nat.le_of_ble_eq_true rfl) rfl (cb_Mod_of X N h a1 a2 r hr)
set_option maxRecDepth 20000 in
theorem cb_Mod_haulOf (X : mu_X) (N : Nat) (h : mu_H) (a1 : Int32) (a2 : Int32) : aG X m_Mod_haulOf (rmk 2) (fun _ => ax X) (fun _ _ _ => True) 0 0 (fun r : Int32 => qI X r h) (f_Mod_haulOf N h a1 a2) 0 [(0, .ref (xa X 51)), (1, .int a1), (2, .int a2)] [] h := by
  unfold f_Mod_haulOf
  refine ro_aload_n (pc := 0) 0 dX12_haulOf_0 rfl rfl ?_
  refine gf_X12_30 (pc := 1) wd_1352 dX12_haulOf_1 ?_
  refine ro_bipush (v := 8) (pc := 4) dX12_haulOf_4 (by decide) ?_
  refine ro_aload_n (pc := 6) 0 dX12_haulOf_6 rfl rfl ?_
  refine ro_iload_n (pc := 7) 1 dX12_haulOf_7 rfl rfl ?_
  refine ro_iconst (v := 0) (pc := 8) dX12_haulOf_8 (by decide) ?_
  refine ro_cvP (pc := 9) (kc := 1) (avs := [.int a1, .int 0]) (st := [.int 8, .ref (xa X 70)]) ok_Mod_ofHouse wd_1638 cl_51 cv_51 rfl ⟨by decide, by decide⟩ ⟨Nat.zero_le _, Nat.zero_le _⟩ (c_Mod_ofHouse X N h a1 0) rfl rfl (Nat.le_of_ble_eq_true rfl) dX12_haulOf_9 (fun x1 => ?_)
  refine ro_imul (pc := 12) dX12_haulOf_12 ?_
  refine ro_aload_n (pc := 13) 0 dX12_haulOf_13 rfl rfl ?_
  refine ro_iload_n (pc := 14) 2 dX12_haulOf_14 rfl rfl ?_
  refine ro_iconst (v := 0) (pc := 15) dX12_haulOf_15 (by decide) ?_
  refine ro_cvP (pc := 16) (kc := 1) (avs := [.int a2, .int 0]) (st := [.int (8 * x1), .ref (xa X 70)]) ok_Mod_of wd_1608 cl_51 cv_51 rfl ⟨by decide, by decide⟩ ⟨Nat.zero_le _, Nat.zero_le _⟩ (c_Mod_of X N h a2 0) rfl rfl (Nat.le_of_ble_eq_true rfl) dX12_haulOf_16 (fun x2 => ?_)
  refine ro_iadd (pc := 19) dX12_haulOf_19 ?_
  refine ro_iald (pc := 20) (n := 64) cl_70 cv_70 dX12_haulOf_20 ?_
  refine ro_aload_n (pc := 21) 0 dX12_haulOf_21 rfl rfl ?_
  refine gf_X12_30 (pc := 22) wd_1352 dX12_haulOf_22 ?_
  refine ro_bipush (v := 8) (pc := 25) dX12_haulOf_25 (by decide) ?_
  refine ro_aload_n (pc := 27) 0 dX12_haulOf_27 rfl rfl ?_
  refine ro_iload_n (pc := 28) 1 dX12_haulOf_28 rfl rfl ?_
  refine ro_iconst (v := 0) (pc := 29) dX12_haulOf_29 (by decide) ?_
  refine ro_cvP (pc := 30) (kc := 1) (avs := [.int a1, .int 0]) (st := [.int 8, .ref (xa X 70), .int (h.1 70 ((8 * x1) + x2).toNatClampNeg)]) ok_Mod_ofHouse wd_1638 cl_51 cv_51 rfl ⟨by decide, by decide⟩ ⟨Nat.zero_le _, Nat.zero_le _⟩ (c_Mod_ofHouse X N h a1 0) rfl rfl (Nat.le_of_ble_eq_true rfl) dX12_haulOf_30 (fun x3 => ?_)
  refine ro_imul (pc := 33) dX12_haulOf_33 ?_
  refine ro_aload_n (pc := 34) 0 dX12_haulOf_34 rfl rfl ?_
  refine ro_iload_n (pc := 35) 2 dX12_haulOf_35 rfl rfl ?_
  refine ro_iconst (v := 1) (pc := 36) dX12_haulOf_36 (by decide) ?_
  refine ro_cvP (pc := 37) (kc := 1) (avs := [.int a2, .int 1]) (st := [.int (8 * x3), .ref (xa X 70), .int (h.1 70 ((8 * x1) + x2).toNatClampNeg)]) ok_Mod_of wd_1608 cl_51 cv_51 rfl ⟨by decide, by decide⟩ ⟨Nat.zero_le _, Nat.zero_le _⟩ (c_Mod_of X N h a2 1) rfl rfl (Nat.le_of_ble_eq_true rfl) dX12_haulOf_37 (fun x4 => ?_)
  refine ro_iadd (pc := 40) dX12_haulOf_40 ?_
  refine ro_iald (pc := 41) (n := 64) cl_70 cv_70 dX12_haulOf_41 ?_
  refine ro_mmin (pc := 42) (st := []) wd_1617 (by decide) (Nat.le_of_ble_eq_true rfl) ⟨Nat.zero_le _, Nat.zero_le _⟩ dX12_haulOf_42 ?_
  exact ro_iret (pc := 45) rfl rfl dX12_haulOf_45
theorem c_Mod_haulOf (X : mu_X) (N : Nat) (h : mu_H) (a1 : Int32) (a2 : Int32) : ∀ r, f_Mod_haulOf N h a1 a2 = some r → mI X m_Mod_haulOf 2 [.ref (xa X 51), .int a1, .int a2] h r h := fun r hr => mI_of (by decide) rfl (Nat.le_of_ble_eq_true rfl) rfl (cb_Mod_haulOf X N h a1 a2 r hr)
set_option maxRecDepth 20000 in
theorem cb_Mod_comes (X : mu_X) (N : Nat) (h : mu_H) (a1 : Int32) (a2 : Int32) : aG X m_Mod_comes (rmk 3) (fun _ => ax X) (fun _ _ _ => True) 0 0 (fun r : Int32 => qI X r h) (f_Mod_comes N h a1 a2) 0 [(0, .ref (xa X 51)), (1, .int a1), (2, .int a2)] [] h := by
  unfold f_Mod_comes
  refine ro_aload_n (pc := 0) 0 dX12_comes_0 rfl rfl ?_
  refine ro_iload_n (pc := 1) 1 dX12_comes_1 rfl rfl ?_
  refine ro_iload_n (pc := 2) 2 dX12_comes_2 rfl rfl ?_
  refine ro_cvP (pc := 3) (kc := 2) (avs := [.int a1, .int a2]) (st := []) ok_Mod_haulOf wd_1654 cl_51 cv_51 rfl ⟨by decide, by decide⟩ ⟨Nat.zero_le _, Nat.zero_le _⟩ (c_Mod_haulOf X N h a1 a2) rfl rfl (Nat.le_of_ble_eq_true rfl) dX12_comes_3 (fun x1 => ?_)
  refine ro_ldcw (v := 1000000) (pc := 6) dX12_comes_6 wd_1616 ?_
  refine ro_icmp_ge (tgt := 16) (pc := 9) dX12_comes_9 (by decide) (fun _ => ?_) (fun _ => ?_)
  · skip
    refine ro_iconst (v := 0) (pc := 16) dX12_comes_16 (by decide) ?_
    exact ro_zret (pc := 17) rfl rfl rfl dX12_comes_17
  · skip
    refine ro_iconst (v := 1) (pc := 12) dX12_comes_12 (by decide) ?_
    refine ro_goto (tgt := 17) (pc := 13) dX12_comes_13 (by decide) ?_
    exact ro_zret (pc := 17) rfl rfl rfl dX12_comes_17
theorem c_Mod_comes (X : mu_X) (N : Nat) (h : mu_H) (a1 : Int32) (a2 : Int32) : ∀ r, f_Mod_comes N h a1 a2 = some r → mI X m_Mod_comes 3 [.ref (xa X 51), .int a1, .int a2] h r h := fun r hr => mI_of (by decide) rfl (Nat.le_of_ble_eq_true rfl) rfl (cb_Mod_comes X N h a1 a2 r hr)
set_option maxRecDepth 20000 in
theorem cb_Mod_areTwo (X : mu_X) (N : Nat) (h : mu_H) (a1 : Int32) (a2 : Int32) (a3 : Int32) : aG X m_Mod_areTwo (rmk 4) (fun _ => ax X) (fun _ _ _ => True) 0 0 (fun r : Int32 => qI X r h) (f_Mod_areTwo N h a1 a2 a3) 0 [(0, .ref (xa X 51)), (1, .int a1), (2, .int a2), (3, .int a3)] [] h := by
  unfold f_Mod_areTwo
  refine ro_aload_n (pc := 0) 0 dX12_areTwo_0 rfl rfl ?_
  refine ro_iload_n (pc := 1) 1 dX12_areTwo_1 rfl rfl ?_
  refine ro_cvP (pc := 2) (kc := 2) (avs := [.int a1]) (st := []) ok_Mod_isHouse wd_1634 cl_51 cv_51 rfl ⟨by decide, by decide⟩ ⟨Nat.zero_le _, Nat.zero_le _⟩ (c_Mod_isHouse X N h a1) rfl rfl (Nat.le_of_ble_eq_true rfl) dX12_areTwo_2 (fun x1 => ?_)
  refine ro_if_eq (tgt := 51) (pc := 5) dX12_areTwo_5 (by decide) (fun _ => ?_) (fun _ => ?_)
  · skip
    refine ro_iconst (v := 0) (pc := 51) dX12_areTwo_51 (by decide) ?_
    exact ro_zret (pc := 52) rfl rfl rfl dX12_areTwo_52
  · skip
    refine ro_aload_n (pc := 8) 0 dX12_areTwo_8 rfl rfl ?_
    refine ro_iload_n (pc := 9) 2 dX12_areTwo_9 rfl rfl ?_
    refine ro_cvP (pc := 10) (kc := 2) (avs := [.int a2]) (st := []) ok_Mod_isHouse wd_1634 cl_51 cv_51 rfl ⟨by decide, by decide⟩ ⟨Nat.zero_le _, Nat.zero_le _⟩ (c_Mod_isHouse X N h a2) rfl rfl (Nat.le_of_ble_eq_true rfl) dX12_areTwo_10 (fun x2 => ?_)
    refine ro_if_eq (tgt := 51) (pc := 13) dX12_areTwo_13 (by decide) (fun _ => ?_) (fun _ => ?_)
    · skip
      refine ro_iconst (v := 0) (pc := 51) dX12_areTwo_51 (by decide) ?_
      exact ro_zret (pc := 52) rfl rfl rfl dX12_areTwo_52
    · skip
      refine ro_iload_n (pc := 16) 1 dX12_areTwo_16 rfl rfl ?_
      refine ro_iload_n (pc := 17) 2 dX12_areTwo_17 rfl rfl ?_
      refine ro_icmp_eq (tgt := 51) (pc := 18) dX12_areTwo_18 (by decide) (fun _ => ?_) (fun _ => ?_)
      · skip
        refine ro_iconst (v := 0) (pc := 51) dX12_areTwo_51 (by decide) ?_
        exact ro_zret (pc := 52) rfl rfl rfl dX12_areTwo_52
      · skip
        refine ro_aload_n (pc := 21) 0 dX12_areTwo_21 rfl rfl ?_
        refine ro_iload_n (pc := 22) 3 dX12_areTwo_22 rfl rfl ?_
        refine ro_cvP (pc := 23) (kc := 2) (avs := [.int a3]) (st := []) ok_Mod_isStretch wd_1626 cl_51 cv_51 rfl ⟨by decide, by decide⟩ ⟨Nat.zero_le _, Nat.zero_le _⟩ (c_Mod_isStretch X N h a3) rfl rfl (Nat.le_of_ble_eq_true rfl) dX12_areTwo_23 (fun x3 => ?_)
        refine ro_if_eq (tgt := 51) (pc := 26) dX12_areTwo_26 (by decide) (fun _ => ?_) (fun _ => ?_)
        · skip
          refine ro_iconst (v := 0) (pc := 51) dX12_areTwo_51 (by decide) ?_
          exact ro_zret (pc := 52) rfl rfl rfl dX12_areTwo_52
        · skip
          refine ro_aload_n (pc := 29) 0 dX12_areTwo_29 rfl rfl ?_
          refine ro_iload_n (pc := 30) 1 dX12_areTwo_30 rfl rfl ?_
          refine ro_iload_n (pc := 31) 3 dX12_areTwo_31 rfl rfl ?_
          refine ro_cvP (pc := 32) (kc := 3) (avs := [.int a1, .int a3]) (st := []) ok_Mod_comes wd_1650 cl_51 cv_51 rfl ⟨by decide, by decide⟩ ⟨Nat.zero_le _, Nat.zero_le _⟩ (c_Mod_comes X N h a1 a3) rfl rfl (Nat.le_of_ble_eq_true rfl) dX12_areTwo_32 (fun x4 => ?_)
          refine ro_if_eq (tgt := 51) (pc := 35) dX12_areTwo_35 (by decide) (fun _ => ?_) (fun _ => ?_)
          · skip
            refine ro_iconst (v := 0) (pc := 51) dX12_areTwo_51 (by decide) ?_
            exact ro_zret (pc := 52) rfl rfl rfl dX12_areTwo_52
          · skip
            refine ro_aload_n (pc := 38) 0 dX12_areTwo_38 rfl rfl ?_
            refine ro_iload_n (pc := 39) 2 dX12_areTwo_39 rfl rfl ?_
            refine ro_iload_n (pc := 40) 3 dX12_areTwo_40 rfl rfl ?_
            refine ro_cvP (pc := 41) (kc := 3) (avs := [.int a2, .int a3]) (st := []) ok_Mod_comes wd_1650 cl_51 cv_51 rfl ⟨by decide, by decide⟩ ⟨Nat.zero_le _, Nat.zero_le _⟩ (c_Mod_comes X N h a2 a3) rfl rfl (Nat.le_of_ble_eq_true rfl) dX12_areTwo_41 (fun x5 => ?_)
            refine ro_if_eq (tgt := 51) (pc := 44) dX12_areTwo_44 (by decide) (fun _ => ?_) (fun _ => ?_)
            · skip
              refine ro_iconst (v := 0) (pc := 51) dX12_areTwo_51 (by decide) ?_
              exact ro_zret (pc := 52) rfl rfl rfl dX12_areTwo_52
            · skip
              refine ro_iconst (v := 1) (pc := 47) dX12_areTwo_47 (by decide) ?_
              refine ro_goto (tgt := 52) (pc := 48) dX12_areTwo_48 (by decide) ?_
              exact ro_zret (pc := 52) rfl rfl rfl dX12_areTwo_52
theorem c_Mod_areTwo (X : mu_X) (N : Nat) (h : mu_H) (a1 : Int32) (a2 : Int32) (a3 : Int32) : ∀ r, f_Mod_areTwo N h a1 a2 a3 = some r → mI X m_Mod_areTwo 4 [.ref (xa X 51), .int a1, .int a2, .int a3] h r h := fun r hr => mI_of (by decide) rfl (Nat.le_of_ble_eq_true rfl) rfl (cb_Mod_areTwo X N h a1 a2 a3 r hr)
set_option maxRecDepth 20000 in
theorem cb_Mod_here (X : mu_X) (N : Nat) (h : mu_H) : aG X m_Mod_here (rmk 1) (fun _ => ax X) (fun _ _ _ => True) 0 0 (fun r : Int32 => qI X r h) (f_Mod_here N h) 0 [(0, .ref (xa X 51))] [] h := by
  unfold f_Mod_here
  refine ro_aload_n (pc := 0) 0 dX12_here_0 rfl rfl ?_
  refine gf_X12_3 (pc := 1) wd_1325 dX12_here_1 ?_
  refine ro_aload_n (pc := 4) 0 dX12_here_4 rfl rfl ?_
  refine gf_X12_2 (pc := 5) wd_1324 dX12_here_5 ?_
  refine ro_icmp_ge (tgt := 23) (pc := 8) dX12_here_8 (by decide) (fun _ => ?_) (fun _ => ?_)
  · skip
    refine ro_iconst (v := (-1)) (pc := 23) dX12_here_23 (by decide) ?_
    exact ro_iret (pc := 24) rfl rfl dX12_here_24
  · skip
    refine ro_aload_n (pc := 11) 0 dX12_here_11 rfl rfl ?_
    refine gf_X12_1 (pc := 12) wd_1323 dX12_here_12 ?_
    refine ro_aload_n (pc := 15) 0 dX12_here_15 rfl rfl ?_
    refine gf_X12_3 (pc := 16) wd_1325 dX12_here_16 ?_
    refine ro_iald (pc := 19) (n := 240) cl_52 cv_52 dX12_here_19 ?_
    refine ro_goto (tgt := 24) (pc := 20) dX12_here_20 (by decide) ?_
    exact ro_iret (pc := 24) rfl rfl dX12_here_24
theorem c_Mod_here (X : mu_X) (N : Nat) (h : mu_H) : ∀ r, f_Mod_here N h = some r → mI X m_Mod_here 1 [.ref (xa X 51)] h r h := fun r hr => mI_of (by decide) rfl (Nat.le_of_ble_eq_true rfl) rfl (cb_Mod_here X N h r hr)
set_option maxRecDepth 20000 in
theorem cb_Mod_look (X : mu_X) (N : Nat) (h : mu_H) : aG X m_Mod_look (rmk 2) (fun _ => ax X) (fun _ _ _ => True) 0 0 (fun r : Int32 × mu_H => qI X r.1 r.2) (f_Mod_look N h) 0 [(0, .ref (xa X 51))] [] h := by
  unfold f_Mod_look
  refine ro_jn (pcj := 22) (lvs := fun (s : mu_H) => [(0, .ref (xa X 51))]) (hs := fun (s : mu_H) => s) (sts := fun (s : mu_H) => []) (fun h2 => ?_) (fun k1 hk1 => ?_)
  · try dsimp only
    refine ro_aload_n (pc := 22) 0 dX12_look_22 rfl rfl ?_
    refine ro_cvP (pc := 23) (kc := 1) (avs := []) (st := []) ok_Mod_here wd_1492 cl_51 cv_51 rfl ⟨by decide, by decide⟩ ⟨Nat.zero_le _, Nat.zero_le _⟩ (c_Mod_here X N h2) rfl rfl (Nat.le_of_ble_eq_true rfl) dX12_look_23 (fun x3 => ?_)
    exact ro_iret (pc := 26) rfl rfl dX12_look_26
  · skip
    refine ro_lp (pc := 0) (lvs := fun (s : mu_H) => [(0, .ref (xa X 51))]) (hs := fun (s : mu_H) => s) (fun rec4 hrec4 h5 => ?_) N h
    unfold f_Mod_look_L0; try dsimp only
    refine ro_aload_n (pc := 0) 0 dX12_look_0 rfl rfl ?_
    refine ro_cvP (pc := 1) (kc := 1) (avs := []) (st := []) ok_Mod_here wd_1492 cl_51 cv_51 rfl ⟨by decide, by decide⟩ ⟨Nat.zero_le _, Nat.zero_le _⟩ (c_Mod_here X N h5) rfl rfl (Nat.le_of_ble_eq_true rfl) dX12_look_1 (fun x6 => ?_)
    refine ro_bipush (v := 32) (pc := 4) dX12_look_4 (by decide) ?_
    refine ro_icmp_ne (tgt := 22) (pc := 6) dX12_look_6 (by decide) (fun _ => ?_) (fun _ => ?_)
    · skip
      exact hk1 h5
    · skip
      refine ro_aload_n (pc := 9) 0 dX12_look_9 rfl rfl ?_
      refine ro_dup (pc := 10) dX12_look_10 rfl ?_
      refine gf_X12_3 (pc := 11) wd_1325 dX12_look_11 ?_
      refine ro_iconst (v := 1) (pc := 14) dX12_look_14 (by decide) ?_
      refine ro_iadd (pc := 15) dX12_look_15 ?_
      refine pf_X12_3 (pc := 16) wd_1325 dX12_look_16 ?_
      refine ro_bnh (fun h7 => ?_)
      refine ro_goto (tgt := 0) (pc := 19) dX12_look_19 (by decide) ?_
      exact hrec4 h7
theorem c_Mod_look (X : mu_X) (N : Nat) (h : mu_H) : ∀ r, f_Mod_look N h = some r → mI X m_Mod_look 2 [.ref (xa X 51)] h r.1 r.2 := fun r hr => mI_of (by decide) rfl (Nat.le_of_ble_eq_true rfl) rfl (cb_Mod_look X N h r hr)
set_option maxRecDepth 20000 in
theorem cb_Mod_bad (X : mu_X) (N : Nat) (h : mu_H) : aG X m_Mod_bad (rmk 1) (fun _ => ax X) (fun _ _ _ => True) 0 0 (fun r : mu_H => qV X r) (f_Mod_bad N h) 0 [(0, .ref (xa X 51))] [] h := by
  unfold f_Mod_bad
  refine ro_aload_n (pc := 0) 0 dX12_bad_0 rfl rfl ?_
  refine ro_aload_n (pc := 1) 0 dX12_bad_1 rfl rfl ?_
  refine gf_X12_4 (pc := 2) wd_1326 dX12_bad_2 ?_
  refine ro_iconst (v := (-1)) (pc := 5) dX12_bad_5 (by decide) ?_
  refine ro_jn (pcj := 20) (lvs := fun (s : Int32) => []) (hs := fun (s : Int32) => h) (sts := fun (s : Int32) => [.int s, .ref (xa X 51)]) (fun x2 => ?_) (fun j1 hj1 => ?_)
  · try dsimp only
    refine pf_X12_4 (pc := 20) wd_1326 dX12_bad_20 ?_
    refine ro_bnh (fun h3 => ?_)
    exact ro_vret (pc := 23) rfl rfl dX12_bad_23
  · skip
    refine ro_icmp_ne (tgt := 16) (pc := 6) dX12_bad_6 (by decide) (fun _ => ?_) (fun _ => ?_)
    · skip
      refine ro_aload_n (pc := 16) 0 dX12_bad_16 rfl rfl ?_
      refine gf_X12_4 (pc := 17) wd_1326 dX12_bad_17 ?_
      refine ro_lv [] rfl ?_
      exact hj1 (h.1 51 4)
    · skip
      refine ro_aload_n (pc := 9) 0 dX12_bad_9 rfl rfl ?_
      refine gf_X12_3 (pc := 10) wd_1325 dX12_bad_10 ?_
      refine ro_goto (tgt := 20) (pc := 13) dX12_bad_13 (by decide) ?_
      refine ro_lv [] rfl ?_
      exact hj1 (h.1 51 3)
theorem c_Mod_bad (X : mu_X) (N : Nat) (h : mu_H) : ∀ r, f_Mod_bad N h = some r → mV X m_Mod_bad 1 [.ref (xa X 51)] h r := fun r hr => mV_of (by decide) rfl (Nat.le_of_ble_eq_true rfl) rfl (cb_Mod_bad X N h r hr)
set_option maxRecDepth 20000 in
theorem cb_Mod_atEnd (X : mu_X) (N : Nat) (h : mu_H) : aG X m_Mod_atEnd (rmk 3) (fun _ => ax X) (fun _ _ _ => True) 0 0 (fun r : Int32 × mu_H => qI X r.1 r.2) (f_Mod_atEnd N h) 0 [(0, .ref (xa X 51))] [] h := by
  unfold f_Mod_atEnd
  refine ro_aload_n (pc := 0) 0 dX12_atEnd_0 rfl rfl ?_
  refine gf_X12_4 (pc := 1) wd_1326 dX12_atEnd_1 ?_
  refine ro_iconst (v := (-1)) (pc := 4) dX12_atEnd_4 (by decide) ?_
  refine ro_jn (pcj := 20) (lvs := fun (s : mu_H) => [(0, .ref (xa X 51))]) (hs := fun (s : mu_H) => s) (sts := fun (s : mu_H) => []) (fun h2 => ?_) (fun j1 hj1 => ?_)
  · try dsimp only
    refine ro_aload_n (pc := 20) 0 dX12_atEnd_20 rfl rfl ?_
    refine gf_X12_4 (pc := 21) wd_1326 dX12_atEnd_21 ?_
    exact ro_iret (pc := 24) rfl rfl dX12_atEnd_24
  · skip
    refine ro_icmp_ne (tgt := 20) (pc := 5) dX12_atEnd_5 (by decide) (fun _ => ?_) (fun _ => ?_)
    · skip
      exact hj1 h
    · skip
      refine ro_aload_n (pc := 8) 0 dX12_atEnd_8 rfl rfl ?_
      refine ro_cvI (pc := 9) (kc := 2) (avs := []) (st := []) ok_Mod_look wd_1488 cl_51 cv_51 rfl ⟨by decide, by decide⟩ ⟨Nat.zero_le _, Nat.zero_le _⟩ (c_Mod_look X N h) rfl rfl (Nat.le_of_ble_eq_true rfl) dX12_atEnd_9 (fun x3 h4 => ?_)
      refine ro_iconst (v := (-1)) (pc := 12) dX12_atEnd_12 (by decide) ?_
      refine ro_icmp_eq (tgt := 20) (pc := 13) dX12_atEnd_13 (by decide) (fun _ => ?_) (fun _ => ?_)
      · skip
        exact hj1 h4
      · skip
        refine ro_aload_n (pc := 16) 0 dX12_atEnd_16 rfl rfl ?_
        refine ro_cvV (pc := 17) (kc := 1) (avs := []) (st := []) ok_Mod_bad wd_1519 cl_51 cv_51 rfl ⟨by decide, by decide⟩ ⟨Nat.zero_le _, Nat.zero_le _⟩ (c_Mod_bad X N h4) rfl rfl (Nat.le_of_ble_eq_true rfl) dX12_atEnd_17 (fun h6 => ?_)
        exact hj1 h6
theorem c_Mod_atEnd (X : mu_X) (N : Nat) (h : mu_H) : ∀ r, f_Mod_atEnd N h = some r → mI X m_Mod_atEnd 3 [.ref (xa X 51)] h r.1 r.2 := fun r hr => mI_of (by decide) rfl (Nat.le_of_ble_eq_true rfl) rfl (cb_Mod_atEnd X N h r hr)
set_option maxRecDepth 20000 in
theorem cb_Mod_isDigit (X : mu_X) (N : Nat) (h : mu_H) (a0 : Int32) : aG X m_Mod_isDigit (rmk 1) (fun _ => ax X) (fun _ _ _ => True) 0 0 (fun r : Int32 => qI X r h) (f_Mod_isDigit N h a0) 0 [(0, .int a0)] [] h := by
  unfold f_Mod_isDigit
  refine ro_iload_n (pc := 0) 0 dX12_isDigit_0 rfl rfl ?_
  refine ro_bipush (v := 48) (pc := 1) dX12_isDigit_1 (by decide) ?_
  refine ro_icmp_lt (tgt := 16) (pc := 3) dX12_isDigit_3 (by decide) (fun _ => ?_) (fun _ => ?_)
  · skip
    refine ro_iconst (v := 0) (pc := 16) dX12_isDigit_16 (by decide) ?_
    exact ro_zret (pc := 17) rfl rfl rfl dX12_isDigit_17
  · skip
    refine ro_iload_n (pc := 6) 0 dX12_isDigit_6 rfl rfl ?_
    refine ro_bipush (v := 57) (pc := 7) dX12_isDigit_7 (by decide) ?_
    refine ro_icmp_gt (tgt := 16) (pc := 9) dX12_isDigit_9 (by decide) (fun _ => ?_) (fun _ => ?_)
    · skip
      refine ro_iconst (v := 0) (pc := 16) dX12_isDigit_16 (by decide) ?_
      exact ro_zret (pc := 17) rfl rfl rfl dX12_isDigit_17
    · skip
      refine ro_iconst (v := 1) (pc := 12) dX12_isDigit_12 (by decide) ?_
      refine ro_goto (tgt := 17) (pc := 13) dX12_isDigit_13 (by decide) ?_
      exact ro_zret (pc := 17) rfl rfl rfl dX12_isDigit_17
theorem c_Mod_isDigit (X : mu_X) (N : Nat) (h : mu_H) (a0 : Int32) : ∀ r, f_Mod_isDigit N h a0 = some r → mI X m_Mod_isDigit 1 [.int a0] h r h := fun r hr => mI_of (by decide) rfl (Nat.le_of_ble_eq_true rfl) rfl (cb_Mod_isDigit X N h a0 r hr)
set_option maxRecDepth 20000 in
theorem cb_Mod_plainNumber (X : mu_X) (N : Nat) (h : mu_H) : aG X m_Mod_plainNumber (rmk 2) (fun _ => ax X) (fun _ _ _ => True) 0 0 (fun r : Int32 × mu_H => qI X r.1 r.2) (f_Mod_plainNumber N h) 0 [(0, .ref (xa X 51))] [] h := by
  unfold f_Mod_plainNumber
  refine ro_iconst (v := 0) (pc := 0) dX12_plainNumber_0 (by decide) ?_
  refine ro_istore_n (pc := 1) (lv' := [(1, .int 0), (0, .ref (xa X 51))]) dX12_plainNumber_1 rfl (by decide) rfl ?_
  refine ro_iconst (v := 0) (pc := 2) dX12_plainNumber_2 (by decide) ?_
  refine ro_istore_n (pc := 3) (lv' := [(2, .int 0), (1, .int 0), (0, .ref (xa X 51))]) dX12_plainNumber_3 rfl (by decide) rfl ?_
  refine ro_jn (pcj := 48) (lvs := fun (s : Int32 × mu_H) => [(0, .ref (xa X 51)), (1, .int s.1)]) (hs := fun (s : Int32 × mu_H) => s.2) (sts := fun (s : Int32 × mu_H) => []) (fun s => ?_) (fun k1 hk1 => ?_)
  · obtain ⟨x2, h3⟩ := s; try dsimp only
    refine ro_aload_n (pc := 48) 0 dX12_plainNumber_48 rfl rfl ?_
    refine ro_cvP (pc := 49) (kc := 1) (avs := []) (st := []) ok_Mod_here wd_1492 cl_51 cv_51 rfl ⟨by decide, by decide⟩ ⟨Nat.zero_le _, Nat.zero_le _⟩ (c_Mod_here X N h3) rfl rfl (Nat.le_of_ble_eq_true rfl) dX12_plainNumber_49 (fun x4 => ?_)
    refine ro_csP (pc := 52) (kc := 1) (avs := [.int x4]) (st := []) ok_Mod_isDigit wd_1516 ⟨by decide, by decide⟩ ⟨Nat.zero_le _, Nat.zero_le _⟩ (c_Mod_isDigit X N h3 x4) rfl rfl (Nat.le_of_ble_eq_true rfl) dX12_plainNumber_52 (fun x5 => ?_)
    refine ro_if_eq (tgt := 62) (pc := 55) dX12_plainNumber_55 (by decide) (fun _ => ?_) (fun _ => ?_)
    · skip
      refine ro_iload_n (pc := 62) 1 dX12_plainNumber_62 rfl rfl ?_
      exact ro_iret (pc := 63) rfl rfl dX12_plainNumber_63
    · skip
      refine ro_aload_n (pc := 58) 0 dX12_plainNumber_58 rfl rfl ?_
      refine ro_cvV (pc := 59) (kc := 1) (avs := []) (st := []) ok_Mod_bad wd_1519 cl_51 cv_51 rfl ⟨by decide, by decide⟩ ⟨Nat.zero_le _, Nat.zero_le _⟩ (c_Mod_bad X N h3) rfl rfl (Nat.le_of_ble_eq_true rfl) dX12_plainNumber_59 (fun h6 => ?_)
      refine ro_iload_n (pc := 62) 1 dX12_plainNumber_62 rfl rfl ?_
      exact ro_iret (pc := 63) rfl rfl dX12_plainNumber_63
  · skip
    refine ro_lv [2, 1, 0] rfl ?_
    refine ro_lp (pc := 4) (lvs := fun (s : Int32 × Int32 × mu_H) => [(0, .ref (xa X 51)), (1, .int s.1), (2, .int s.2.1)]) (hs := fun (s : Int32 × Int32 × mu_H) => s.2.2) (fun rec7 hrec7 s => ?_) N (0, 0, h)
    obtain ⟨x8, x9, h10⟩ := s; unfold f_Mod_plainNumber_L4; try dsimp only
    refine ro_iload_n (pc := 4) 2 dX12_plainNumber_4 rfl rfl ?_
    refine ro_iconst (v := 4) (pc := 5) dX12_plainNumber_5 (by decide) ?_
    refine ro_icmp_ge (tgt := 48) (pc := 6) dX12_plainNumber_6 (by decide) (fun _ => ?_) (fun _ => ?_)
    · skip
      refine ro_lv [0, 1] rfl ?_
      exact hk1 (x8, h10)
    · skip
      refine ro_aload_n (pc := 9) 0 dX12_plainNumber_9 rfl rfl ?_
      refine ro_cvP (pc := 10) (kc := 1) (avs := []) (st := []) ok_Mod_here wd_1492 cl_51 cv_51 rfl ⟨by decide, by decide⟩ ⟨Nat.zero_le _, Nat.zero_le _⟩ (c_Mod_here X N h10) rfl rfl (Nat.le_of_ble_eq_true rfl) dX12_plainNumber_10 (fun x11 => ?_)
      refine ro_csP (pc := 13) (kc := 1) (avs := [.int x11]) (st := []) ok_Mod_isDigit wd_1516 ⟨by decide, by decide⟩ ⟨Nat.zero_le _, Nat.zero_le _⟩ (c_Mod_isDigit X N h10 x11) rfl rfl (Nat.le_of_ble_eq_true rfl) dX12_plainNumber_13 (fun x12 => ?_)
      refine ro_if_eq (tgt := 48) (pc := 16) dX12_plainNumber_16 (by decide) (fun _ => ?_) (fun _ => ?_)
      · skip
        refine ro_lv [0, 1] rfl ?_
        exact hk1 (x8, h10)
      · skip
        refine ro_bipush (v := 10) (pc := 19) dX12_plainNumber_19 (by decide) ?_
        refine ro_iload_n (pc := 21) 1 dX12_plainNumber_21 rfl rfl ?_
        refine ro_imul (pc := 22) dX12_plainNumber_22 ?_
        refine ro_aload_n (pc := 23) 0 dX12_plainNumber_23 rfl rfl ?_
        refine ro_cvP (pc := 24) (kc := 1) (avs := []) (st := [.int (10 * x8)]) ok_Mod_here wd_1492 cl_51 cv_51 rfl ⟨by decide, by decide⟩ ⟨Nat.zero_le _, Nat.zero_le _⟩ (c_Mod_here X N h10) rfl rfl (Nat.le_of_ble_eq_true rfl) dX12_plainNumber_24 (fun x13 => ?_)
        refine ro_iadd (pc := 27) dX12_plainNumber_27 ?_
        refine ro_bipush (v := 48) (pc := 28) dX12_plainNumber_28 (by decide) ?_
        refine ro_isub (pc := 30) dX12_plainNumber_30 ?_
        refine ro_bn (fun x14 => ?_)
        refine ro_istore_n (pc := 31) (lv' := [(1, .int x14), (0, .ref (xa X 51)), (2, .int x9)]) dX12_plainNumber_31 rfl (by decide) rfl ?_
        refine ro_aload_n (pc := 32) 1 dX12_plainNumber_32 rfl rfl ?_
        refine ro_dup (pc := 33) dX12_plainNumber_33 rfl ?_
        refine gf_X12_3 (pc := 34) wd_1325 dX12_plainNumber_34 ?_
        refine ro_iconst (v := 1) (pc := 37) dX12_plainNumber_37 (by decide) ?_
        refine ro_iadd (pc := 38) dX12_plainNumber_38 ?_
        refine pf_X12_3 (pc := 39) wd_1325 dX12_plainNumber_39 ?_
        refine ro_bnh (fun h15 => ?_)
        refine ro_iinc (pc := 42) (v := x9 + 1) (lv' := [(2, .int (x9 + 1)), (1, .int x14), (0, .ref (xa X 51))]) 2 dX12_plainNumber_42 rfl rfl (by decide) rfl ?_
        refine ro_goto (tgt := 4) (pc := 45) dX12_plainNumber_45 (by decide) ?_
        refine ro_lv [2, 1, 0] rfl ?_
        exact hrec7 (x14, x9 + 1, h15)
theorem c_Mod_plainNumber (X : mu_X) (N : Nat) (h : mu_H) : ∀ r, f_Mod_plainNumber N h = some r → mI X m_Mod_plainNumber 2 [.ref (xa X 51)] h r.1 r.2 := fun r hr => mI_of (by decide) rfl (Nat.le_of_ble_eq_true rfl) rfl (cb_Mod_plainNumber X N h r hr)
set_option maxRecDepth 20000 in
theorem cb_Mod_put (X : mu_X) (N : Nat) (h : mu_H) (a1 : Int32) (a2 : Int32) : aG X m_Mod_put (rmk 1) (fun _ => ax X) (fun _ _ _ => True) 0 0 (fun r : mu_H => qV X r) (f_Mod_put N h a1 a2) 0 [(0, .ref (xa X 51)), (1, .int a1), (2, .int a2)] [] h := by
  unfold f_Mod_put
  refine ro_aload_n (pc := 0) 0 dX12_put_0 rfl rfl ?_
  refine gf_X12_6 (pc := 1) wd_1328 dX12_put_1 ?_
  refine ro_sipush (v := 520) (pc := 4) dX12_put_4 (by decide) ?_
  refine ro_aload_n (pc := 7) 0 dX12_put_7 rfl rfl ?_
  refine gf_X12_14 (pc := 8) wd_1336 dX12_put_8 ?_
  refine ro_imul (pc := 11) dX12_put_11 ?_
  refine ro_aload_n (pc := 12) 0 dX12_put_12 rfl rfl ?_
  refine gf_X12_8 (pc := 13) wd_1330 dX12_put_13 ?_
  refine ro_aload_n (pc := 16) 0 dX12_put_16 rfl rfl ?_
  refine gf_X12_14 (pc := 17) wd_1336 dX12_put_17 ?_
  refine ro_iald (pc := 20) (n := 5) cl_55 cv_55 dX12_put_20 ?_
  refine ro_iadd (pc := 21) dX12_put_21 ?_
  refine ro_iload_n (pc := 22) 1 dX12_put_22 rfl rfl ?_
  refine ro_iast (pc := 23) (n := 2600) cl_53 cv_53 dX12_put_23 ?_
  refine ro_bnh (fun h1 => ?_)
  refine ro_aload_n (pc := 24) 0 dX12_put_24 rfl rfl ?_
  refine gf_X12_7 (pc := 25) wd_1329 dX12_put_25 ?_
  refine ro_sipush (v := 520) (pc := 28) dX12_put_28 (by decide) ?_
  refine ro_aload_n (pc := 31) 0 dX12_put_31 rfl rfl ?_
  refine gf_X12_14 (pc := 32) wd_1336 dX12_put_32 ?_
  refine ro_imul (pc := 35) dX12_put_35 ?_
  refine ro_aload_n (pc := 36) 0 dX12_put_36 rfl rfl ?_
  refine gf_X12_8 (pc := 37) wd_1330 dX12_put_37 ?_
  refine ro_aload_n (pc := 40) 0 dX12_put_40 rfl rfl ?_
  refine gf_X12_14 (pc := 41) wd_1336 dX12_put_41 ?_
  refine ro_iald (pc := 44) (n := 5) cl_55 cv_55 dX12_put_44 ?_
  refine ro_iadd (pc := 45) dX12_put_45 ?_
  refine ro_iload_n (pc := 46) 2 dX12_put_46 rfl rfl ?_
  refine ro_iast (pc := 47) (n := 2600) cl_54 cv_54 dX12_put_47 ?_
  refine ro_bnh (fun h2 => ?_)
  refine ro_aload_n (pc := 48) 0 dX12_put_48 rfl rfl ?_
  refine gf_X12_8 (pc := 49) wd_1330 dX12_put_49 ?_
  refine ro_aload_n (pc := 52) 0 dX12_put_52 rfl rfl ?_
  refine gf_X12_14 (pc := 53) wd_1336 dX12_put_53 ?_
  refine ro_dup2_11 (pc := 56) dX12_put_56 rfl rfl ?_
  refine ro_iald (pc := 57) (n := 5) cl_55 cv_55 dX12_put_57 ?_
  refine ro_iconst (v := 1) (pc := 58) dX12_put_58 (by decide) ?_
  refine ro_iadd (pc := 59) dX12_put_59 ?_
  refine ro_iast (pc := 60) (n := 5) cl_55 cv_55 dX12_put_60 ?_
  refine ro_bnh (fun h3 => ?_)
  exact ro_vret (pc := 61) rfl rfl dX12_put_61
theorem c_Mod_put (X : mu_X) (N : Nat) (h : mu_H) (a1 : Int32) (a2 : Int32) : ∀ r, f_Mod_put N h a1 a2 = some r → mV X m_Mod_put 1 [.ref (xa X 51), .int a1, .int a2] h r := fun r hr => mV_of (by decide) rfl (Nat.le_of_ble_eq_true rfl) rfl (cb_Mod_put X N h a1 a2 r hr)
set_option maxRecDepth 20000 in
theorem cb_Mod_letterOf (X : mu_X) (N : Nat) (h : mu_H) (a0 : Int32) : aG X m_Mod_letterOf (rmk 1) (fun _ => ax X) (fun _ _ _ => True) 0 0 (fun r : Int32 => qI X r h) (f_Mod_letterOf N h a0) 0 [(0, .int a0)] [] h := by
  unfold f_Mod_letterOf
  refine ro_iload_n (pc := 0) 0 dX12_letterOf_0 rfl rfl ?_
  refine ro_bipush (v := 113) (pc := 1) dX12_letterOf_1 (by decide) ?_
  refine ro_icmp_ne (tgt := 10) (pc := 3) dX12_letterOf_3 (by decide) (fun _ => ?_) (fun _ => ?_)
  · skip
    refine ro_iload_n (pc := 10) 0 dX12_letterOf_10 rfl rfl ?_
    refine ro_bipush (v := 122) (pc := 11) dX12_letterOf_11 (by decide) ?_
    refine ro_icmp_ne (tgt := 20) (pc := 13) dX12_letterOf_13 (by decide) (fun _ => ?_) (fun _ => ?_)
    · skip
      refine ro_iload_n (pc := 20) 0 dX12_letterOf_20 rfl rfl ?_
      refine ro_bipush (v := 104) (pc := 21) dX12_letterOf_21 (by decide) ?_
      refine ro_icmp_ne (tgt := 30) (pc := 23) dX12_letterOf_23 (by decide) (fun _ => ?_) (fun _ => ?_)
      · skip
        refine ro_iload_n (pc := 30) 0 dX12_letterOf_30 rfl rfl ?_
        refine ro_bipush (v := 119) (pc := 31) dX12_letterOf_31 (by decide) ?_
        refine ro_icmp_ne (tgt := 40) (pc := 33) dX12_letterOf_33 (by decide) (fun _ => ?_) (fun _ => ?_)
        · skip
          refine ro_iload_n (pc := 40) 0 dX12_letterOf_40 rfl rfl ?_
          refine ro_bipush (v := 101) (pc := 41) dX12_letterOf_41 (by decide) ?_
          refine ro_icmp_ne (tgt := 50) (pc := 43) dX12_letterOf_43 (by decide) (fun _ => ?_) (fun _ => ?_)
          · skip
            refine ro_iload_n (pc := 50) 0 dX12_letterOf_50 rfl rfl ?_
            refine ro_bipush (v := 115) (pc := 51) dX12_letterOf_51 (by decide) ?_
            refine ro_icmp_ne (tgt := 60) (pc := 53) dX12_letterOf_53 (by decide) (fun _ => ?_) (fun _ => ?_)
            · skip
              refine ro_iconst (v := (-1)) (pc := 60) dX12_letterOf_60 (by decide) ?_
              exact ro_iret (pc := 61) rfl rfl dX12_letterOf_61
            · skip
              refine ro_iconst (v := 5) (pc := 56) dX12_letterOf_56 (by decide) ?_
              refine ro_goto (tgt := 61) (pc := 57) dX12_letterOf_57 (by decide) ?_
              exact ro_iret (pc := 61) rfl rfl dX12_letterOf_61
          · skip
            refine ro_iconst (v := 4) (pc := 46) dX12_letterOf_46 (by decide) ?_
            refine ro_goto (tgt := 61) (pc := 47) dX12_letterOf_47 (by decide) ?_
            exact ro_iret (pc := 61) rfl rfl dX12_letterOf_61
        · skip
          refine ro_iconst (v := 3) (pc := 36) dX12_letterOf_36 (by decide) ?_
          refine ro_goto (tgt := 61) (pc := 37) dX12_letterOf_37 (by decide) ?_
          exact ro_iret (pc := 61) rfl rfl dX12_letterOf_61
      · skip
        refine ro_iconst (v := 2) (pc := 26) dX12_letterOf_26 (by decide) ?_
        refine ro_goto (tgt := 61) (pc := 27) dX12_letterOf_27 (by decide) ?_
        exact ro_iret (pc := 61) rfl rfl dX12_letterOf_61
    · skip
      refine ro_iconst (v := 1) (pc := 16) dX12_letterOf_16 (by decide) ?_
      refine ro_goto (tgt := 61) (pc := 17) dX12_letterOf_17 (by decide) ?_
      exact ro_iret (pc := 61) rfl rfl dX12_letterOf_61
  · skip
    refine ro_iconst (v := 0) (pc := 6) dX12_letterOf_6 (by decide) ?_
    refine ro_goto (tgt := 61) (pc := 7) dX12_letterOf_7 (by decide) ?_
    exact ro_iret (pc := 61) rfl rfl dX12_letterOf_61
theorem c_Mod_letterOf (X : mu_X) (N : Nat) (h : mu_H) (a0 : Int32) : ∀ r, f_Mod_letterOf N h a0 = some r → mI X m_Mod_letterOf 1 [.int a0] h r h := fun r hr => mI_of (by decide) rfl (Nat.le_of_ble_eq_true rfl) rfl (cb_Mod_letterOf X N h a0 r hr)
set_option maxRecDepth 20000 in
theorem cb_Mod_opens (X : mu_X) (N : Nat) (h : mu_H) : aG X m_Mod_opens (rmk 2) (fun _ => ax X) (fun _ _ _ => True) 0 0 (fun r : mu_H => qV X r) (f_Mod_opens N h) 0 [(0, .ref (xa X 51))] [] h := by
  unfold f_Mod_opens
  refine ro_aload_n (pc := 0) 0 dX12_opens_0 rfl rfl ?_
  refine gf_X12_5 (pc := 1) wd_1327 dX12_opens_1 ?_
  refine ro_bipush (v := 6) (pc := 4) dX12_opens_4 (by decide) ?_
  refine ro_jn (pcj := 13) (lvs := fun (s : mu_H) => [(0, .ref (xa X 51))]) (hs := fun (s : mu_H) => s) (sts := fun (s : mu_H) => []) (fun h2 => ?_) (fun j1 hj1 => ?_)
  · try dsimp only
    refine ro_aload_n (pc := 13) 0 dX12_opens_13 rfl rfl ?_
    refine ro_dup (pc := 14) dX12_opens_14 rfl ?_
    refine gf_X12_5 (pc := 15) wd_1327 dX12_opens_15 ?_
    refine ro_iconst (v := 1) (pc := 18) dX12_opens_18 (by decide) ?_
    refine ro_iadd (pc := 19) dX12_opens_19 ?_
    refine pf_X12_5 (pc := 20) wd_1327 dX12_opens_20 ?_
    refine ro_bnh (fun h3 => ?_)
    refine ro_aload_n (pc := 23) 0 dX12_opens_23 rfl rfl ?_
    refine ro_dup (pc := 24) dX12_opens_24 rfl ?_
    refine gf_X12_3 (pc := 25) wd_1325 dX12_opens_25 ?_
    refine ro_iconst (v := 1) (pc := 28) dX12_opens_28 (by decide) ?_
    refine ro_iadd (pc := 29) dX12_opens_29 ?_
    refine pf_X12_3 (pc := 30) wd_1325 dX12_opens_30 ?_
    refine ro_bnh (fun h4 => ?_)
    exact ro_vret (pc := 33) rfl rfl dX12_opens_33
  · skip
    refine ro_icmp_ne (tgt := 13) (pc := 6) dX12_opens_6 (by decide) (fun _ => ?_) (fun _ => ?_)
    · skip
      exact hj1 h
    · skip
      refine ro_aload_n (pc := 9) 0 dX12_opens_9 rfl rfl ?_
      refine ro_cvV (pc := 10) (kc := 1) (avs := []) (st := []) ok_Mod_bad wd_1519 cl_51 cv_51 rfl ⟨by decide, by decide⟩ ⟨Nat.zero_le _, Nat.zero_le _⟩ (c_Mod_bad X N h) rfl rfl (Nat.le_of_ble_eq_true rfl) dX12_opens_10 (fun h5 => ?_)
      exact hj1 h5
theorem c_Mod_opens (X : mu_X) (N : Nat) (h : mu_H) : ∀ r, f_Mod_opens N h = some r → mV X m_Mod_opens 2 [.ref (xa X 51)] h r := fun r hr => mV_of (by decide) rfl (Nat.le_of_ble_eq_true rfl) rfl (cb_Mod_opens X N h r hr)
set_option maxRecDepth 20000 in
theorem cb_Mod_closes (X : mu_X) (N : Nat) (h : mu_H) (a1 : Int32) : aG X m_Mod_closes (rmk 3) (fun _ => ax X) (fun _ _ _ => True) 0 0 (fun r : mu_H => qV X r) (f_Mod_closes N h a1) 0 [(0, .ref (xa X 51)), (1, .int a1)] [] h := by
  unfold f_Mod_closes
  refine ro_aload_n (pc := 0) 0 dX12_closes_0 rfl rfl ?_
  refine gf_X12_4 (pc := 1) wd_1326 dX12_closes_1 ?_
  refine ro_iconst (v := (-1)) (pc := 4) dX12_closes_4 (by decide) ?_
  refine ro_jn (pcj := 20) (lvs := fun (s : mu_H) => [(0, .ref (xa X 51))]) (hs := fun (s : mu_H) => s) (sts := fun (s : mu_H) => []) (fun h2 => ?_) (fun j1 hj1 => ?_)
  · try dsimp only
    refine ro_aload_n (pc := 20) 0 dX12_closes_20 rfl rfl ?_
    refine ro_dup (pc := 21) dX12_closes_21 rfl ?_
    refine gf_X12_3 (pc := 22) wd_1325 dX12_closes_22 ?_
    refine ro_iconst (v := 1) (pc := 25) dX12_closes_25 (by decide) ?_
    refine ro_iadd (pc := 26) dX12_closes_26 ?_
    refine pf_X12_3 (pc := 27) wd_1325 dX12_closes_27 ?_
    refine ro_bnh (fun h3 => ?_)
    refine ro_aload_n (pc := 30) 0 dX12_closes_30 rfl rfl ?_
    refine ro_dup (pc := 31) dX12_closes_31 rfl ?_
    refine gf_X12_5 (pc := 32) wd_1327 dX12_closes_32 ?_
    refine ro_iconst (v := 1) (pc := 35) dX12_closes_35 (by decide) ?_
    refine ro_isub (pc := 36) dX12_closes_36 ?_
    refine pf_X12_5 (pc := 37) wd_1327 dX12_closes_37 ?_
    refine ro_bnh (fun h4 => ?_)
    exact ro_vret (pc := 40) rfl rfl dX12_closes_40
  · skip
    refine ro_icmp_ne (tgt := 20) (pc := 5) dX12_closes_5 (by decide) (fun _ => ?_) (fun _ => ?_)
    · skip
      refine ro_lv [0] rfl ?_
      exact hj1 h
    · skip
      refine ro_aload_n (pc := 8) 0 dX12_closes_8 rfl rfl ?_
      refine ro_cvI (pc := 9) (kc := 2) (avs := []) (st := []) ok_Mod_look wd_1488 cl_51 cv_51 rfl ⟨by decide, by decide⟩ ⟨Nat.zero_le _, Nat.zero_le _⟩ (c_Mod_look X N h) rfl rfl (Nat.le_of_ble_eq_true rfl) dX12_closes_9 (fun x5 h6 => ?_)
      refine ro_iload_n (pc := 12) 1 dX12_closes_12 rfl rfl ?_
      refine ro_icmp_eq (tgt := 20) (pc := 13) dX12_closes_13 (by decide) (fun _ => ?_) (fun _ => ?_)
      · skip
        refine ro_lv [0] rfl ?_
        exact hj1 h6
      · skip
        refine ro_aload_n (pc := 16) 0 dX12_closes_16 rfl rfl ?_
        refine ro_cvV (pc := 17) (kc := 1) (avs := []) (st := []) ok_Mod_bad wd_1519 cl_51 cv_51 rfl ⟨by decide, by decide⟩ ⟨Nat.zero_le _, Nat.zero_le _⟩ (c_Mod_bad X N h6) rfl rfl (Nat.le_of_ble_eq_true rfl) dX12_closes_17 (fun h8 => ?_)
        refine ro_lv [0] rfl ?_
        exact hj1 h8
theorem c_Mod_closes (X : mu_X) (N : Nat) (h : mu_H) (a1 : Int32) : ∀ r, f_Mod_closes N h a1 = some r → mV X m_Mod_closes 3 [.ref (xa X 51), .int a1] h r := fun r hr => mV_of (by decide) rfl (Nat.le_of_ble_eq_true rfl) rfl (cb_Mod_closes X N h a1 r hr)
set_option maxRecDepth 20000 in
theorem cb_Mod_atom_B (X : mu_X) (N : Nat) (rf : mu_H → Option mu_H) (kc : Nat) (hk : 3 ≤ kc) (hrf : ∀ (h : mu_H), ∀ r, rf h = some r → mV X m_Mod_sum kc [.ref (xa X 51)] h r) (h : mu_H) : aG X m_Mod_atom (rmk (kc + 1)) (fun _ => ax X) (fun _ _ _ => True) 0 0 (fun r : mu_H => qV X r) (f_Mod_atom_B N rf h) 0 [(0, .ref (xa X 51))] [] h := by
  unfold f_Mod_atom_B
  refine ro_aload_n (pc := 0) 0 dX12_atom_0 rfl rfl ?_
  refine ro_cvI (pc := 1) (kc := 2) (avs := []) (st := []) ok_Mod_look wd_1488 cl_51 cv_51 rfl ⟨show 2 + 1 ≤ kc + 1 by omega, show 8 + (1 + 11) + 60 * (2) ≤ 60 * (kc + 1) by omega⟩ ⟨Nat.zero_le _, Nat.zero_le _⟩ (c_Mod_look X N h) rfl rfl (Nat.le_of_ble_eq_true rfl) dX12_atom_1 (fun x1 h2 => ?_)
  refine ro_istore_n (pc := 4) (lv' := [(1, .int x1), (0, .ref (xa X 51))]) dX12_atom_4 rfl (by decide) rfl ?_
  refine ro_iload_n (pc := 5) 0 dX12_atom_5 rfl rfl ?_
  refine ro_csP (pc := 6) (kc := 1) (avs := [.int x1]) (st := []) ok_Mod_isDigit wd_1516 ⟨show 1 + 1 ≤ kc + 1 by omega, show 8 + (1 + 11) + 60 * (1) ≤ 60 * (kc + 1) by omega⟩ ⟨Nat.zero_le _, Nat.zero_le _⟩ (c_Mod_isDigit X N h2 x1) rfl rfl (Nat.le_of_ble_eq_true rfl) dX12_atom_6 (fun x4 => ?_)
  refine ro_if_eq (tgt := 24) (pc := 9) dX12_atom_9 (by decide) (fun _ => ?_) (fun _ => ?_)
  · skip
    refine ro_iload_n (pc := 24) 0 dX12_atom_24 rfl rfl ?_
    refine ro_csP (pc := 25) (kc := 1) (avs := [.int x1]) (st := []) ok_Mod_letterOf wd_1578 ⟨show 1 + 1 ≤ kc + 1 by omega, show 8 + (1 + 11) + 60 * (1) ≤ 60 * (kc + 1) by omega⟩ ⟨Nat.zero_le _, Nat.zero_le _⟩ (c_Mod_letterOf X N h2 x1) rfl rfl (Nat.le_of_ble_eq_true rfl) dX12_atom_25 (fun x5 => ?_)
    refine ro_iconst (v := (-1)) (pc := 28) dX12_atom_28 (by decide) ?_
    refine ro_icmp_eq (tgt := 54) (pc := 29) dX12_atom_29 (by decide) (fun _ => ?_) (fun _ => ?_)
    · skip
      refine ro_iload_n (pc := 54) 0 dX12_atom_54 rfl rfl ?_
      refine ro_bipush (v := 91) (pc := 55) dX12_atom_55 (by decide) ?_
      refine ro_icmp_ne (tgt := 85) (pc := 57) dX12_atom_57 (by decide) (fun _ => ?_) (fun _ => ?_)
      · skip
        refine ro_aload_n (pc := 85) 1 dX12_atom_85 rfl rfl ?_
        refine ro_cvV (pc := 86) (kc := 1) (avs := []) (st := []) ok_Mod_bad wd_1519 cl_51 cv_51 rfl ⟨show 1 + 1 ≤ kc + 1 by omega, show 8 + (1 + 11) + 60 * (1) ≤ 60 * (kc + 1) by omega⟩ ⟨Nat.zero_le _, Nat.zero_le _⟩ (c_Mod_bad X N h2) rfl rfl (Nat.le_of_ble_eq_true rfl) dX12_atom_86 (fun h6 => ?_)
        exact ro_vret (pc := 89) rfl rfl dX12_atom_89
      · skip
        refine ro_aload_n (pc := 60) 1 dX12_atom_60 rfl rfl ?_
        refine ro_cvV (pc := 61) (kc := 2) (avs := []) (st := []) ok_Mod_opens wd_1550 cl_51 cv_51 rfl ⟨show 2 + 1 ≤ kc + 1 by omega, show 8 + (1 + 11) + 60 * (2) ≤ 60 * (kc + 1) by omega⟩ ⟨Nat.zero_le _, Nat.zero_le _⟩ (c_Mod_opens X N h2) rfl rfl (Nat.le_of_ble_eq_true rfl) dX12_atom_61 (fun h7 => ?_)
        refine ro_aload_n (pc := 64) 1 dX12_atom_64 rfl rfl ?_
        refine gf_X12_4 (pc := 65) wd_1326 dX12_atom_65 ?_
        refine ro_iconst (v := (-1)) (pc := 68) dX12_atom_68 (by decide) ?_
        refine ro_icmp_ne (tgt := 89) (pc := 69) dX12_atom_69 (by decide) (fun _ => ?_) (fun _ => ?_)
        · skip
          exact ro_vret (pc := 89) rfl rfl dX12_atom_89
        · skip
          refine ro_aload_n (pc := 72) 1 dX12_atom_72 rfl rfl ?_
          refine ro_cvV (pc := 73) (kc := kc) (avs := []) (st := []) ok_Mod_sum wd_1562 cl_51 cv_51 rfl ⟨show kc + 1 ≤ kc + 1 by omega, show 8 + (2 + 11) + 60 * (kc) ≤ 60 * (kc + 1) by omega⟩ ⟨Nat.zero_le _, Nat.zero_le _⟩ (hrf h7) rfl rfl (Nat.le_of_ble_eq_true rfl) dX12_atom_73 (fun h8 => ?_)
          refine ro_aload_n (pc := 76) 1 dX12_atom_76 rfl rfl ?_
          refine ro_bipush (v := 93) (pc := 77) dX12_atom_77 (by decide) ?_
          refine ro_cvV (pc := 79) (kc := 3) (avs := [.int 93]) (st := []) ok_Mod_closes wd_1558 cl_51 cv_51 rfl ⟨show 3 + 1 ≤ kc + 1 by omega, show 8 + (2 + 11) + 60 * (3) ≤ 60 * (kc + 1) by omega⟩ ⟨Nat.zero_le _, Nat.zero_le _⟩ (c_Mod_closes X N h8 93) rfl rfl (Nat.le_of_ble_eq_true rfl) dX12_atom_79 (fun h9 => ?_)
          refine ro_goto (tgt := 89) (pc := 82) dX12_atom_82 (by decide) ?_
          exact ro_vret (pc := 89) rfl rfl dX12_atom_89
    · skip
      refine ro_aload_n (pc := 32) 1 dX12_atom_32 rfl rfl ?_
      refine ro_dup (pc := 33) dX12_atom_33 rfl ?_
      refine gf_X12_3 (pc := 34) wd_1325 dX12_atom_34 ?_
      refine ro_iconst (v := 1) (pc := 37) dX12_atom_37 (by decide) ?_
      refine ro_iadd (pc := 38) dX12_atom_38 ?_
      refine pf_X12_3 (pc := 39) wd_1325 dX12_atom_39 ?_
      refine ro_bnh (fun h10 => ?_)
      refine ro_aload_n (pc := 42) 1 dX12_atom_42 rfl rfl ?_
      refine ro_iconst (v := 1) (pc := 43) dX12_atom_43 (by decide) ?_
      refine ro_iload_n (pc := 44) 0 dX12_atom_44 rfl rfl ?_
      refine ro_csP (pc := 45) (kc := 1) (avs := [.int x1]) (st := [.int 1, .ref (xa X 51)]) ok_Mod_letterOf wd_1578 ⟨show 1 + 1 ≤ kc + 1 by omega, show 8 + (1 + 11) + 60 * (1) ≤ 60 * (kc + 1) by omega⟩ ⟨Nat.zero_le _, Nat.zero_le _⟩ (c_Mod_letterOf X N h10 x1) rfl rfl (Nat.le_of_ble_eq_true rfl) dX12_atom_45 (fun x11 => ?_)
      refine ro_cvV (pc := 48) (kc := 1) (avs := [.int 1, .int x11]) (st := []) ok_Mod_put wd_1554 cl_51 cv_51 rfl ⟨show 1 + 1 ≤ kc + 1 by omega, show 8 + (3 + 11) + 60 * (1) ≤ 60 * (kc + 1) by omega⟩ ⟨Nat.zero_le _, Nat.zero_le _⟩ (c_Mod_put X N h10 1 x11) rfl rfl (Nat.le_of_ble_eq_true rfl) dX12_atom_48 (fun h12 => ?_)
      refine ro_goto (tgt := 89) (pc := 51) dX12_atom_51 (by decide) ?_
      exact ro_vret (pc := 89) rfl rfl dX12_atom_89
  · skip
    refine ro_aload_n (pc := 12) 1 dX12_atom_12 rfl rfl ?_
    refine ro_iconst (v := 0) (pc := 13) dX12_atom_13 (by decide) ?_
    refine ro_aload_n (pc := 14) 1 dX12_atom_14 rfl rfl ?_
    refine ro_cvI (pc := 15) (kc := 2) (avs := []) (st := [.int 0, .ref (xa X 51)]) ok_Mod_plainNumber wd_1574 cl_51 cv_51 rfl ⟨show 2 + 1 ≤ kc + 1 by omega, show 8 + (3 + 11) + 60 * (2) ≤ 60 * (kc + 1) by omega⟩ ⟨Nat.zero_le _, Nat.zero_le _⟩ (c_Mod_plainNumber X N h2) rfl rfl (Nat.le_of_ble_eq_true rfl) dX12_atom_15 (fun x13 h14 => ?_)
    refine ro_cvV (pc := 18) (kc := 1) (avs := [.int 0, .int x13]) (st := []) ok_Mod_put wd_1554 cl_51 cv_51 rfl ⟨show 1 + 1 ≤ kc + 1 by omega, show 8 + (3 + 11) + 60 * (1) ≤ 60 * (kc + 1) by omega⟩ ⟨Nat.zero_le _, Nat.zero_le _⟩ (c_Mod_put X N h14 0 x13) rfl rfl (Nat.le_of_ble_eq_true rfl) dX12_atom_18 (fun h16 => ?_)
    refine ro_goto (tgt := 89) (pc := 21) dX12_atom_21 (by decide) ?_
    exact ro_vret (pc := 89) rfl rfl dX12_atom_89
theorem c_Mod_atom_B (X : mu_X) (N : Nat) (rf : mu_H → Option mu_H) (kc : Nat) (hk : 3 ≤ kc) (hrf : ∀ (h : mu_H), ∀ r, rf h = some r → mV X m_Mod_sum kc [.ref (xa X 51)] h r) (h : mu_H) : ∀ r, f_Mod_atom_B N rf h = some r → mV X m_Mod_atom (kc + 1) [.ref (xa X 51)] h r := fun r hr => mV_of (by decide) rfl (Nat.le_of_ble_eq_true rfl) rfl (cb_Mod_atom_B X N rf kc hk hrf h r hr)
set_option maxRecDepth 20000 in
theorem cb_Mod_term_B (X : mu_X) (N : Nat) (rf : mu_H → Option mu_H) (kc : Nat) (hk : 3 ≤ kc) (hrf : ∀ (h : mu_H), ∀ r, rf h = some r → mV X m_Mod_sum kc [.ref (xa X 51)] h r) (h : mu_H) : aG X m_Mod_term (rmk (kc + 2)) (fun _ => ax X) (fun _ _ _ => True) 0 0 (fun r : mu_H => qV X r) (f_Mod_term_B N rf h) 0 [(0, .ref (xa X 51))] [] h := by
  unfold f_Mod_term_B
  refine ro_aload_n (pc := 0) 0 dX12_term_0 rfl rfl ?_
  refine ro_cvV (pc := 1) (kc := kc + 1) (avs := []) (st := []) ok_Mod_atom wd_1570 cl_51 cv_51 rfl ⟨show (kc + 1) + 1 ≤ kc + 2 by omega, show 8 + (2 + 11) + 60 * (kc + 1) ≤ 60 * (kc + 2) by omega⟩ ⟨Nat.zero_le _, Nat.zero_le _⟩ (c_Mod_atom_B X N rf kc hk hrf h) rfl rfl (Nat.le_of_ble_eq_true rfl) dX12_term_1 (fun h1 => ?_)
  refine ro_aload_n (pc := 4) 0 dX12_term_4 rfl rfl ?_
  refine gf_X12_4 (pc := 5) wd_1326 dX12_term_5 ?_
  refine ro_iconst (v := (-1)) (pc := 8) dX12_term_8 (by decide) ?_
  refine ro_jn (pcj := 20) (lvs := fun (s : Int32 × mu_H) => [(0, .ref (xa X 51))]) (hs := fun (s : Int32 × mu_H) => s.2) (sts := fun (s : Int32 × mu_H) => [.int s.1]) (fun s => ?_) (fun j2 hj2 => ?_)
  · obtain ⟨x3, h4⟩ := s; try dsimp only
    refine ro_istore_n (pc := 20) (lv' := [(1, .int x3), (0, .ref (xa X 51))]) dX12_term_20 rfl (by decide) rfl ?_
    refine ro_lv [1, 0] rfl ?_
    refine ro_lp (pc := 21) (lvs := fun (s : Int32 × mu_H) => [(0, .ref (xa X 51)), (1, .int s.1)]) (hs := fun (s : Int32 × mu_H) => s.2) (fun rec5 hrec5 s => ?_) N (x3, h4)
    obtain ⟨x6, h7⟩ := s; unfold f_Mod_term_L21; try dsimp only
    refine ro_iload_n (pc := 21) 1 dX12_term_21 rfl rfl ?_
    refine ro_bipush (v := 42) (pc := 22) dX12_term_22 (by decide) ?_
    refine ro_jn (pcj := 33) (lvs := fun (s : Unit) => [(0, .ref (xa X 51)), (1, .int x6)]) (hs := fun (s : Unit) => h7) (sts := fun (s : Unit) => []) (fun s => ?_) (fun j8 hj8 => ?_)
    · try dsimp only
      refine ro_aload_n (pc := 33) 0 dX12_term_33 rfl rfl ?_
      refine ro_dup (pc := 34) dX12_term_34 rfl ?_
      refine gf_X12_3 (pc := 35) wd_1325 dX12_term_35 ?_
      refine ro_iconst (v := 1) (pc := 38) dX12_term_38 (by decide) ?_
      refine ro_iadd (pc := 39) dX12_term_39 ?_
      refine pf_X12_3 (pc := 40) wd_1325 dX12_term_40 ?_
      refine ro_bnh (fun h9 => ?_)
      refine ro_aload_n (pc := 43) 0 dX12_term_43 rfl rfl ?_
      refine ro_cvV (pc := 44) (kc := kc + 1) (avs := []) (st := []) ok_Mod_atom wd_1570 cl_51 cv_51 rfl ⟨show (kc + 1) + 1 ≤ kc + 2 by omega, show 8 + (2 + 11) + 60 * (kc + 1) ≤ 60 * (kc + 2) by omega⟩ ⟨Nat.zero_le _, Nat.zero_le _⟩ (c_Mod_atom_B X N rf kc hk hrf h9) rfl rfl (Nat.le_of_ble_eq_true rfl) dX12_term_44 (fun h10 => ?_)
      refine ro_aload_n (pc := 47) 0 dX12_term_47 rfl rfl ?_
      refine ro_iload_n (pc := 48) 1 dX12_term_48 rfl rfl ?_
      refine ro_bipush (v := 42) (pc := 49) dX12_term_49 (by decide) ?_
      refine ro_jn (pcj := 59) (lvs := fun (s : Int32) => [(0, .ref (xa X 51))]) (hs := fun (s : Int32) => h10) (sts := fun (s : Int32) => [.int s, .ref (xa X 51)]) (fun x12 => ?_) (fun j11 hj11 => ?_)
      · try dsimp only
        refine ro_iconst (v := 0) (pc := 59) dX12_term_59 (by decide) ?_
        refine ro_cvV (pc := 60) (kc := 1) (avs := [.int x12, .int 0]) (st := []) ok_Mod_put wd_1554 cl_51 cv_51 rfl ⟨show 1 + 1 ≤ kc + 2 by omega, show 8 + (3 + 11) + 60 * (1) ≤ 60 * (kc + 2) by omega⟩ ⟨Nat.zero_le _, Nat.zero_le _⟩ (c_Mod_put X N h10 x12 0) rfl rfl (Nat.le_of_ble_eq_true rfl) dX12_term_60 (fun h13 => ?_)
        refine ro_aload_n (pc := 63) 0 dX12_term_63 rfl rfl ?_
        refine gf_X12_4 (pc := 64) wd_1326 dX12_term_64 ?_
        refine ro_iconst (v := (-1)) (pc := 67) dX12_term_67 (by decide) ?_
        refine ro_jn (pcj := 79) (lvs := fun (s : Int32 × mu_H) => [(0, .ref (xa X 51))]) (hs := fun (s : Int32 × mu_H) => s.2) (sts := fun (s : Int32 × mu_H) => [.int s.1]) (fun s => ?_) (fun j14 hj14 => ?_)
        · obtain ⟨x15, h16⟩ := s; try dsimp only
          refine ro_istore_n (pc := 79) (lv' := [(1, .int x15), (0, .ref (xa X 51))]) dX12_term_79 rfl (by decide) rfl ?_
          refine ro_goto (tgt := 21) (pc := 80) dX12_term_80 (by decide) ?_
          refine ro_lv [1, 0] rfl ?_
          exact hrec5 (x15, h16)
        · skip
          refine ro_icmp_ne (tgt := 78) (pc := 68) dX12_term_68 (by decide) (fun _ => ?_) (fun _ => ?_)
          · skip
            refine ro_iconst (v := (-1)) (pc := 78) dX12_term_78 (by decide) ?_
            exact hj14 ((-1), h13)
          · skip
            refine ro_aload_n (pc := 71) 0 dX12_term_71 rfl rfl ?_
            refine ro_cvI (pc := 72) (kc := 2) (avs := []) (st := []) ok_Mod_look wd_1488 cl_51 cv_51 rfl ⟨show 2 + 1 ≤ kc + 2 by omega, show 8 + (1 + 11) + 60 * (2) ≤ 60 * (kc + 2) by omega⟩ ⟨Nat.zero_le _, Nat.zero_le _⟩ (c_Mod_look X N h13) rfl rfl (Nat.le_of_ble_eq_true rfl) dX12_term_72 (fun x17 h18 => ?_)
            refine ro_goto (tgt := 79) (pc := 75) dX12_term_75 (by decide) ?_
            exact hj14 (x17, h18)
      · skip
        refine ro_icmp_ne (tgt := 58) (pc := 51) dX12_term_51 (by decide) (fun _ => ?_) (fun _ => ?_)
        · skip
          refine ro_iconst (v := 5) (pc := 58) dX12_term_58 (by decide) ?_
          refine ro_lv [0] rfl ?_
          exact hj11 5
        · skip
          refine ro_iconst (v := 4) (pc := 54) dX12_term_54 (by decide) ?_
          refine ro_goto (tgt := 59) (pc := 55) dX12_term_55 (by decide) ?_
          refine ro_lv [0] rfl ?_
          exact hj11 4
    · skip
      refine ro_icmp_eq (tgt := 33) (pc := 24) dX12_term_24 (by decide) (fun _ => ?_) (fun _ => ?_)
      · skip
        exact hj8 ()
      · skip
        refine ro_iload_n (pc := 27) 1 dX12_term_27 rfl rfl ?_
        refine ro_bipush (v := 47) (pc := 28) dX12_term_28 (by decide) ?_
        refine ro_icmp_ne (tgt := 83) (pc := 30) dX12_term_30 (by decide) (fun _ => ?_) (fun _ => ?_)
        · skip
          exact ro_vret (pc := 83) rfl rfl dX12_term_83
        · skip
          exact hj8 ()
  · skip
    refine ro_icmp_ne (tgt := 19) (pc := 9) dX12_term_9 (by decide) (fun _ => ?_) (fun _ => ?_)
    · skip
      refine ro_iconst (v := (-1)) (pc := 19) dX12_term_19 (by decide) ?_
      exact hj2 ((-1), h1)
    · skip
      refine ro_aload_n (pc := 12) 0 dX12_term_12 rfl rfl ?_
      refine ro_cvI (pc := 13) (kc := 2) (avs := []) (st := []) ok_Mod_look wd_1488 cl_51 cv_51 rfl ⟨show 2 + 1 ≤ kc + 2 by omega, show 8 + (1 + 11) + 60 * (2) ≤ 60 * (kc + 2) by omega⟩ ⟨Nat.zero_le _, Nat.zero_le _⟩ (c_Mod_look X N h1) rfl rfl (Nat.le_of_ble_eq_true rfl) dX12_term_13 (fun x20 h21 => ?_)
      refine ro_goto (tgt := 20) (pc := 16) dX12_term_16 (by decide) ?_
      exact hj2 (x20, h21)
theorem c_Mod_term_B (X : mu_X) (N : Nat) (rf : mu_H → Option mu_H) (kc : Nat) (hk : 3 ≤ kc) (hrf : ∀ (h : mu_H), ∀ r, rf h = some r → mV X m_Mod_sum kc [.ref (xa X 51)] h r) (h : mu_H) : ∀ r, f_Mod_term_B N rf h = some r → mV X m_Mod_term (kc + 2) [.ref (xa X 51)] h r := fun r hr => mV_of (by decide) rfl (Nat.le_of_ble_eq_true rfl) rfl (cb_Mod_term_B X N rf kc hk hrf h r hr)
set_option maxRecDepth 20000 in
theorem cb_Mod_sum_B (X : mu_X) (N : Nat) (rf : mu_H → Option mu_H) (kc : Nat) (hk : 3 ≤ kc) (hrf : ∀ (h : mu_H), ∀ r, rf h = some r → mV X m_Mod_sum kc [.ref (xa X 51)] h r) (h : mu_H) : aG X m_Mod_sum (rmk (kc + 3)) (fun _ => ax X) (fun _ _ _ => True) 0 0 (fun r : mu_H => qV X r) (f_Mod_sum_B N rf h) 0 [(0, .ref (xa X 51))] [] h := by
  unfold f_Mod_sum_B
  refine ro_aload_n (pc := 0) 0 dX12_sum_0 rfl rfl ?_
  refine ro_cvV (pc := 1) (kc := kc + 2) (avs := []) (st := []) ok_Mod_term wd_1566 cl_51 cv_51 rfl ⟨show (kc + 2) + 1 ≤ kc + 3 by omega, show 8 + (2 + 11) + 60 * (kc + 2) ≤ 60 * (kc + 3) by omega⟩ ⟨Nat.zero_le _, Nat.zero_le _⟩ (c_Mod_term_B X N rf kc hk hrf h) rfl rfl (Nat.le_of_ble_eq_true rfl) dX12_sum_1 (fun h1 => ?_)
  refine ro_aload_n (pc := 4) 0 dX12_sum_4 rfl rfl ?_
  refine gf_X12_4 (pc := 5) wd_1326 dX12_sum_5 ?_
  refine ro_iconst (v := (-1)) (pc := 8) dX12_sum_8 (by decide) ?_
  refine ro_jn (pcj := 20) (lvs := fun (s : Int32 × mu_H) => [(0, .ref (xa X 51))]) (hs := fun (s : Int32 × mu_H) => s.2) (sts := fun (s : Int32 × mu_H) => [.int s.1]) (fun s => ?_) (fun j2 hj2 => ?_)
  · obtain ⟨x3, h4⟩ := s; try dsimp only
    refine ro_istore_n (pc := 20) (lv' := [(1, .int x3), (0, .ref (xa X 51))]) dX12_sum_20 rfl (by decide) rfl ?_
    refine ro_lv [1, 0] rfl ?_
    refine ro_lp (pc := 21) (lvs := fun (s : Int32 × mu_H) => [(0, .ref (xa X 51)), (1, .int s.1)]) (hs := fun (s : Int32 × mu_H) => s.2) (fun rec5 hrec5 s => ?_) N (x3, h4)
    obtain ⟨x6, h7⟩ := s; unfold f_Mod_sum_L21; try dsimp only
    refine ro_iload_n (pc := 21) 1 dX12_sum_21 rfl rfl ?_
    refine ro_bipush (v := 43) (pc := 22) dX12_sum_22 (by decide) ?_
    refine ro_jn (pcj := 33) (lvs := fun (s : Unit) => [(0, .ref (xa X 51)), (1, .int x6)]) (hs := fun (s : Unit) => h7) (sts := fun (s : Unit) => []) (fun s => ?_) (fun j8 hj8 => ?_)
    · try dsimp only
      refine ro_aload_n (pc := 33) 0 dX12_sum_33 rfl rfl ?_
      refine ro_dup (pc := 34) dX12_sum_34 rfl ?_
      refine gf_X12_3 (pc := 35) wd_1325 dX12_sum_35 ?_
      refine ro_iconst (v := 1) (pc := 38) dX12_sum_38 (by decide) ?_
      refine ro_iadd (pc := 39) dX12_sum_39 ?_
      refine pf_X12_3 (pc := 40) wd_1325 dX12_sum_40 ?_
      refine ro_bnh (fun h9 => ?_)
      refine ro_aload_n (pc := 43) 0 dX12_sum_43 rfl rfl ?_
      refine ro_cvV (pc := 44) (kc := kc + 2) (avs := []) (st := []) ok_Mod_term wd_1566 cl_51 cv_51 rfl ⟨show (kc + 2) + 1 ≤ kc + 3 by omega, show 8 + (2 + 11) + 60 * (kc + 2) ≤ 60 * (kc + 3) by omega⟩ ⟨Nat.zero_le _, Nat.zero_le _⟩ (c_Mod_term_B X N rf kc hk hrf h9) rfl rfl (Nat.le_of_ble_eq_true rfl) dX12_sum_44 (fun h10 => ?_)
      refine ro_aload_n (pc := 47) 0 dX12_sum_47 rfl rfl ?_
      refine ro_iload_n (pc := 48) 1 dX12_sum_48 rfl rfl ?_
      refine ro_bipush (v := 43) (pc := 49) dX12_sum_49 (by decide) ?_
      refine ro_jn (pcj := 59) (lvs := fun (s : Int32) => [(0, .ref (xa X 51))]) (hs := fun (s : Int32) => h10) (sts := fun (s : Int32) => [.int s, .ref (xa X 51)]) (fun x12 => ?_) (fun j11 hj11 => ?_)
      · try dsimp only
        refine ro_iconst (v := 0) (pc := 59) dX12_sum_59 (by decide) ?_
        refine ro_cvV (pc := 60) (kc := 1) (avs := [.int x12, .int 0]) (st := []) ok_Mod_put wd_1554 cl_51 cv_51 rfl ⟨show 1 + 1 ≤ kc + 3 by omega, show 8 + (3 + 11) + 60 * (1) ≤ 60 * (kc + 3) by omega⟩ ⟨Nat.zero_le _, Nat.zero_le _⟩ (c_Mod_put X N h10 x12 0) rfl rfl (Nat.le_of_ble_eq_true rfl) dX12_sum_60 (fun h13 => ?_)
        refine ro_aload_n (pc := 63) 0 dX12_sum_63 rfl rfl ?_
        refine gf_X12_4 (pc := 64) wd_1326 dX12_sum_64 ?_
        refine ro_iconst (v := (-1)) (pc := 67) dX12_sum_67 (by decide) ?_
        refine ro_jn (pcj := 79) (lvs := fun (s : Int32 × mu_H) => [(0, .ref (xa X 51))]) (hs := fun (s : Int32 × mu_H) => s.2) (sts := fun (s : Int32 × mu_H) => [.int s.1]) (fun s => ?_) (fun j14 hj14 => ?_)
        · obtain ⟨x15, h16⟩ := s; try dsimp only
          refine ro_istore_n (pc := 79) (lv' := [(1, .int x15), (0, .ref (xa X 51))]) dX12_sum_79 rfl (by decide) rfl ?_
          refine ro_goto (tgt := 21) (pc := 80) dX12_sum_80 (by decide) ?_
          refine ro_lv [1, 0] rfl ?_
          exact hrec5 (x15, h16)
        · skip
          refine ro_icmp_ne (tgt := 78) (pc := 68) dX12_sum_68 (by decide) (fun _ => ?_) (fun _ => ?_)
          · skip
            refine ro_iconst (v := (-1)) (pc := 78) dX12_sum_78 (by decide) ?_
            exact hj14 ((-1), h13)
          · skip
            refine ro_aload_n (pc := 71) 0 dX12_sum_71 rfl rfl ?_
            refine ro_cvI (pc := 72) (kc := 2) (avs := []) (st := []) ok_Mod_look wd_1488 cl_51 cv_51 rfl ⟨show 2 + 1 ≤ kc + 3 by omega, show 8 + (1 + 11) + 60 * (2) ≤ 60 * (kc + 3) by omega⟩ ⟨Nat.zero_le _, Nat.zero_le _⟩ (c_Mod_look X N h13) rfl rfl (Nat.le_of_ble_eq_true rfl) dX12_sum_72 (fun x17 h18 => ?_)
            refine ro_goto (tgt := 79) (pc := 75) dX12_sum_75 (by decide) ?_
            exact hj14 (x17, h18)
      · skip
        refine ro_icmp_ne (tgt := 58) (pc := 51) dX12_sum_51 (by decide) (fun _ => ?_) (fun _ => ?_)
        · skip
          refine ro_iconst (v := 3) (pc := 58) dX12_sum_58 (by decide) ?_
          refine ro_lv [0] rfl ?_
          exact hj11 3
        · skip
          refine ro_iconst (v := 2) (pc := 54) dX12_sum_54 (by decide) ?_
          refine ro_goto (tgt := 59) (pc := 55) dX12_sum_55 (by decide) ?_
          refine ro_lv [0] rfl ?_
          exact hj11 2
    · skip
      refine ro_icmp_eq (tgt := 33) (pc := 24) dX12_sum_24 (by decide) (fun _ => ?_) (fun _ => ?_)
      · skip
        exact hj8 ()
      · skip
        refine ro_iload_n (pc := 27) 1 dX12_sum_27 rfl rfl ?_
        refine ro_bipush (v := 45) (pc := 28) dX12_sum_28 (by decide) ?_
        refine ro_icmp_ne (tgt := 83) (pc := 30) dX12_sum_30 (by decide) (fun _ => ?_) (fun _ => ?_)
        · skip
          exact ro_vret (pc := 83) rfl rfl dX12_sum_83
        · skip
          exact hj8 ()
  · skip
    refine ro_icmp_ne (tgt := 19) (pc := 9) dX12_sum_9 (by decide) (fun _ => ?_) (fun _ => ?_)
    · skip
      refine ro_iconst (v := (-1)) (pc := 19) dX12_sum_19 (by decide) ?_
      exact hj2 ((-1), h1)
    · skip
      refine ro_aload_n (pc := 12) 0 dX12_sum_12 rfl rfl ?_
      refine ro_cvI (pc := 13) (kc := 2) (avs := []) (st := []) ok_Mod_look wd_1488 cl_51 cv_51 rfl ⟨show 2 + 1 ≤ kc + 3 by omega, show 8 + (1 + 11) + 60 * (2) ≤ 60 * (kc + 3) by omega⟩ ⟨Nat.zero_le _, Nat.zero_le _⟩ (c_Mod_look X N h1) rfl rfl (Nat.le_of_ble_eq_true rfl) dX12_sum_13 (fun x20 h21 => ?_)
      refine ro_goto (tgt := 20) (pc := 16) dX12_sum_16 (by decide) ?_
      exact hj2 (x20, h21)
theorem c_Mod_sum_B (X : mu_X) (N : Nat) (rf : mu_H → Option mu_H) (kc : Nat) (hk : 3 ≤ kc) (hrf : ∀ (h : mu_H), ∀ r, rf h = some r → mV X m_Mod_sum kc [.ref (xa X 51)] h r) (h : mu_H) : ∀ r, f_Mod_sum_B N rf h = some r → mV X m_Mod_sum (kc + 3) [.ref (xa X 51)] h r := fun r hr => mV_of (by decide) rfl (Nat.le_of_ble_eq_true rfl) rfl (cb_Mod_sum_B X N rf kc hk hrf h r hr)
theorem cd_Mod_sum (X : mu_X) (N : Nat) : ∀ (D : Nat) (h : mu_H) , ∀ r, lp (f_Mod_sum_R N) D h = some r → mV X m_Mod_sum (3 + 3 * D) [.ref (xa X 51)] h r := by
  intro D
  induction D with
  | zero => intro h  r hr; cases hr
  | succ D ih => intro h  r hr; exact c_Mod_sum_B X N _ (3 + 3 * D) (by omega) (fun h  r hr => ih h  r hr) h  r hr
theorem c_Mod_sum (X : mu_X) (N : Nat) (h : mu_H) : ∀ r, f_Mod_sum N h = some r → mV X m_Mod_sum 33 [.ref (xa X 51)] h r := fun r hr => cd_Mod_sum X N 10 h  r hr
theorem c_Mod_atom (X : mu_X) (N : Nat) (h : mu_H) : ∀ r, f_Mod_atom N h = some r → mV X m_Mod_atom 34 [.ref (xa X 51)] h r := fun r hr => c_Mod_atom_B X N (f_Mod_sum N) 33 (by decide) (c_Mod_sum X N) h  r hr
theorem c_Mod_term (X : mu_X) (N : Nat) (h : mu_H) : ∀ r, f_Mod_term N h = some r → mV X m_Mod_term 35 [.ref (xa X 51)] h r := fun r hr => c_Mod_term_B X N (f_Mod_sum N) 33 (by decide) (c_Mod_sum X N) h  r hr
set_option maxRecDepth 20000 in
theorem cb_Mod_back (X : mu_X) (N : Nat) (h : mu_H) : aG X m_Mod_back (rmk 1) (fun _ => ax X) (fun _ _ _ => True) 0 0 (fun r : Int32 × mu_H => qI X r.1 r.2) (f_Mod_back N h) 0 [(0, .ref (xa X 51))] [] h := by
  unfold f_Mod_back
  refine ro_aload_n (pc := 0) 0 dX12_back_0 rfl rfl ?_
  refine gf_X12_45 (pc := 1) wd_1367 dX12_back_1 ?_
  refine ro_if_ne (tgt := 9) (pc := 4) dX12_back_4 (by decide) (fun _ => ?_) (fun _ => ?_)
  · skip
    refine ro_iconst (v := 0) (pc := 9) dX12_back_9 (by decide) ?_
    refine ro_istore_n (pc := 10) (lv' := [(1, .int 0), (0, .ref (xa X 51))]) dX12_back_10 rfl (by decide) rfl ?_
    refine ro_jn (pcj := 36) (lvs := fun (s : mu_H) => [(0, .ref (xa X 51))]) (hs := fun (s : mu_H) => s) (sts := fun (s : mu_H) => []) (fun h2 => ?_) (fun k1 hk1 => ?_)
    · try dsimp only
      refine ro_aload_n (pc := 36) 0 dX12_back_36 rfl rfl ?_
      refine ro_iconst (v := 0) (pc := 37) dX12_back_37 (by decide) ?_
      refine pf_X12_32 (pc := 38) wd_1354 dX12_back_38 ?_
      refine ro_bnh (fun h3 => ?_)
      refine ro_aload_n (pc := 41) 0 dX12_back_41 rfl rfl ?_
      refine gf_X12_27 (pc := 42) wd_1349 dX12_back_42 ?_
      refine ro_bipush (v := 32) (pc := 45) dX12_back_45 (by decide) ?_
      refine ro_iald (pc := 47) (n := 214) cl_68 cv_68 dX12_back_47 ?_
      exact ro_iret (pc := 48) rfl rfl dX12_back_48
    · skip
      refine ro_lv [1, 0] rfl ?_
      refine ro_lp (pc := 11) (lvs := fun (s : Int32 × mu_H) => [(0, .ref (xa X 51)), (1, .int s.1)]) (hs := fun (s : Int32 × mu_H) => s.2) (fun rec4 hrec4 s => ?_) N (0, h)
      obtain ⟨x5, h6⟩ := s; unfold f_Mod_back_L11; try dsimp only
      refine ro_iload_n (pc := 11) 1 dX12_back_11 rfl rfl ?_
      refine ro_sipush (v := 214) (pc := 12) dX12_back_12 (by decide) ?_
      refine ro_icmp_ge (tgt := 36) (pc := 15) dX12_back_15 (by decide) (fun _ => ?_) (fun _ => ?_)
      · skip
        refine ro_lv [0] rfl ?_
        exact hk1 h6
      · skip
        refine ro_aload_n (pc := 18) 0 dX12_back_18 rfl rfl ?_
        refine gf_X12_27 (pc := 19) wd_1349 dX12_back_19 ?_
        refine ro_iload_n (pc := 22) 1 dX12_back_22 rfl rfl ?_
        refine ro_aload_n (pc := 23) 0 dX12_back_23 rfl rfl ?_
        refine gf_X12_44 (pc := 24) wd_1366 dX12_back_24 ?_
        refine ro_iload_n (pc := 27) 1 dX12_back_27 rfl rfl ?_
        refine ro_iald (pc := 28) (n := 214) cl_78 cv_78 dX12_back_28 ?_
        refine ro_iast (pc := 29) (n := 214) cl_68 cv_68 dX12_back_29 ?_
        refine ro_bnh (fun h7 => ?_)
        refine ro_iinc (pc := 30) (v := x5 + 1) (lv' := [(1, .int (x5 + 1)), (0, .ref (xa X 51))]) 1 dX12_back_30 rfl rfl (by decide) rfl ?_
        refine ro_goto (tgt := 11) (pc := 33) dX12_back_33 (by decide) ?_
        refine ro_lv [1, 0] rfl ?_
        exact hrec4 (x5 + 1, h7)
  · skip
    refine ro_iconst (v := (-1)) (pc := 7) dX12_back_7 (by decide) ?_
    exact ro_iret (pc := 8) rfl rfl dX12_back_8
theorem c_Mod_back (X : mu_X) (N : Nat) (h : mu_H) : ∀ r, f_Mod_back N h = some r → mI X m_Mod_back 1 [.ref (xa X 51)] h r.1 r.2 := fun r hr => mI_of (by decide) rfl (Nat.le_of_ble_eq_true rfl) rfl (cb_Mod_back X N h r hr)
set_option maxRecDepth 20000 in
theorem cb_Mod_isFeigned (X : mu_X) (N : Nat) (h : mu_H) (a1 : Int32) (a2 : Int32) : aG X m_Mod_isFeigned (rmk 2) (fun _ => ax X) (fun _ _ _ => True) 0 0 (fun r : Int32 => qI X r h) (f_Mod_isFeigned N h a1 a2) 0 [(0, .ref (xa X 51)), (1, .int a1), (2, .int a2)] [] h := by
  unfold f_Mod_isFeigned
  refine ro_iload_n (pc := 0) 2 dX12_isFeigned_0 rfl rfl ?_
  refine ro_csP (pc := 1) (kc := 1) (avs := [.int a2]) (st := []) ok_Int_bitCount wd_1863 ⟨by decide, by decide⟩ ⟨Nat.zero_le _, Nat.zero_le _⟩ (c_Int_bitCount X N h a2) rfl rfl (Nat.le_of_ble_eq_true rfl) dX12_isFeigned_1 (fun x1 => ?_)
  refine ro_iload_n (pc := 4) 1 dX12_isFeigned_4 rfl rfl ?_
  refine ro_jn (pcj := 13) (lvs := fun (s : Int32) => [(0, .ref (xa X 51)), (2, .int a2)]) (hs := fun (s : Int32) => h) (sts := fun (s : Int32) => [.int s]) (fun x3 => ?_) (fun j2 hj2 => ?_)
  · try dsimp only
    refine ro_istore_n (pc := 13) (lv' := [(3, .int x3), (0, .ref (xa X 51)), (2, .int a2)]) dX12_isFeigned_13 rfl (by decide) rfl ?_
    refine ro_iconst (v := 0) (pc := 14) dX12_isFeigned_14 (by decide) ?_
    refine ro_istore (pc := 15) (lv' := [(4, .int 0), (3, .int x3), (0, .ref (xa X 51)), (2, .int a2)]) dX12_isFeigned_15 (by decide) rfl ?_
    refine ro_lv [2, 3, 1, 0] rfl ?_
    refine ro_lp (pc := 17) (lvs := fun (s : Int32 × Int32) => [(0, .ref (xa X 51)), (2, .int a2), (3, .int s.1), (4, .int s.2)]) (hs := fun (s : Int32 × Int32) => h) (fun rec4 hrec4 s => ?_) N (x3, 0)
    obtain ⟨x5, x6⟩ := s; unfold f_Mod_isFeigned_L17; try dsimp only
    refine ro_iload (pc := 17) 3 dX12_isFeigned_17 rfl ?_
    refine ro_aload_n (pc := 19) 0 dX12_isFeigned_19 rfl rfl ?_
    refine gf_X12_40 (pc := 20) wd_1362 dX12_isFeigned_20 ?_
    refine ro_icmp_ge (tgt := 71) (pc := 23) dX12_isFeigned_23 (by decide) (fun _ => ?_) (fun _ => ?_)
    · skip
      refine ro_iload_n (pc := 71) 2 dX12_isFeigned_71 rfl rfl ?_
      exact ro_zretg (pc := 72) rfl rfl dX12_isFeigned_72
    · skip
      refine ro_iload_n (pc := 26) 2 dX12_isFeigned_26 rfl rfl ?_
      refine ro_if_eq (tgt := 71) (pc := 27) dX12_isFeigned_27 (by decide) (fun _ => ?_) (fun _ => ?_)
      · skip
        refine ro_iload_n (pc := 71) 2 dX12_isFeigned_71 rfl rfl ?_
        exact ro_zretg (pc := 72) rfl rfl dX12_isFeigned_72
      · skip
        refine ro_aload_n (pc := 30) 0 dX12_isFeigned_30 rfl rfl ?_
        refine gf_X12_38 (pc := 31) wd_1360 dX12_isFeigned_31 ?_
        refine ro_iload (pc := 34) 3 dX12_isFeigned_34 rfl ?_
        refine ro_iald (pc := 36) (n := 10) cl_73 cv_73 dX12_isFeigned_36 ?_
        refine ro_iload_n (pc := 37) 1 dX12_isFeigned_37 rfl rfl ?_
        refine ro_iconst (v := (-1)) (pc := 38) dX12_isFeigned_38 (by decide) ?_
        refine ro_ixor (pc := 39) dX12_isFeigned_39 ?_
        refine ro_iand (pc := 40) dX12_isFeigned_40 ?_
        refine ro_jn (pcj := 49) (lvs := fun (s : Int32) => [(0, .ref (xa X 51)), (2, .int a2), (4, .int x6)]) (hs := fun (s : Int32) => h) (sts := fun (s : Int32) => [.int s]) (fun x8 => ?_) (fun j7 hj7 => ?_)
        · try dsimp only
          refine ro_aload_n (pc := 49) 0 dX12_isFeigned_49 rfl rfl ?_
          refine gf_X12_39 (pc := 50) wd_1361 dX12_isFeigned_50 ?_
          refine ro_iload (pc := 53) 2 dX12_isFeigned_53 rfl ?_
          refine ro_zald (pc := 55) (n := 10) cl_74 cv_74 dX12_isFeigned_55 ?_
          refine ro_jn (pcj := 64) (lvs := fun (s : Int32) => [(0, .ref (xa X 51)), (2, .int a2), (4, .int x6)]) (hs := fun (s : Int32) => h) (sts := fun (s : Int32) => [.int s]) (fun x10 => ?_) (fun j9 hj9 => ?_)
          · try dsimp only
            refine ro_istore_n (pc := 64) (lv' := [(3, .int x10), (0, .ref (xa X 51)), (2, .int a2), (4, .int x6)]) dX12_isFeigned_64 rfl (by decide) rfl ?_
            refine ro_iinc (pc := 65) (v := x6 + 1) (lv' := [(4, .int (x6 + 1)), (3, .int x10), (0, .ref (xa X 51)), (2, .int a2)]) 3 dX12_isFeigned_65 rfl rfl (by decide) rfl ?_
            refine ro_goto (tgt := 17) (pc := 68) dX12_isFeigned_68 (by decide) ?_
            refine ro_lv [2, 3, 1, 0] rfl ?_
            exact hrec4 (x10, x6 + 1)
          · skip
            refine ro_icmp_ne (tgt := 63) (pc := 56) dX12_isFeigned_56 (by decide) (fun _ => ?_) (fun _ => ?_)
            · skip
              refine ro_iconst (v := 0) (pc := 63) dX12_isFeigned_63 (by decide) ?_
              exact hj9 0
            · skip
              refine ro_iconst (v := 1) (pc := 59) dX12_isFeigned_59 (by decide) ?_
              refine ro_goto (tgt := 64) (pc := 60) dX12_isFeigned_60 (by decide) ?_
              exact hj9 1
        · skip
          refine ro_if_eq (tgt := 48) (pc := 41) dX12_isFeigned_41 (by decide) (fun _ => ?_) (fun _ => ?_)
          · skip
            refine ro_iconst (v := 0) (pc := 48) dX12_isFeigned_48 (by decide) ?_
            refine ro_lv [0, 1, 3] rfl ?_
            exact hj7 0
          · skip
            refine ro_iconst (v := 1) (pc := 44) dX12_isFeigned_44 (by decide) ?_
            refine ro_goto (tgt := 49) (pc := 45) dX12_isFeigned_45 (by decide) ?_
            refine ro_lv [0, 1, 3] rfl ?_
            exact hj7 1
  · skip
    refine ro_icmp_ne (tgt := 12) (pc := 5) dX12_isFeigned_5 (by decide) (fun _ => ?_) (fun _ => ?_)
    · skip
      refine ro_iconst (v := 0) (pc := 12) dX12_isFeigned_12 (by decide) ?_
      refine ro_lv [0, 2] rfl ?_
      exact hj2 0
    · skip
      refine ro_iconst (v := 1) (pc := 8) dX12_isFeigned_8 (by decide) ?_
      refine ro_goto (tgt := 13) (pc := 9) dX12_isFeigned_9 (by decide) ?_
      refine ro_lv [0, 2] rfl ?_
      exact hj2 1
theorem c_Mod_isFeigned (X : mu_X) (N : Nat) (h : mu_H) (a1 : Int32) (a2 : Int32) : ∀ r, f_Mod_isFeigned N h a1 a2 = some r → mI X m_Mod_isFeigned 2 [.ref (xa X 51), .int a1, .int a2] h r h := fun r hr => mI_of (by decide) rfl (Nat.le_of_ble_eq_true rfl) rfl (cb_Mod_isFeigned X N h a1 a2 r hr)
set_option maxRecDepth 20000 in
theorem cb_Mod_feigned (X : mu_X) (N : Nat) (h : mu_H) (a1 : Int32) (a2 : Int32) : aG X m_Mod_feigned (rmk 3) (fun _ => ax X) (fun _ _ _ => True) 0 0 (fun r : Int32 => qI X r h) (f_Mod_feigned N h a1 a2) 0 [(0, .ref (xa X 51)), (1, .int a1), (2, .int a2)] [] h := by
  unfold f_Mod_feigned
  refine ro_aload_n (pc := 0) 0 dX12_feigned_0 rfl rfl ?_
  refine ro_iload_n (pc := 1) 1 dX12_feigned_1 rfl rfl ?_
  refine ro_cvP (pc := 2) (kc := 2) (avs := [.int a1]) (st := []) ok_Mod_areFeigning wd_1855 cl_51 cv_51 rfl ⟨by decide, by decide⟩ ⟨Nat.zero_le _, Nat.zero_le _⟩ (c_Mod_areFeigning X N h a1) rfl rfl (Nat.le_of_ble_eq_true rfl) dX12_feigned_2 (fun x1 => ?_)
  refine ro_if_eq (tgt := 13) (pc := 5) dX12_feigned_5 (by decide) (fun _ => ?_) (fun _ => ?_)
  · skip
    refine ro_iconst (v := (-1)) (pc := 13) dX12_feigned_13 (by decide) ?_
    exact ro_iret (pc := 14) rfl rfl dX12_feigned_14
  · skip
    refine ro_iload_n (pc := 8) 2 dX12_feigned_8 rfl rfl ?_
    refine ro_iconst (v := (-1)) (pc := 9) dX12_feigned_9 (by decide) ?_
    refine ro_icmp_ge (tgt := 15) (pc := 10) dX12_feigned_10 (by decide) (fun _ => ?_) (fun _ => ?_)
    · skip
      refine ro_iconst (v := 0) (pc := 15) dX12_feigned_15 (by decide) ?_
      refine ro_istore_n (pc := 16) (lv' := [(3, .int 0), (0, .ref (xa X 51)), (1, .int a1), (2, .int a2)]) dX12_feigned_16 rfl (by decide) rfl ?_
      refine ro_iconst (v := 0) (pc := 17) dX12_feigned_17 (by decide) ?_
      refine ro_istore (pc := 18) (lv' := [(4, .int 0), (3, .int 0), (0, .ref (xa X 51)), (1, .int a1), (2, .int a2)]) dX12_feigned_18 (by decide) rfl ?_
      refine ro_jn (pcj := 58) (lvs := fun (s : Int32) => [(2, .int a2), (3, .int s)]) (hs := fun (s : Int32) => h) (sts := fun (s : Int32) => []) (fun x3 => ?_) (fun k2 hk2 => ?_)
      · try dsimp only
        refine ro_iload_n (pc := 58) 0 dX12_feigned_58 rfl rfl ?_
        refine ro_iconst (v := (-1)) (pc := 59) dX12_feigned_59 (by decide) ?_
        refine ro_icmp_ne (tgt := 67) (pc := 60) dX12_feigned_60 (by decide) (fun _ => ?_) (fun _ => ?_)
        · skip
          refine ro_iconst (v := (-1)) (pc := 67) dX12_feigned_67 (by decide) ?_
          exact ro_iret (pc := 68) rfl rfl dX12_feigned_68
        · skip
          refine ro_iload_n (pc := 63) 1 dX12_feigned_63 rfl rfl ?_
          refine ro_goto (tgt := 68) (pc := 64) dX12_feigned_64 (by decide) ?_
          exact ro_iret (pc := 68) rfl rfl dX12_feigned_68
      · skip
        refine ro_lv [2, 3, 4, 1, 0] rfl ?_
        refine ro_lp (pc := 20) (lvs := fun (s : Int32 × Int32) => [(0, .ref (xa X 51)), (1, .int a1), (2, .int a2), (3, .int s.1), (4, .int s.2)]) (hs := fun (s : Int32 × Int32) => h) (fun rec4 hrec4 s => ?_) N (0, 0)
        obtain ⟨x5, x6⟩ := s; unfold f_Mod_feigned_L20; try dsimp only
        refine ro_iload (pc := 20) 4 dX12_feigned_20 rfl ?_
        refine ro_iconst (v := 1) (pc := 22) dX12_feigned_22 (by decide) ?_
        refine ro_aload_n (pc := 23) 0 dX12_feigned_23 rfl rfl ?_
        refine gf_X12_26 (pc := 24) wd_1348 dX12_feigned_24 ?_
        refine ro_ishl (pc := 27) dX12_feigned_27 ?_
        refine ro_icmp_ge (tgt := 58) (pc := 28) dX12_feigned_28 (by decide) (fun _ => ?_) (fun _ => ?_)
        · skip
          refine ro_lv [2, 3] rfl ?_
          exact hk2 x5
        · skip
          refine ro_aload_n (pc := 31) 0 dX12_feigned_31 rfl rfl ?_
          refine ro_iload_n (pc := 32) 1 dX12_feigned_32 rfl rfl ?_
          refine ro_iload (pc := 33) 4 dX12_feigned_33 rfl ?_
          refine ro_cvP (pc := 35) (kc := 2) (avs := [.int a1, .int x6]) (st := []) ok_Mod_isFeigned wd_1859 cl_51 cv_51 rfl ⟨by decide, by decide⟩ ⟨Nat.zero_le _, Nat.zero_le _⟩ (c_Mod_isFeigned X N h a1 x6) rfl rfl (Nat.le_of_ble_eq_true rfl) dX12_feigned_35 (fun x7 => ?_)
          refine ro_jn (pcj := 52) (lvs := fun (s : Int32) => [(0, .ref (xa X 51)), (1, .int a1), (2, .int a2), (3, .int s), (4, .int x6)]) (hs := fun (s : Int32) => h) (sts := fun (s : Int32) => []) (fun x9 => ?_) (fun j8 hj8 => ?_)
          · try dsimp only
            refine ro_iinc (pc := 52) (v := x6 + 1) (lv' := [(4, .int (x6 + 1)), (0, .ref (xa X 51)), (1, .int a1), (2, .int a2), (3, .int x9)]) 4 dX12_feigned_52 rfl rfl (by decide) rfl ?_
            refine ro_goto (tgt := 20) (pc := 55) dX12_feigned_55 (by decide) ?_
            refine ro_lv [1, 2, 3, 4, 0] rfl ?_
            exact hrec4 (x9, x6 + 1)
          · skip
            refine ro_if_eq (tgt := 52) (pc := 38) dX12_feigned_38 (by decide) (fun _ => ?_) (fun _ => ?_)
            · skip
              exact hj8 x5
            · skip
              refine ro_iload_n (pc := 41) 3 dX12_feigned_41 rfl rfl ?_
              refine ro_iload_n (pc := 42) 2 dX12_feigned_42 rfl rfl ?_
              refine ro_icmp_ne (tgt := 49) (pc := 43) dX12_feigned_43 (by decide) (fun _ => ?_) (fun _ => ?_)
              · skip
                refine ro_iinc (pc := 49) (v := x5 + 1) (lv' := [(3, .int (x5 + 1)), (0, .ref (xa X 51)), (1, .int a1), (2, .int a2), (4, .int x6)]) 3 dX12_feigned_49 rfl rfl (by decide) rfl ?_
                refine ro_lv [1, 2, 3, 0, 4] rfl ?_
                exact hj8 (x5 + 1)
              · skip
                refine ro_iload (pc := 46) 4 dX12_feigned_46 rfl ?_
                exact ro_iret (pc := 48) rfl rfl dX12_feigned_48
    · skip
      refine ro_iconst (v := (-1)) (pc := 13) dX12_feigned_13 (by decide) ?_
      exact ro_iret (pc := 14) rfl rfl dX12_feigned_14
theorem c_Mod_feigned (X : mu_X) (N : Nat) (h : mu_H) (a1 : Int32) (a2 : Int32) : ∀ r, f_Mod_feigned N h a1 a2 = some r → mI X m_Mod_feigned 3 [.ref (xa X 51), .int a1, .int a2] h r h := fun r hr => mI_of (by decide) rfl (Nat.le_of_ble_eq_true rfl) rfl (cb_Mod_feigned X N h a1 a2 r hr)
set_option maxRecDepth 20000 in
theorem cb_Mod_has (X : mu_X) (N : Nat) (h : mu_H) (a0 : Int32) (a1 : Int32) : aG X m_Mod_has (rmk 1) (fun _ => ax X) (fun _ _ _ => True) 0 0 (fun r : Int32 => qI X r h) (f_Mod_has N h a0 a1) 0 [(0, .int a0), (1, .int a1)] [] h := by
  unfold f_Mod_has
  refine ro_iload_n (pc := 0) 0 dX12_has_0 rfl rfl ?_
  refine ro_iload_n (pc := 1) 1 dX12_has_1 rfl rfl ?_
  refine ro_ishr (pc := 2) dX12_has_2 ?_
  refine ro_iconst (v := 1) (pc := 3) dX12_has_3 (by decide) ?_
  refine ro_iand (pc := 4) dX12_has_4 ?_
  refine ro_iconst (v := 1) (pc := 5) dX12_has_5 (by decide) ?_
  refine ro_icmp_ne (tgt := 13) (pc := 6) dX12_has_6 (by decide) (fun _ => ?_) (fun _ => ?_)
  · skip
    refine ro_iconst (v := 0) (pc := 13) dX12_has_13 (by decide) ?_
    exact ro_zret (pc := 14) rfl rfl rfl dX12_has_14
  · skip
    refine ro_iconst (v := 1) (pc := 9) dX12_has_9 (by decide) ?_
    refine ro_goto (tgt := 14) (pc := 10) dX12_has_10 (by decide) ?_
    exact ro_zret (pc := 14) rfl rfl rfl dX12_has_14
theorem c_Mod_has (X : mu_X) (N : Nat) (h : mu_H) (a0 : Int32) (a1 : Int32) : ∀ r, f_Mod_has N h a0 a1 = some r → mI X m_Mod_has 1 [.int a0, .int a1] h r h := fun r hr => mI_of (by decide) rfl (Nat.le_of_ble_eq_true rfl) rfl (cb_Mod_has X N h a0 a1 r hr)
set_option maxRecDepth 20000 in
theorem cb_Mod_best (X : mu_X) (N : Nat) (h : mu_H) (a1 : Int32) : aG X m_Mod_best (rmk 4) (fun _ => ax X) (fun _ _ _ => True) 0 0 (fun r : Int32 => qI X r h) (f_Mod_best N h a1) 0 [(0, .ref (xa X 51)), (1, .int a1)] [] h := by
  unfold f_Mod_best
  refine ro_aload_n (pc := 0) 0 dX12_best_0 rfl rfl ?_
  refine ro_iload_n (pc := 1) 1 dX12_best_1 rfl rfl ?_
  refine ro_cvP (pc := 2) (kc := 2) (avs := [.int a1]) (st := []) ok_Mod_areFeigning wd_1855 cl_51 cv_51 rfl ⟨by decide, by decide⟩ ⟨Nat.zero_le _, Nat.zero_le _⟩ (c_Mod_areFeigning X N h a1) rfl rfl (Nat.le_of_ble_eq_true rfl) dX12_best_2 (fun x1 => ?_)
  refine ro_if_eq (tgt := 18) (pc := 5) dX12_best_5 (by decide) (fun _ => ?_) (fun _ => ?_)
  · skip
    refine ro_iconst (v := (-1)) (pc := 18) dX12_best_18 (by decide) ?_
    exact ro_iret (pc := 19) rfl rfl dX12_best_19
  · skip
    refine ro_aload_n (pc := 8) 0 dX12_best_8 rfl rfl ?_
    refine ro_iload_n (pc := 9) 1 dX12_best_9 rfl rfl ?_
    refine ro_iconst (v := 0) (pc := 10) dX12_best_10 (by decide) ?_
    refine ro_cvP (pc := 11) (kc := 3) (avs := [.int a1, .int 0]) (st := []) ok_Mod_feigned wd_1868 cl_51 cv_51 rfl ⟨by decide, by decide⟩ ⟨Nat.zero_le _, Nat.zero_le _⟩ (c_Mod_feigned X N h a1 0) rfl rfl (Nat.le_of_ble_eq_true rfl) dX12_best_11 (fun x2 => ?_)
    refine ro_iconst (v := (-1)) (pc := 14) dX12_best_14 (by decide) ?_
    refine ro_icmp_ne (tgt := 20) (pc := 15) dX12_best_15 (by decide) (fun _ => ?_) (fun _ => ?_)
    · skip
      refine ro_iconst (v := (-1)) (pc := 20) dX12_best_20 (by decide) ?_
      refine ro_istore_n (pc := 21) (lv' := [(2, .int (-1)), (0, .ref (xa X 51)), (1, .int a1)]) dX12_best_21 rfl (by decide) rfl ?_
      refine ro_iconst (v := 0) (pc := 22) dX12_best_22 (by decide) ?_
      refine ro_istore_n (pc := 23) (lv' := [(3, .int 0), (2, .int (-1)), (0, .ref (xa X 51)), (1, .int a1)]) dX12_best_23 rfl (by decide) rfl ?_
      refine ro_iconst (v := 0) (pc := 24) dX12_best_24 (by decide) ?_
      refine ro_istore (pc := 25) (lv' := [(4, .int 0), (3, .int 0), (2, .int (-1)), (0, .ref (xa X 51)), (1, .int a1)]) dX12_best_25 (by decide) rfl ?_
      refine ro_lv [3, 4, 2, 1, 0] rfl ?_
      refine ro_lp (pc := 27) (lvs := fun (s : Int32 × Int32 × Int32) => [(0, .ref (xa X 51)), (1, .int a1), (2, .int s.1), (3, .int s.2.1), (4, .int s.2.2)]) (hs := fun (s : Int32 × Int32 × Int32) => h) (fun rec3 hrec3 s => ?_) N ((-1), 0, 0)
      obtain ⟨x4, x5, x6⟩ := s; unfold f_Mod_best_L27; try dsimp only
      refine ro_iload (pc := 27) 4 dX12_best_27 rfl ?_
      refine ro_aload_n (pc := 29) 0 dX12_best_29 rfl rfl ?_
      refine gf_X12_26 (pc := 30) wd_1348 dX12_best_30 ?_
      refine ro_icmp_ge (tgt := 122) (pc := 33) dX12_best_33 (by decide) (fun _ => ?_) (fun _ => ?_)
      · skip
        refine ro_iload_n (pc := 122) 2 dX12_best_122 rfl rfl ?_
        exact ro_iret (pc := 123) rfl rfl dX12_best_123
      · skip
        refine ro_iconst (v := 0) (pc := 36) dX12_best_36 (by decide) ?_
        refine ro_istore (pc := 37) (lv' := [(5, .int 0), (0, .ref (xa X 51)), (1, .int a1), (2, .int x4), (3, .int x5), (4, .int x6)]) dX12_best_37 (by decide) rfl ?_
        refine ro_iconst (v := 0) (pc := 39) dX12_best_39 (by decide) ?_
        refine ro_istore (pc := 40) (lv' := [(6, .int 0), (5, .int 0), (0, .ref (xa X 51)), (1, .int a1), (2, .int x4), (3, .int x5), (4, .int x6)]) dX12_best_40 (by decide) rfl ?_
        refine ro_jn (pcj := 93) (lvs := fun (s : Int32) => [(0, .ref (xa X 51)), (1, .int a1), (2, .int x4), (3, .int x5), (4, .int x6), (5, .int s)]) (hs := fun (s : Int32) => h) (sts := fun (s : Int32) => []) (fun x8 => ?_) (fun k7 hk7 => ?_)
        · try dsimp only
          refine ro_iload_n (pc := 93) 2 dX12_best_93 rfl rfl ?_
          refine ro_iconst (v := (-1)) (pc := 94) dX12_best_94 (by decide) ?_
          refine ro_jn (pcj := 116) (lvs := fun (s : Int32 × Int32) => [(0, .ref (xa X 51)), (1, .int a1), (2, .int s.1), (3, .int s.2), (4, .int x6)]) (hs := fun (s : Int32 × Int32) => h) (sts := fun (s : Int32 × Int32) => []) (fun s => ?_) (fun j9 hj9 => ?_)
          · obtain ⟨x10, x11⟩ := s; try dsimp only
            refine ro_iinc (pc := 116) (v := x6 + 1) (lv' := [(4, .int (x6 + 1)), (0, .ref (xa X 51)), (1, .int a1), (2, .int x10), (3, .int x11)]) 4 dX12_best_116 rfl rfl (by decide) rfl ?_
            refine ro_goto (tgt := 27) (pc := 119) dX12_best_119 (by decide) ?_
            refine ro_lv [1, 2, 3, 4, 0] rfl ?_
            exact hrec3 (x10, x11, x6 + 1)
          · skip
            refine ro_jn (pcj := 107) (lvs := fun (s : Unit) => [(0, .ref (xa X 51)), (1, .int a1), (4, .int x6), (5, .int x8)]) (hs := fun (s : Unit) => h) (sts := fun (s : Unit) => []) (fun s => ?_) (fun j12 hj12 => ?_)
            · try dsimp only
              refine ro_iload (pc := 107) 2 dX12_best_107 rfl ?_
              refine ro_istore_n (pc := 109) (lv' := [(2, .int x6), (0, .ref (xa X 51)), (1, .int a1), (4, .int x6), (5, .int x8)]) dX12_best_109 rfl (by decide) rfl ?_
              refine ro_iload (pc := 110) 4 dX12_best_110 rfl ?_
              refine ro_mabs (pc := 112) (st := []) wd_1873 (by decide) (Nat.le_of_ble_eq_true rfl) ⟨Nat.zero_le _, Nat.zero_le _⟩ dX12_best_112 ?_
              refine ro_bn (fun x13 => ?_)
              refine ro_istore_n (pc := 115) (lv' := [(3, .int x13), (2, .int x6), (0, .ref (xa X 51)), (1, .int a1), (4, .int x6), (5, .int x8)]) dX12_best_115 rfl (by decide) rfl ?_
              refine ro_lv [2, 3, 1, 0, 4] rfl ?_
              exact hj9 (x6, x13)
            · skip
              refine ro_icmp_eq (tgt := 107) (pc := 95) dX12_best_95 (by decide) (fun _ => ?_) (fun _ => ?_)
              · skip
                refine ro_lv [0, 1, 4, 5] rfl ?_
                exact hj12 ()
              · skip
                refine ro_iload (pc := 98) 5 dX12_best_98 rfl ?_
                refine ro_mabs (pc := 100) (st := []) wd_1873 (by decide) (Nat.le_of_ble_eq_true rfl) ⟨Nat.zero_le _, Nat.zero_le _⟩ dX12_best_100 ?_
                refine ro_iload_n (pc := 103) 3 dX12_best_103 rfl rfl ?_
                refine ro_icmp_ge (tgt := 116) (pc := 104) dX12_best_104 (by decide) (fun _ => ?_) (fun _ => ?_)
                · skip
                  refine ro_lv [0, 1, 2, 3, 4] rfl ?_
                  exact hj9 (x4, x5)
                · skip
                  refine ro_lv [0, 1, 4, 5] rfl ?_
                  exact hj12 ()
        · skip
          refine ro_lv [2, 3, 4, 5, 6, 1, 0] rfl ?_
          refine ro_lp (pc := 42) (lvs := fun (s : Int32 × Int32) => [(0, .ref (xa X 51)), (1, .int a1), (2, .int x4), (3, .int x5), (4, .int x6), (5, .int s.1), (6, .int s.2)]) (hs := fun (s : Int32 × Int32) => h) (fun rec14 hrec14 s => ?_) N (0, 0)
          obtain ⟨x15, x16⟩ := s; unfold f_Mod_best_L42; try dsimp only
          refine ro_iload (pc := 42) 6 dX12_best_42 rfl ?_
          refine ro_iconst (v := 1) (pc := 44) dX12_best_44 (by decide) ?_
          refine ro_aload_n (pc := 45) 0 dX12_best_45 rfl rfl ?_
          refine gf_X12_26 (pc := 46) wd_1348 dX12_best_46 ?_
          refine ro_ishl (pc := 49) dX12_best_49 ?_
          refine ro_icmp_ge (tgt := 93) (pc := 50) dX12_best_50 (by decide) (fun _ => ?_) (fun _ => ?_)
          · skip
            refine ro_lv [0, 1, 2, 3, 4, 5] rfl ?_
            exact hk7 x15
          · skip
            refine ro_iload (pc := 53) 5 dX12_best_53 rfl ?_
            refine ro_aload_n (pc := 55) 0 dX12_best_55 rfl rfl ?_
            refine ro_iload_n (pc := 56) 1 dX12_best_56 rfl rfl ?_
            refine ro_iload (pc := 57) 6 dX12_best_57 rfl ?_
            refine ro_cvP (pc := 59) (kc := 2) (avs := [.int a1, .int x16]) (st := [.int x15]) ok_Mod_isFeigned wd_1859 cl_51 cv_51 rfl ⟨by decide, by decide⟩ ⟨Nat.zero_le _, Nat.zero_le _⟩ (c_Mod_isFeigned X N h a1 x16) rfl rfl (Nat.le_of_ble_eq_true rfl) dX12_best_59 (fun x17 => ?_)
            refine ro_jn (pcj := 84) (lvs := fun (s : Int32) => [(0, .ref (xa X 51)), (1, .int a1), (2, .int x4), (3, .int x5), (4, .int x6), (6, .int x16)]) (hs := fun (s : Int32) => h) (sts := fun (s : Int32) => [.int s, .int x15]) (fun x19 => ?_) (fun j18 hj18 => ?_)
            · try dsimp only
              refine ro_iadd (pc := 84) dX12_best_84 ?_
              refine ro_bn (fun x20 => ?_)
              refine ro_istore (pc := 85) (lv' := [(5, .int x20), (0, .ref (xa X 51)), (1, .int a1), (2, .int x4), (3, .int x5), (4, .int x6), (6, .int x16)]) dX12_best_85 (by decide) rfl ?_
              refine ro_iinc (pc := 87) (v := x16 + 1) (lv' := [(6, .int (x16 + 1)), (5, .int x20), (0, .ref (xa X 51)), (1, .int a1), (2, .int x4), (3, .int x5), (4, .int x6)]) 6 dX12_best_87 rfl rfl (by decide) rfl ?_
              refine ro_goto (tgt := 42) (pc := 90) dX12_best_90 (by decide) ?_
              refine ro_lv [2, 3, 4, 5, 6, 1, 0] rfl ?_
              exact hrec14 (x20, x16 + 1)
            · skip
              refine ro_if_ne (tgt := 69) (pc := 62) dX12_best_62 (by decide) (fun _ => ?_) (fun _ => ?_)
              · skip
                refine ro_iload (pc := 69) 6 dX12_best_69 rfl ?_
                refine ro_iload (pc := 71) 4 dX12_best_71 rfl ?_
                refine ro_csP (pc := 73) (kc := 1) (avs := [.int x16, .int x6]) (st := [.int x15]) ok_Mod_has wd_1503 ⟨by decide, by decide⟩ ⟨Nat.zero_le _, Nat.zero_le _⟩ (c_Mod_has X N h x16 x6) rfl rfl (Nat.le_of_ble_eq_true rfl) dX12_best_73 (fun x21 => ?_)
                refine ro_if_eq (tgt := 83) (pc := 76) dX12_best_76 (by decide) (fun _ => ?_) (fun _ => ?_)
                · skip
                  refine ro_iconst (v := (-1)) (pc := 83) dX12_best_83 (by decide) ?_
                  refine ro_lv [0, 1, 2, 3, 4, 6] rfl ?_
                  exact hj18 (-1)
                · skip
                  refine ro_iconst (v := 1) (pc := 79) dX12_best_79 (by decide) ?_
                  refine ro_goto (tgt := 84) (pc := 80) dX12_best_80 (by decide) ?_
                  refine ro_lv [0, 1, 2, 3, 4, 6] rfl ?_
                  exact hj18 1
              · skip
                refine ro_iconst (v := 0) (pc := 65) dX12_best_65 (by decide) ?_
                refine ro_goto (tgt := 84) (pc := 66) dX12_best_66 (by decide) ?_
                refine ro_lv [0, 1, 2, 3, 4, 6] rfl ?_
                exact hj18 0
    · skip
      refine ro_iconst (v := (-1)) (pc := 18) dX12_best_18 (by decide) ?_
      exact ro_iret (pc := 19) rfl rfl dX12_best_19
theorem c_Mod_best (X : mu_X) (N : Nat) (h : mu_H) (a1 : Int32) : ∀ r, f_Mod_best N h a1 = some r → mI X m_Mod_best 4 [.ref (xa X 51), .int a1] h r h := fun r hr => mI_of (by decide) rfl (Nat.le_of_ble_eq_true rfl) rfl (cb_Mod_best X N h a1 r hr)
set_option maxRecDepth 20000 in
theorem cb_Mod_bounded (X : mu_X) (N : Nat) (h : mu_H) (a0 : Int64) : aG X m_Mod_bounded (rmk 2) (fun _ => ax X) (fun _ _ _ => True) 0 0 (fun r : Int32 => qI X r h) (f_Mod_bounded N h a0) 0 [(0, .long a0)] [] h := by
  unfold f_Mod_bounded
  refine ro_ldc2 (v := (-1000000)) (pc := 0) dX12_bounded_0 wd_1684 ?_
  refine ro_ldc2 (v := 1000000) (pc := 3) dX12_bounded_3 wd_1685 ?_
  refine ro_lload_n (pc := 6) 0 dX12_bounded_6 rfl rfl ?_
  refine ro_mminL (pc := 7) (st := [.long (-1000000)]) wd_1686 (by decide) (Nat.le_of_ble_eq_true rfl) ⟨Nat.zero_le _, Nat.zero_le _⟩ dX12_bounded_7 ?_
  refine ro_mmaxL (pc := 10) (st := []) wd_1689 (by decide) (Nat.le_of_ble_eq_true rfl) ⟨Nat.zero_le _, Nat.zero_le _⟩ dX12_bounded_10 ?_
  refine ro_l2i (pc := 13) dX12_bounded_13 ?_
  exact ro_iret (pc := 14) rfl rfl dX12_bounded_14
theorem c_Mod_bounded (X : mu_X) (N : Nat) (h : mu_H) (a0 : Int64) : ∀ r, f_Mod_bounded N h a0 = some r → mI X m_Mod_bounded 2 [.long a0] h r h := fun r hr => mI_of (by decide) rfl (Nat.le_of_ble_eq_true rfl) rfl (cb_Mod_bounded X N h a0 r hr)
set_option maxRecDepth 20000 in
theorem cb_Mod_worked (X : mu_X) (N : Nat) (h : mu_H) (a0 : Int32) (a1 : Int64) (a3 : Int64) : aG X m_Mod_worked (rmk 3) (fun _ => ax X) (fun _ _ _ => True) 0 0 (fun r : Int32 => qI X r h) (f_Mod_worked N h a0 a1 a3) 0 [(0, .int a0), (1, .long a1), (3, .long a3)] [] h := by
  unfold f_Mod_worked
  refine ro_iload_n (pc := 0) 0 dX12_worked_0 rfl rfl ?_
  refine ro_tsk (key := 2) (tgt := 52) (pc := 1) dX12_worked_1 (by decide) (by decide) rfl (by decide) (fun _ => ?_) (fun c1_2 => ?_)
  · skip
    refine ro_lload_n (pc := 52) 1 dX12_worked_52 rfl rfl ?_
    refine ro_lload_n (pc := 53) 2 dX12_worked_53 rfl rfl ?_
    refine ro_ladd (pc := 54) dX12_worked_54 ?_
    refine ro_csP (pc := 55) (kc := 2) (avs := [.long (a1 + a3)]) (st := []) ok_Mod_bounded wd_1681 ⟨by decide, by decide⟩ ⟨Nat.zero_le _, Nat.zero_le _⟩ (c_Mod_bounded X N h (a1 + a3)) rfl rfl (Nat.le_of_ble_eq_true rfl) dX12_worked_55 (fun x1 => ?_)
    exact ro_iret (pc := 58) rfl rfl dX12_worked_58
  refine ro_tsk (key := 3) (tgt := 59) (pc := 1) dX12_worked_1 (by decide) (by decide) rfl (by decide) (fun _ => ?_) (fun c1_3 => ?_)
  · skip
    refine ro_lload_n (pc := 59) 1 dX12_worked_59 rfl rfl ?_
    refine ro_lload_n (pc := 60) 2 dX12_worked_60 rfl rfl ?_
    refine ro_lsub (pc := 61) dX12_worked_61 ?_
    refine ro_csP (pc := 62) (kc := 2) (avs := [.long (a1 - a3)]) (st := []) ok_Mod_bounded wd_1681 ⟨by decide, by decide⟩ ⟨Nat.zero_le _, Nat.zero_le _⟩ (c_Mod_bounded X N h (a1 - a3)) rfl rfl (Nat.le_of_ble_eq_true rfl) dX12_worked_62 (fun x2 => ?_)
    exact ro_iret (pc := 65) rfl rfl dX12_worked_65
  refine ro_tsk (key := 4) (tgt := 66) (pc := 1) dX12_worked_1 (by decide) (by decide) rfl (by decide) (fun _ => ?_) (fun c1_4 => ?_)
  · skip
    refine ro_lload_n (pc := 66) 1 dX12_worked_66 rfl rfl ?_
    refine ro_lload_n (pc := 67) 2 dX12_worked_67 rfl rfl ?_
    refine ro_lmul (pc := 68) dX12_worked_68 ?_
    refine ro_csP (pc := 69) (kc := 2) (avs := [.long (a1 * a3)]) (st := []) ok_Mod_bounded wd_1681 ⟨by decide, by decide⟩ ⟨Nat.zero_le _, Nat.zero_le _⟩ (c_Mod_bounded X N h (a1 * a3)) rfl rfl (Nat.le_of_ble_eq_true rfl) dX12_worked_69 (fun x3 => ?_)
    exact ro_iret (pc := 72) rfl rfl dX12_worked_72
  refine ro_tsk (key := 5) (tgt := 73) (pc := 1) dX12_worked_1 (by decide) (by decide) rfl (by decide) (fun _ => ?_) (fun c1_5 => ?_)
  · skip
    refine ro_lload_n (pc := 73) 2 dX12_worked_73 rfl rfl ?_
    refine ro_lconst (v := 0) (pc := 74) dX12_worked_74 (by decide) ?_
    refine ro_lcmp (pc := 75) dX12_worked_75 ?_
    refine ro_if_ne (tgt := 83) (pc := 76) dX12_worked_76 (by decide) (fun _ => ?_) (fun _ => ?_)
    · skip
      refine ro_lload_n (pc := 83) 1 dX12_worked_83 rfl rfl ?_
      refine ro_lload_n (pc := 84) 2 dX12_worked_84 rfl rfl ?_
      refine ro_ldivg (pc := 85) dX12_worked_85 ?_
      refine ro_csP (pc := 86) (kc := 2) (avs := [.long (a1 / a3)]) (st := []) ok_Mod_bounded wd_1681 ⟨by decide, by decide⟩ ⟨Nat.zero_le _, Nat.zero_le _⟩ (c_Mod_bounded X N h (a1 / a3)) rfl rfl (Nat.le_of_ble_eq_true rfl) dX12_worked_86 (fun x4 => ?_)
      exact ro_iret (pc := 89) rfl rfl dX12_worked_89
    · skip
      refine ro_iconst (v := 0) (pc := 79) dX12_worked_79 (by decide) ?_
      refine ro_goto (tgt := 89) (pc := 80) dX12_worked_80 (by decide) ?_
      exact ro_iret (pc := 89) rfl rfl dX12_worked_89
  refine ro_tsk (key := 6) (tgt := 90) (pc := 1) dX12_worked_1 (by decide) (by decide) rfl (by decide) (fun _ => ?_) (fun c1_6 => ?_)
  · skip
    refine ro_lload_n (pc := 90) 1 dX12_worked_90 rfl rfl ?_
    refine ro_lload_n (pc := 91) 2 dX12_worked_91 rfl rfl ?_
    refine ro_lcmp (pc := 92) dX12_worked_92 ?_
    refine ro_if_ne (tgt := 100) (pc := 93) dX12_worked_93 (by decide) (fun _ => ?_) (fun _ => ?_)
    · skip
      refine ro_iconst (v := 0) (pc := 100) dX12_worked_100 (by decide) ?_
      exact ro_iret (pc := 101) rfl rfl dX12_worked_101
    · skip
      refine ro_iconst (v := 1) (pc := 96) dX12_worked_96 (by decide) ?_
      refine ro_goto (tgt := 101) (pc := 97) dX12_worked_97 (by decide) ?_
      exact ro_iret (pc := 101) rfl rfl dX12_worked_101
  refine ro_tsk (key := 7) (tgt := 102) (pc := 1) dX12_worked_1 (by decide) (by decide) rfl (by decide) (fun _ => ?_) (fun c1_7 => ?_)
  · skip
    refine ro_lload_n (pc := 102) 1 dX12_worked_102 rfl rfl ?_
    refine ro_lload_n (pc := 103) 2 dX12_worked_103 rfl rfl ?_
    refine ro_lcmp (pc := 104) dX12_worked_104 ?_
    refine ro_if_ge (tgt := 112) (pc := 105) dX12_worked_105 (by decide) (fun _ => ?_) (fun _ => ?_)
    · skip
      refine ro_iconst (v := 0) (pc := 112) dX12_worked_112 (by decide) ?_
      exact ro_iret (pc := 113) rfl rfl dX12_worked_113
    · skip
      refine ro_iconst (v := 1) (pc := 108) dX12_worked_108 (by decide) ?_
      refine ro_goto (tgt := 113) (pc := 109) dX12_worked_109 (by decide) ?_
      exact ro_iret (pc := 113) rfl rfl dX12_worked_113
  refine ro_tsk (key := 8) (tgt := 114) (pc := 1) dX12_worked_1 (by decide) (by decide) rfl (by decide) (fun _ => ?_) (fun c1_8 => ?_)
  · skip
    refine ro_lload_n (pc := 114) 1 dX12_worked_114 rfl rfl ?_
    refine ro_lload_n (pc := 115) 2 dX12_worked_115 rfl rfl ?_
    refine ro_lcmp (pc := 116) dX12_worked_116 ?_
    refine ro_if_le (tgt := 124) (pc := 117) dX12_worked_117 (by decide) (fun _ => ?_) (fun _ => ?_)
    · skip
      refine ro_iconst (v := 0) (pc := 124) dX12_worked_124 (by decide) ?_
      exact ro_iret (pc := 125) rfl rfl dX12_worked_125
    · skip
      refine ro_iconst (v := 1) (pc := 120) dX12_worked_120 (by decide) ?_
      refine ro_goto (tgt := 125) (pc := 121) dX12_worked_121 (by decide) ?_
      exact ro_iret (pc := 125) rfl rfl dX12_worked_125
  refine ro_tsk (key := 9) (tgt := 144) (pc := 1) dX12_worked_1 (by decide) (by decide) rfl (by decide) (fun _ => ?_) (fun c1_9 => ?_)
  · skip
    refine ro_lload_n (pc := 144) 1 dX12_worked_144 rfl rfl ?_
    refine ro_lconst (v := 0) (pc := 145) dX12_worked_145 (by decide) ?_
    refine ro_lcmp (pc := 146) dX12_worked_146 ?_
    refine ro_if_ne (tgt := 156) (pc := 147) dX12_worked_147 (by decide) (fun _ => ?_) (fun _ => ?_)
    · skip
      refine ro_iconst (v := 1) (pc := 156) dX12_worked_156 (by decide) ?_
      refine ro_goto (tgt := 161) (pc := 157) dX12_worked_157 (by decide) ?_
      exact ro_iret (pc := 161) rfl rfl dX12_worked_161
    · skip
      refine ro_lload_n (pc := 150) 2 dX12_worked_150 rfl rfl ?_
      refine ro_lconst (v := 0) (pc := 151) dX12_worked_151 (by decide) ?_
      refine ro_lcmp (pc := 152) dX12_worked_152 ?_
      refine ro_if_eq (tgt := 160) (pc := 153) dX12_worked_153 (by decide) (fun _ => ?_) (fun _ => ?_)
      · skip
        refine ro_iconst (v := 0) (pc := 160) dX12_worked_160 (by decide) ?_
        exact ro_iret (pc := 161) rfl rfl dX12_worked_161
      · skip
        refine ro_iconst (v := 1) (pc := 156) dX12_worked_156 (by decide) ?_
        refine ro_goto (tgt := 161) (pc := 157) dX12_worked_157 (by decide) ?_
        exact ro_iret (pc := 161) rfl rfl dX12_worked_161
  refine ro_tsk (key := 10) (tgt := 126) (pc := 1) dX12_worked_1 (by decide) (by decide) rfl (by decide) (fun _ => ?_) (fun c1_10 => ?_)
  · skip
    refine ro_lload_n (pc := 126) 1 dX12_worked_126 rfl rfl ?_
    refine ro_lconst (v := 0) (pc := 127) dX12_worked_127 (by decide) ?_
    refine ro_lcmp (pc := 128) dX12_worked_128 ?_
    refine ro_if_eq (tgt := 142) (pc := 129) dX12_worked_129 (by decide) (fun _ => ?_) (fun _ => ?_)
    · skip
      refine ro_iconst (v := 0) (pc := 142) dX12_worked_142 (by decide) ?_
      exact ro_iret (pc := 143) rfl rfl dX12_worked_143
    · skip
      refine ro_lload_n (pc := 132) 2 dX12_worked_132 rfl rfl ?_
      refine ro_lconst (v := 0) (pc := 133) dX12_worked_133 (by decide) ?_
      refine ro_lcmp (pc := 134) dX12_worked_134 ?_
      refine ro_if_eq (tgt := 142) (pc := 135) dX12_worked_135 (by decide) (fun _ => ?_) (fun _ => ?_)
      · skip
        refine ro_iconst (v := 0) (pc := 142) dX12_worked_142 (by decide) ?_
        exact ro_iret (pc := 143) rfl rfl dX12_worked_143
      · skip
        refine ro_iconst (v := 1) (pc := 138) dX12_worked_138 (by decide) ?_
        refine ro_goto (tgt := 143) (pc := 139) dX12_worked_139 (by decide) ?_
        exact ro_iret (pc := 143) rfl rfl dX12_worked_143
  refine ro_tsd (tgt := 144) (pc := 1) dX12_worked_1 (by have a2 := ne_int c1_2 (k := 2) (z := 2) (by decide); have a3 := ne_int c1_3 (k := 3) (z := 3) (by decide); have a4 := ne_int c1_4 (k := 4) (z := 4) (by decide); have a5 := ne_int c1_5 (k := 5) (z := 5) (by decide); have a6 := ne_int c1_6 (k := 6) (z := 6) (by decide); have a7 := ne_int c1_7 (k := 7) (z := 7) (by decide); have a8 := ne_int c1_8 (k := 8) (z := 8) (by decide); have a9 := ne_int c1_9 (k := 9) (z := 9) (by decide); have a10 := ne_int c1_10 (k := 10) (z := 10) (by decide); omega) (by decide) ?_
  refine ro_lload_n (pc := 144) 1 dX12_worked_144 rfl rfl ?_
  refine ro_lconst (v := 0) (pc := 145) dX12_worked_145 (by decide) ?_
  refine ro_lcmp (pc := 146) dX12_worked_146 ?_
  refine ro_if_ne (tgt := 156) (pc := 147) dX12_worked_147 (by decide) (fun _ => ?_) (fun _ => ?_)
  · skip
    refine ro_iconst (v := 1) (pc := 156) dX12_worked_156 (by decide) ?_
    refine ro_goto (tgt := 161) (pc := 157) dX12_worked_157 (by decide) ?_
    exact ro_iret (pc := 161) rfl rfl dX12_worked_161
  · skip
    refine ro_lload_n (pc := 150) 2 dX12_worked_150 rfl rfl ?_
    refine ro_lconst (v := 0) (pc := 151) dX12_worked_151 (by decide) ?_
    refine ro_lcmp (pc := 152) dX12_worked_152 ?_
    refine ro_if_eq (tgt := 160) (pc := 153) dX12_worked_153 (by decide) (fun _ => ?_) (fun _ => ?_)
    · skip
      refine ro_iconst (v := 0) (pc := 160) dX12_worked_160 (by decide) ?_
      exact ro_iret (pc := 161) rfl rfl dX12_worked_161
    · skip
      refine ro_iconst (v := 1) (pc := 156) dX12_worked_156 (by decide) ?_
      refine ro_goto (tgt := 161) (pc := 157) dX12_worked_157 (by decide) ?_
      exact ro_iret (pc := 161) rfl rfl dX12_worked_161
theorem c_Mod_worked (X : mu_X) (N : Nat) (h : mu_H) (a0 : Int32) (a1 : Int64) (a3 : Int64) : ∀ r, f_Mod_worked N h a0 a1 a3 = some r → mI X m_Mod_worked 3 [.int a0, .long a1, .long a3] h r h := fun r hr => mI_of (by decide) rfl (Nat.le_of_ble_eq_true rfl) rfl (cb_Mod_worked X N h a0 a1 a3 r hr)
set_option maxRecDepth 20000 in
theorem cb_Mod_workOut (X : mu_X) (N : Nat) (h : mu_H) (a1 : Int32) (a2 : Int32) (a3 : Int32) : aG X m_Mod_workOut (rmk 4) (fun _ => ax X) (fun _ _ _ => True) 0 0 (fun r : Int32 × mu_H => qI X r.1 r.2) (f_Mod_workOut N h a1 a2 a3) 0 [(0, .ref (xa X 51)), (1, .int a1), (2, .int a2), (3, .int a3)] [] h := by
  unfold f_Mod_workOut
  refine ro_iconst (v := 0) (pc := 0) dX12_workOut_0 (by decide) ?_
  refine ro_istore (pc := 1) (lv' := [(4, .int 0), (0, .ref (xa X 51)), (1, .int a1), (2, .int a2), (3, .int a3)]) dX12_workOut_1 (by decide) rfl ?_
  refine ro_sipush (v := 520) (pc := 3) dX12_workOut_3 (by decide) ?_
  refine ro_iload_n (pc := 6) 2 dX12_workOut_6 rfl rfl ?_
  refine ro_imul (pc := 7) dX12_workOut_7 ?_
  refine ro_iload_n (pc := 8) 3 dX12_workOut_8 rfl rfl ?_
  refine ro_iadd (pc := 9) dX12_workOut_9 ?_
  refine ro_bn (fun x1 => ?_)
  refine ro_istore (pc := 10) (lv' := [(5, .int x1), (4, .int 0), (0, .ref (xa X 51)), (1, .int a1), (2, .int a2), (3, .int a3)]) dX12_workOut_10 (by decide) rfl ?_
  refine ro_jn (pcj := 171) (lvs := fun (s : mu_H) => [(0, .ref (xa X 51))]) (hs := fun (s : mu_H) => s) (sts := fun (s : mu_H) => []) (fun h3 => ?_) (fun k2 hk2 => ?_)
  · try dsimp only
    refine ro_aload_n (pc := 171) 0 dX12_workOut_171 rfl rfl ?_
    refine gf_X12_16 (pc := 172) wd_1338 dX12_workOut_172 ?_
    refine ro_iconst (v := 0) (pc := 175) dX12_workOut_175 (by decide) ?_
    refine ro_iald (pc := 176) (n := 80) cl_61 cv_61 dX12_workOut_176 ?_
    exact ro_iret (pc := 177) rfl rfl dX12_workOut_177
  · skip
    refine ro_lv [2, 3, 5, 1, 0] rfl ?_
    refine ro_lp (pc := 12) (lvs := fun (s : Int32 × Int32 × mu_H) => [(0, .ref (xa X 51)), (1, .int a1), (3, .int a3), (4, .int s.1), (5, .int s.2.1)]) (hs := fun (s : Int32 × Int32 × mu_H) => s.2.2) (fun rec4 hrec4 s => ?_) N (0, x1, h)
    obtain ⟨x5, x6, h7⟩ := s; unfold f_Mod_workOut_L12; try dsimp only
    refine ro_iload (pc := 12) 4 dX12_workOut_12 rfl ?_
    refine ro_sipush (v := 520) (pc := 14) dX12_workOut_14 (by decide) ?_
    refine ro_iload_n (pc := 17) 1 dX12_workOut_17 rfl rfl ?_
    refine ro_imul (pc := 18) dX12_workOut_18 ?_
    refine ro_iload_n (pc := 19) 2 dX12_workOut_19 rfl rfl ?_
    refine ro_iadd (pc := 20) dX12_workOut_20 ?_
    refine ro_icmp_ge (tgt := 171) (pc := 21) dX12_workOut_21 (by decide) (fun _ => ?_) (fun _ => ?_)
    · skip
      refine ro_lv [0] rfl ?_
      exact hk2 h7
    · skip
      refine ro_aload_n (pc := 24) 0 dX12_workOut_24 rfl rfl ?_
      refine gf_X12_6 (pc := 25) wd_1328 dX12_workOut_25 ?_
      refine ro_iload (pc := 28) 4 dX12_workOut_28 rfl ?_
      refine ro_iald (pc := 30) (n := 2600) cl_53 cv_53 dX12_workOut_30 ?_
      refine ro_jn (pcj := 165) (lvs := fun (s : Int32 × mu_H) => [(0, .ref (xa X 51)), (1, .int a1), (3, .int a3), (4, .int s.1), (5, .int x6)]) (hs := fun (s : Int32 × mu_H) => s.2) (sts := fun (s : Int32 × mu_H) => []) (fun s => ?_) (fun j8 hj8 => ?_)
      · obtain ⟨x9, h10⟩ := s; try dsimp only
        refine ro_iinc (pc := 165) (v := x6 + 1) (lv' := [(5, .int (x6 + 1)), (0, .ref (xa X 51)), (1, .int a1), (3, .int a3), (4, .int x9)]) 4 dX12_workOut_165 rfl rfl (by decide) rfl ?_
        refine ro_goto (tgt := 12) (pc := 168) dX12_workOut_168 (by decide) ?_
        refine ro_lv [1, 2, 3, 4, 0] rfl ?_
        exact hrec4 (x9, x6 + 1, h10)
      · skip
        refine ro_jn (pcj := 45) (lvs := fun (s : Unit) => [(0, .ref (xa X 51)), (1, .int a1), (3, .int a3), (4, .int x5), (5, .int x6)]) (hs := fun (s : Unit) => h7) (sts := fun (s : Unit) => []) (fun s => ?_) (fun j11 hj11 => ?_)
        · try dsimp only
          refine ro_aload_n (pc := 45) 0 dX12_workOut_45 rfl rfl ?_
          refine gf_X12_16 (pc := 46) wd_1338 dX12_workOut_46 ?_
          refine ro_iload (pc := 49) 3 dX12_workOut_49 rfl ?_
          refine ro_aload_n (pc := 51) 0 dX12_workOut_51 rfl rfl ?_
          refine gf_X12_6 (pc := 52) wd_1328 dX12_workOut_52 ?_
          refine ro_iload (pc := 55) 4 dX12_workOut_55 rfl ?_
          refine ro_iald (pc := 57) (n := 2600) cl_53 cv_53 dX12_workOut_57 ?_
          refine ro_jn (pcj := 83) (lvs := fun (s : Int32) => [(0, .ref (xa X 51)), (1, .int a1), (3, .int a3), (4, .int x5), (5, .int x6)]) (hs := fun (s : Int32) => h7) (sts := fun (s : Int32) => [.int s, .int x5, .ref (xa X 61)]) (fun x13 => ?_) (fun j12 hj12 => ?_)
          · try dsimp only
            refine ro_iast (pc := 83) (n := 80) cl_61 cv_61 dX12_workOut_83 ?_
            refine ro_bnh (fun h14 => ?_)
            refine ro_iinc (pc := 84) (v := x5 + 1) (lv' := [(4, .int (x5 + 1)), (0, .ref (xa X 51)), (1, .int a1), (3, .int a3), (5, .int x6)]) 3 dX12_workOut_84 rfl rfl (by decide) rfl ?_
            refine ro_goto (tgt := 165) (pc := 87) dX12_workOut_87 (by decide) ?_
            refine ro_lv [1, 2, 3, 0, 4] rfl ?_
            exact hj8 (x5 + 1, h14)
          · skip
            refine ro_if_ne (tgt := 71) (pc := 58) dX12_workOut_58 (by decide) (fun _ => ?_) (fun _ => ?_)
            · skip
              refine ro_aload_n (pc := 71) 0 dX12_workOut_71 rfl rfl ?_
              refine gf_X12_15 (pc := 72) wd_1337 dX12_workOut_72 ?_
              refine ro_aload_n (pc := 75) 0 dX12_workOut_75 rfl rfl ?_
              refine gf_X12_7 (pc := 76) wd_1329 dX12_workOut_76 ?_
              refine ro_iload (pc := 79) 4 dX12_workOut_79 rfl ?_
              refine ro_iald (pc := 81) (n := 2600) cl_54 cv_54 dX12_workOut_81 ?_
              refine ro_iald (pc := 82) (n := 6) cl_60 cv_60 dX12_workOut_82 ?_
              exact hj12 (h7.1 60 (h7.1 54 x6.toNatClampNeg).toNatClampNeg)
            · skip
              refine ro_aload_n (pc := 61) 0 dX12_workOut_61 rfl rfl ?_
              refine gf_X12_7 (pc := 62) wd_1329 dX12_workOut_62 ?_
              refine ro_iload (pc := 65) 4 dX12_workOut_65 rfl ?_
              refine ro_iald (pc := 67) (n := 2600) cl_54 cv_54 dX12_workOut_67 ?_
              refine ro_goto (tgt := 83) (pc := 68) dX12_workOut_68 (by decide) ?_
              exact hj12 (h7.1 54 x6.toNatClampNeg)
        · skip
          refine ro_if_eq (tgt := 45) (pc := 31) dX12_workOut_31 (by decide) (fun _ => ?_) (fun _ => ?_)
          · skip
            exact hj11 ()
          · skip
            refine ro_aload_n (pc := 34) 0 dX12_workOut_34 rfl rfl ?_
            refine gf_X12_6 (pc := 35) wd_1328 dX12_workOut_35 ?_
            refine ro_iload (pc := 38) 4 dX12_workOut_38 rfl ?_
            refine ro_iald (pc := 40) (n := 2600) cl_53 cv_53 dX12_workOut_40 ?_
            refine ro_iconst (v := 1) (pc := 41) dX12_workOut_41 (by decide) ?_
            refine ro_icmp_ne (tgt := 90) (pc := 42) dX12_workOut_42 (by decide) (fun _ => ?_) (fun _ => ?_)
            · skip
              refine ro_aload_n (pc := 90) 0 dX12_workOut_90 rfl rfl ?_
              refine gf_X12_6 (pc := 91) wd_1328 dX12_workOut_91 ?_
              refine ro_iload (pc := 94) 4 dX12_workOut_94 rfl ?_
              refine ro_iald (pc := 96) (n := 2600) cl_53 cv_53 dX12_workOut_96 ?_
              refine ro_bipush (v := 9) (pc := 97) dX12_workOut_97 (by decide) ?_
              refine ro_icmp_ne (tgt := 125) (pc := 99) dX12_workOut_99 (by decide) (fun _ => ?_) (fun _ => ?_)
              · skip
                refine ro_iinc (pc := 125) (v := x5 + (-1)) (lv' := [(4, .int (x5 + (-1))), (0, .ref (xa X 51)), (1, .int a1), (3, .int a3), (5, .int x6)]) 3 dX12_workOut_125 rfl rfl (by decide) rfl ?_
                refine ro_aload_n (pc := 128) 1 dX12_workOut_128 rfl rfl ?_
                refine gf_X12_16 (pc := 129) wd_1338 dX12_workOut_129 ?_
                refine ro_iload (pc := 132) 0 dX12_workOut_132 rfl ?_
                refine ro_iconst (v := 1) (pc := 134) dX12_workOut_134 (by decide) ?_
                refine ro_isub (pc := 135) dX12_workOut_135 ?_
                refine ro_aload_n (pc := 136) 1 dX12_workOut_136 rfl rfl ?_
                refine gf_X12_6 (pc := 137) wd_1328 dX12_workOut_137 ?_
                refine ro_iload (pc := 140) 4 dX12_workOut_140 rfl ?_
                refine ro_iald (pc := 142) (n := 2600) cl_53 cv_53 dX12_workOut_142 ?_
                refine ro_aload_n (pc := 143) 1 dX12_workOut_143 rfl rfl ?_
                refine gf_X12_16 (pc := 144) wd_1338 dX12_workOut_144 ?_
                refine ro_iload (pc := 147) 0 dX12_workOut_147 rfl ?_
                refine ro_iconst (v := 1) (pc := 149) dX12_workOut_149 (by decide) ?_
                refine ro_isub (pc := 150) dX12_workOut_150 ?_
                refine ro_iald (pc := 151) (n := 80) cl_61 cv_61 dX12_workOut_151 ?_
                refine ro_i2l (pc := 152) dX12_workOut_152 ?_
                refine ro_aload_n (pc := 153) 1 dX12_workOut_153 rfl rfl ?_
                refine gf_X12_16 (pc := 154) wd_1338 dX12_workOut_154 ?_
                refine ro_iload (pc := 157) 0 dX12_workOut_157 rfl ?_
                refine ro_iald (pc := 159) (n := 80) cl_61 cv_61 dX12_workOut_159 ?_
                refine ro_i2l (pc := 160) dX12_workOut_160 ?_
                refine ro_csP (pc := 161) (kc := 3) (avs := [.int (h7.1 53 x6.toNatClampNeg), .long ((h7.1 61 ((x5 + (-1)) - 1).toNatClampNeg).toInt64), .long ((h7.1 61 (x5 + (-1)).toNatClampNeg).toInt64)]) (st := [.int ((x5 + (-1)) - 1), .ref (xa X 61)]) ok_Mod_worked wd_1678 ⟨by decide, by decide⟩ ⟨Nat.zero_le _, Nat.zero_le _⟩ (c_Mod_worked X N h7 (h7.1 53 x6.toNatClampNeg) ((h7.1 61 ((x5 + (-1)) - 1).toNatClampNeg).toInt64) ((h7.1 61 (x5 + (-1)).toNatClampNeg).toInt64)) rfl rfl (Nat.le_of_ble_eq_true rfl) dX12_workOut_161 (fun x15 => ?_)
                refine ro_iast (pc := 164) (n := 80) cl_61 cv_61 dX12_workOut_164 ?_
                refine ro_bnh (fun h16 => ?_)
                refine ro_lv [1, 2, 3, 0, 4] rfl ?_
                exact hj8 (x5 + (-1), h16)
              · skip
                refine ro_aload_n (pc := 102) 0 dX12_workOut_102 rfl rfl ?_
                refine gf_X12_16 (pc := 103) wd_1338 dX12_workOut_103 ?_
                refine ro_iload (pc := 106) 3 dX12_workOut_106 rfl ?_
                refine ro_iconst (v := 1) (pc := 108) dX12_workOut_108 (by decide) ?_
                refine ro_isub (pc := 109) dX12_workOut_109 ?_
                refine ro_iconst (v := 1) (pc := 110) dX12_workOut_110 (by decide) ?_
                refine ro_aload_n (pc := 111) 0 dX12_workOut_111 rfl rfl ?_
                refine gf_X12_16 (pc := 112) wd_1338 dX12_workOut_112 ?_
                refine ro_iload (pc := 115) 3 dX12_workOut_115 rfl ?_
                refine ro_iconst (v := 1) (pc := 117) dX12_workOut_117 (by decide) ?_
                refine ro_isub (pc := 118) dX12_workOut_118 ?_
                refine ro_iald (pc := 119) (n := 80) cl_61 cv_61 dX12_workOut_119 ?_
                refine ro_isub (pc := 120) dX12_workOut_120 ?_
                refine ro_iast (pc := 121) (n := 80) cl_61 cv_61 dX12_workOut_121 ?_
                refine ro_bnh (fun h17 => ?_)
                refine ro_goto (tgt := 165) (pc := 122) dX12_workOut_122 (by decide) ?_
                exact hj8 (x5, h17)
            · skip
              exact hj11 ()
theorem c_Mod_workOut (X : mu_X) (N : Nat) (h : mu_H) (a1 : Int32) (a2 : Int32) (a3 : Int32) : ∀ r, f_Mod_workOut N h a1 a2 a3 = some r → mI X m_Mod_workOut 4 [.ref (xa X 51), .int a1, .int a2, .int a3] h r.1 r.2 := fun r hr => mI_of (by decide) rfl (Nat.le_of_ble_eq_true rfl) rfl (cb_Mod_workOut X N h a1 a2 a3 r hr)
set_option maxRecDepth 20000 in
theorem cb_Mod_worthOf (X : mu_X) (N : Nat) (h : mu_H) (a1 : Int32) : aG X m_Mod_worthOf (rmk 5) (fun _ => ax X) (fun _ _ _ => True) 0 0 (fun r : Int32 × mu_H => qI X r.1 r.2) (f_Mod_worthOf N h a1) 0 [(0, .ref (xa X 51)), (1, .int a1)] [] h := by
  unfold f_Mod_worthOf
  refine ro_sipush (v := 140) (pc := 0) dX12_worthOf_0 (by decide) ?_
  refine ro_iload_n (pc := 3) 1 dX12_worthOf_3 rfl rfl ?_
  refine ro_imul (pc := 4) dX12_worthOf_4 ?_
  refine ro_bn (fun x1 => ?_)
  refine ro_istore_n (pc := 5) (lv' := [(2, .int x1), (0, .ref (xa X 51)), (1, .int a1)]) dX12_worthOf_5 rfl (by decide) rfl ?_
  refine ro_jn (pcj := 57) (lvs := fun (s : Int32 × mu_H) => [(0, .ref (xa X 51)), (1, .int a1), (2, .int s.1)]) (hs := fun (s : Int32 × mu_H) => s.2) (sts := fun (s : Int32 × mu_H) => []) (fun s => ?_) (fun k2 hk2 => ?_)
  · obtain ⟨x3, h4⟩ := s; try dsimp only
    refine ro_aload_n (pc := 57) 0 dX12_worthOf_57 rfl rfl ?_
    refine ro_iload_n (pc := 58) 1 dX12_worthOf_58 rfl rfl ?_
    refine ro_aload_n (pc := 59) 0 dX12_worthOf_59 rfl rfl ?_
    refine gf_X12_11 (pc := 60) wd_1333 dX12_worthOf_60 ?_
    refine ro_iload_n (pc := 63) 2 dX12_worthOf_63 rfl rfl ?_
    refine ro_iald (pc := 64) (n := 700) cl_58 cv_58 dX12_worthOf_64 ?_
    refine ro_aload_n (pc := 65) 0 dX12_worthOf_65 rfl rfl ?_
    refine gf_X12_12 (pc := 66) wd_1334 dX12_worthOf_66 ?_
    refine ro_iload_n (pc := 69) 2 dX12_worthOf_69 rfl rfl ?_
    refine ro_iald (pc := 70) (n := 700) cl_59 cv_59 dX12_worthOf_70 ?_
    refine ro_cvI (pc := 71) (kc := 4) (avs := [.int a1, .int (h4.1 58 x3.toNatClampNeg), .int (h4.1 59 x3.toNatClampNeg)]) (st := []) ok_Mod_workOut wd_1674 cl_51 cv_51 rfl ⟨by decide, by decide⟩ ⟨Nat.zero_le _, Nat.zero_le _⟩ (c_Mod_workOut X N h4 a1 (h4.1 58 x3.toNatClampNeg) (h4.1 59 x3.toNatClampNeg)) rfl rfl (Nat.le_of_ble_eq_true rfl) dX12_worthOf_71 (fun x5 h6 => ?_)
    exact ro_iret (pc := 74) rfl rfl dX12_worthOf_74
  · skip
    refine ro_lv [1, 2, 0] rfl ?_
    refine ro_lp (pc := 6) (lvs := fun (s : Int32 × mu_H) => [(0, .ref (xa X 51)), (1, .int a1), (2, .int s.1)]) (hs := fun (s : Int32 × mu_H) => s.2) (fun rec8 hrec8 s => ?_) N (x1, h)
    obtain ⟨x9, h10⟩ := s; unfold f_Mod_worthOf_L6; try dsimp only
    refine ro_iload_n (pc := 6) 2 dX12_worthOf_6 rfl rfl ?_
    refine ro_sipush (v := 140) (pc := 7) dX12_worthOf_7 (by decide) ?_
    refine ro_iload_n (pc := 10) 1 dX12_worthOf_10 rfl rfl ?_
    refine ro_imul (pc := 11) dX12_worthOf_11 ?_
    refine ro_aload_n (pc := 12) 0 dX12_worthOf_12 rfl rfl ?_
    refine gf_X12_9 (pc := 13) wd_1331 dX12_worthOf_13 ?_
    refine ro_iload_n (pc := 16) 1 dX12_worthOf_16 rfl rfl ?_
    refine ro_iald (pc := 17) (n := 5) cl_56 cv_56 dX12_worthOf_17 ?_
    refine ro_iadd (pc := 18) dX12_worthOf_18 ?_
    refine ro_icmp_ge (tgt := 81) (pc := 19) dX12_worthOf_19 (by decide) (fun _ => ?_) (fun _ => ?_)
    · skip
      refine ro_iconst (v := 0) (pc := 81) dX12_worthOf_81 (by decide) ?_
      exact ro_iret (pc := 82) rfl rfl dX12_worthOf_82
    · skip
      refine ro_aload_n (pc := 22) 0 dX12_worthOf_22 rfl rfl ?_
      refine gf_X12_10 (pc := 23) wd_1332 dX12_worthOf_23 ?_
      refine ro_iload_n (pc := 26) 2 dX12_worthOf_26 rfl rfl ?_
      refine ro_iald (pc := 27) (n := 700) cl_57 cv_57 dX12_worthOf_27 ?_
      refine ro_aload_n (pc := 28) 0 dX12_worthOf_28 rfl rfl ?_
      refine gf_X12_11 (pc := 29) wd_1333 dX12_worthOf_29 ?_
      refine ro_iload_n (pc := 32) 2 dX12_worthOf_32 rfl rfl ?_
      refine ro_iald (pc := 33) (n := 700) cl_58 cv_58 dX12_worthOf_33 ?_
      refine ro_icmp_eq (tgt := 57) (pc := 34) dX12_worthOf_34 (by decide) (fun _ => ?_) (fun _ => ?_)
      · skip
        exact hk2 (x9, h10)
      · skip
        refine ro_aload_n (pc := 37) 0 dX12_worthOf_37 rfl rfl ?_
        refine ro_iload_n (pc := 38) 1 dX12_worthOf_38 rfl rfl ?_
        refine ro_aload_n (pc := 39) 0 dX12_worthOf_39 rfl rfl ?_
        refine gf_X12_10 (pc := 40) wd_1332 dX12_worthOf_40 ?_
        refine ro_iload_n (pc := 43) 2 dX12_worthOf_43 rfl rfl ?_
        refine ro_iald (pc := 44) (n := 700) cl_57 cv_57 dX12_worthOf_44 ?_
        refine ro_aload_n (pc := 45) 0 dX12_worthOf_45 rfl rfl ?_
        refine gf_X12_11 (pc := 46) wd_1333 dX12_worthOf_46 ?_
        refine ro_iload_n (pc := 49) 2 dX12_worthOf_49 rfl rfl ?_
        refine ro_iald (pc := 50) (n := 700) cl_58 cv_58 dX12_worthOf_50 ?_
        refine ro_cvI (pc := 51) (kc := 4) (avs := [.int a1, .int (h10.1 57 x9.toNatClampNeg), .int (h10.1 58 x9.toNatClampNeg)]) (st := []) ok_Mod_workOut wd_1674 cl_51 cv_51 rfl ⟨by decide, by decide⟩ ⟨Nat.zero_le _, Nat.zero_le _⟩ (c_Mod_workOut X N h10 a1 (h10.1 57 x9.toNatClampNeg) (h10.1 58 x9.toNatClampNeg)) rfl rfl (Nat.le_of_ble_eq_true rfl) dX12_worthOf_51 (fun x11 h12 => ?_)
        refine ro_if_eq (tgt := 75) (pc := 54) dX12_worthOf_54 (by decide) (fun _ => ?_) (fun _ => ?_)
        · skip
          refine ro_iinc (pc := 75) (v := x9 + 1) (lv' := [(2, .int (x9 + 1)), (0, .ref (xa X 51)), (1, .int a1)]) 2 dX12_worthOf_75 rfl rfl (by decide) rfl ?_
          refine ro_goto (tgt := 6) (pc := 78) dX12_worthOf_78 (by decide) ?_
          refine ro_lv [1, 2, 0] rfl ?_
          exact hrec8 (x9 + 1, h12)
        · skip
          exact hk2 (x9, h12)
theorem c_Mod_worthOf (X : mu_X) (N : Nat) (h : mu_H) (a1 : Int32) : ∀ r, f_Mod_worthOf N h a1 = some r → mI X m_Mod_worthOf 5 [.ref (xa X 51), .int a1] h r.1 r.2 := fun r hr => mI_of (by decide) rfl (Nat.le_of_ble_eq_true rfl) rfl (cb_Mod_worthOf X N h a1 r hr)
set_option maxRecDepth 20000 in
theorem cb_Mod_isWinter (X : mu_X) (N : Nat) (h : mu_H) (a1 : Int32) : aG X m_Mod_isWinter (rmk 1) (fun _ => ax X) (fun _ _ _ => True) 0 0 (fun r : Int32 => qI X r h) (f_Mod_isWinter N h a1) 0 [(0, .ref (xa X 51)), (1, .int a1)] [] h := by
  unfold f_Mod_isWinter
  refine ro_iload_n (pc := 0) 1 dX12_isWinter_0 rfl rfl ?_
  refine ro_iconst (v := 4) (pc := 1) dX12_isWinter_1 (by decide) ?_
  refine ro_irem (pc := 2) dX12_isWinter_2 (by decide) ?_
  refine ro_iconst (v := 3) (pc := 3) dX12_isWinter_3 (by decide) ?_
  refine ro_icmp_ne (tgt := 11) (pc := 4) dX12_isWinter_4 (by decide) (fun _ => ?_) (fun _ => ?_)
  · skip
    refine ro_iconst (v := 0) (pc := 11) dX12_isWinter_11 (by decide) ?_
    exact ro_zret (pc := 12) rfl rfl rfl dX12_isWinter_12
  · skip
    refine ro_iconst (v := 1) (pc := 7) dX12_isWinter_7 (by decide) ?_
    refine ro_goto (tgt := 12) (pc := 8) dX12_isWinter_8 (by decide) ?_
    exact ro_zret (pc := 12) rfl rfl rfl dX12_isWinter_12
theorem c_Mod_isWinter (X : mu_X) (N : Nat) (h : mu_H) (a1 : Int32) : ∀ r, f_Mod_isWinter N h a1 = some r → mI X m_Mod_isWinter 1 [.ref (xa X 51), .int a1] h r h := fun r hr => mI_of (by decide) rfl (Nat.le_of_ble_eq_true rfl) rfl (cb_Mod_isWinter X N h a1 r hr)
set_option maxRecDepth 20000 in
theorem cb_Mod_doesBy (X : mu_X) (N : Nat) (h : mu_H) (a1 : Int32) (a2 : Int32) (a3 : Int32) (a4 : Int32) : aG X m_Mod_doesBy (rmk 6) (fun _ => ax X) (fun _ _ _ => True) 0 0 (fun r : Int32 × mu_H => qI X r.1 r.2) (f_Mod_doesBy N h a1 a2 a3 a4) 0 [(0, .ref (xa X 51)), (1, .int a1), (2, .int a2), (3, .int a3), (4, .int a4)] [] h := by
  unfold f_Mod_doesBy
  refine ro_iload_n (pc := 0) 3 dX12_doesBy_0 rfl rfl ?_
  refine ro_iconst (v := 2) (pc := 1) dX12_doesBy_1 (by decide) ?_
  refine ro_jn (pcj := 11) (lvs := fun (s : Int32) => [(0, .ref (xa X 51)), (1, .int a1), (2, .int a2), (3, .int a3), (4, .int a4)]) (hs := fun (s : Int32) => h) (sts := fun (s : Int32) => [.int s]) (fun x2 => ?_) (fun j1 hj1 => ?_)
  · try dsimp only
    refine ro_istore (pc := 11) (lv' := [(5, .int x2), (0, .ref (xa X 51)), (1, .int a1), (2, .int a2), (3, .int a3), (4, .int a4)]) dX12_doesBy_11 (by decide) rfl ?_
    refine ro_iload_n (pc := 13) 4 dX12_doesBy_13 rfl rfl ?_
    refine ro_jn (pcj := 148) (lvs := fun (s : Int32 × mu_H) => [(0, .ref (xa X 51)), (5, .int s.1)]) (hs := fun (s : Int32 × mu_H) => s.2) (sts := fun (s : Int32 × mu_H) => []) (fun s => ?_) (fun j3 hj3 => ?_)
    · obtain ⟨x4, h5⟩ := s; try dsimp only
      refine ro_aload_n (pc := 148) 0 dX12_doesBy_148 rfl rfl ?_
      refine ro_aload_n (pc := 149) 0 dX12_doesBy_149 rfl rfl ?_
      refine gf_X12_27 (pc := 150) wd_1349 dX12_doesBy_150 ?_
      refine ro_bipush (v := 32) (pc := 153) dX12_doesBy_153 (by decide) ?_
      refine ro_iald (pc := 155) (n := 214) cl_68 cv_68 dX12_doesBy_155 ?_
      refine ro_cvP (pc := 156) (kc := 1) (avs := [.int (h5.1 68 (32 : Int32).toNatClampNeg)]) (st := []) ok_Mod_isWinter wd_1693 cl_51 cv_51 rfl ⟨by decide, by decide⟩ ⟨Nat.zero_le _, Nat.zero_le _⟩ (c_Mod_isWinter X N h5 (h5.1 68 (32 : Int32).toNatClampNeg)) rfl rfl (Nat.le_of_ble_eq_true rfl) dX12_doesBy_156 (fun x6 => ?_)
      refine ro_if_eq (tgt := 169) (pc := 159) dX12_doesBy_159 (by decide) (fun _ => ?_) (fun _ => ?_)
      · skip
        refine ro_iload (pc := 169) 1 dX12_doesBy_169 rfl ?_
        exact ro_iret (pc := 171) rfl rfl dX12_doesBy_171
      · skip
        refine ro_iload (pc := 162) 1 dX12_doesBy_162 rfl ?_
        refine ro_iconst (v := 2) (pc := 164) dX12_doesBy_164 (by decide) ?_
        refine ro_idiv (pc := 165) dX12_doesBy_165 (by decide) ?_
        refine ro_goto (tgt := 171) (pc := 166) dX12_doesBy_166 (by decide) ?_
        exact ro_iret (pc := 171) rfl rfl dX12_doesBy_171
    · skip
      refine ro_jn (pcj := 22) (lvs := fun (s : Unit) => [(0, .ref (xa X 51)), (1, .int a1), (2, .int a2), (3, .int a3), (4, .int a4)]) (hs := fun (s : Unit) => h) (sts := fun (s : Unit) => []) (fun s => ?_) (fun j7 hj7 => ?_)
      · try dsimp only
        refine ro_iconst (v := 2) (pc := 22) dX12_doesBy_22 (by decide) ?_
        refine ro_aload_n (pc := 23) 0 dX12_doesBy_23 rfl rfl ?_
        refine ro_iload_n (pc := 24) 1 dX12_doesBy_24 rfl rfl ?_
        refine ro_iconst (v := 1) (pc := 25) dX12_doesBy_25 (by decide) ?_
        refine ro_cvP (pc := 26) (kc := 1) (avs := [.int a1, .int 1]) (st := [.int 2]) ok_Mod_ofHouse wd_1638 cl_51 cv_51 rfl ⟨by decide, by decide⟩ ⟨Nat.zero_le _, Nat.zero_le _⟩ (c_Mod_ofHouse X N h a1 1) rfl rfl (Nat.le_of_ble_eq_true rfl) dX12_doesBy_26 (fun x8 => ?_)
        refine ro_imul (pc := 29) dX12_doesBy_29 ?_
        refine ro_aload_n (pc := 30) 0 dX12_doesBy_30 rfl rfl ?_
        refine ro_iload_n (pc := 31) 1 dX12_doesBy_31 rfl rfl ?_
        refine ro_iload_n (pc := 32) 2 dX12_doesBy_32 rfl rfl ?_
        refine ro_cvP (pc := 33) (kc := 2) (avs := [.int a1, .int a2]) (st := [.int (2 * x8)]) ok_Mod_haulOf wd_1654 cl_51 cv_51 rfl ⟨by decide, by decide⟩ ⟨Nat.zero_le _, Nat.zero_le _⟩ (c_Mod_haulOf X N h a1 a2) rfl rfl (Nat.le_of_ble_eq_true rfl) dX12_doesBy_33 (fun x9 => ?_)
        refine ro_isub (pc := 36) dX12_doesBy_36 ?_
        refine ro_bn (fun x10 => ?_)
        refine ro_istore (pc := 37) (lv' := [(5, .int x10), (0, .ref (xa X 51)), (1, .int a1), (2, .int a2), (3, .int a3), (4, .int a4)]) dX12_doesBy_37 (by decide) rfl ?_
        refine ro_aload_n (pc := 39) 1 dX12_doesBy_39 rfl rfl ?_
        refine gf_X12_29 (pc := 40) wd_1351 dX12_doesBy_40 ?_
        refine ro_iconst (v := (-1)) (pc := 43) dX12_doesBy_43 (by decide) ?_
        refine ro_jn (pcj := 131) (lvs := fun (s : Int32 × mu_H) => [(0, .ref (xa X 51)), (3, .int a3), (5, .int s.1)]) (hs := fun (s : Int32 × mu_H) => s.2) (sts := fun (s : Int32 × mu_H) => []) (fun s => ?_) (fun j11 hj11 => ?_)
        · obtain ⟨x12, h13⟩ := s; try dsimp only
          refine ro_iconst (v := 0) (pc := 131) dX12_doesBy_131 (by decide) ?_
          refine ro_bipush (v := 99) (pc := 132) dX12_doesBy_132 (by decide) ?_
          refine ro_iload (pc := 134) 2 dX12_doesBy_134 rfl ?_
          refine ro_mmin (pc := 136) (st := [.int 0]) wd_1617 (by decide) (Nat.le_of_ble_eq_true rfl) ⟨Nat.zero_le _, Nat.zero_le _⟩ dX12_doesBy_136 ?_
          refine ro_mmax (pc := 139) (st := []) wd_1692 (by decide) (Nat.le_of_ble_eq_true rfl) ⟨Nat.zero_le _, Nat.zero_le _⟩ dX12_doesBy_139 ?_
          refine ro_iload_n (pc := 142) 1 dX12_doesBy_142 rfl rfl ?_
          refine ro_iconst (v := 1) (pc := 143) dX12_doesBy_143 (by decide) ?_
          refine ro_iadd (pc := 144) dX12_doesBy_144 ?_
          refine ro_idivg (pc := 145) dX12_doesBy_145 ?_
          refine ro_bn (fun x14 => ?_)
          refine ro_istore (pc := 146) (lv' := [(5, .int x14), (0, .ref (xa X 51)), (3, .int a3)]) dX12_doesBy_146 (by decide) rfl ?_
          refine ro_lv [1, 0] rfl ?_
          exact hj3 (x14, h13)
        · skip
          refine ro_icmp_eq (tgt := 131) (pc := 44) dX12_doesBy_44 (by decide) (fun _ => ?_) (fun _ => ?_)
          · skip
            refine ro_lv [1, 4, 0] rfl ?_
            exact hj11 (x10, h)
          · skip
            refine ro_aload_n (pc := 47) 1 dX12_doesBy_47 rfl rfl ?_
            refine gf_X12_15 (pc := 48) wd_1337 dX12_doesBy_48 ?_
            refine ro_iconst (v := 0) (pc := 51) dX12_doesBy_51 (by decide) ?_
            refine ro_aload_n (pc := 52) 1 dX12_doesBy_52 rfl rfl ?_
            refine ro_iload_n (pc := 53) 2 dX12_doesBy_53 rfl rfl ?_
            refine ro_iconst (v := 1) (pc := 54) dX12_doesBy_54 (by decide) ?_
            refine ro_cvP (pc := 55) (kc := 1) (avs := [.int a1, .int 1]) (st := [.int 0, .ref (xa X 60)]) ok_Mod_ofHouse wd_1638 cl_51 cv_51 rfl ⟨by decide, by decide⟩ ⟨Nat.zero_le _, Nat.zero_le _⟩ (c_Mod_ofHouse X N h a1 1) rfl rfl (Nat.le_of_ble_eq_true rfl) dX12_doesBy_55 (fun x15 => ?_)
            refine ro_iast (pc := 58) (n := 6) cl_60 cv_60 dX12_doesBy_58 ?_
            refine ro_bnh (fun h16 => ?_)
            refine ro_aload_n (pc := 59) 1 dX12_doesBy_59 rfl rfl ?_
            refine gf_X12_15 (pc := 60) wd_1337 dX12_doesBy_60 ?_
            refine ro_iconst (v := 1) (pc := 63) dX12_doesBy_63 (by decide) ?_
            refine ro_aload_n (pc := 64) 1 dX12_doesBy_64 rfl rfl ?_
            refine ro_iload_n (pc := 65) 2 dX12_doesBy_65 rfl rfl ?_
            refine ro_iconst (v := 2) (pc := 66) dX12_doesBy_66 (by decide) ?_
            refine ro_cvP (pc := 67) (kc := 1) (avs := [.int a1, .int 2]) (st := [.int 1, .ref (xa X 60)]) ok_Mod_ofHouse wd_1638 cl_51 cv_51 rfl ⟨by decide, by decide⟩ ⟨Nat.zero_le _, Nat.zero_le _⟩ (c_Mod_ofHouse X N h16 a1 2) rfl rfl (Nat.le_of_ble_eq_true rfl) dX12_doesBy_67 (fun x17 => ?_)
            refine ro_iast (pc := 70) (n := 6) cl_60 cv_60 dX12_doesBy_70 ?_
            refine ro_bnh (fun h18 => ?_)
            refine ro_aload_n (pc := 71) 1 dX12_doesBy_71 rfl rfl ?_
            refine gf_X12_15 (pc := 72) wd_1337 dX12_doesBy_72 ?_
            refine ro_iconst (v := 2) (pc := 75) dX12_doesBy_75 (by decide) ?_
            refine ro_aload_n (pc := 76) 1 dX12_doesBy_76 rfl rfl ?_
            refine ro_iload_n (pc := 77) 2 dX12_doesBy_77 rfl rfl ?_
            refine ro_iload_n (pc := 78) 3 dX12_doesBy_78 rfl rfl ?_
            refine ro_cvP (pc := 79) (kc := 2) (avs := [.int a1, .int a2]) (st := [.int 2, .ref (xa X 60)]) ok_Mod_haulOf wd_1654 cl_51 cv_51 rfl ⟨by decide, by decide⟩ ⟨Nat.zero_le _, Nat.zero_le _⟩ (c_Mod_haulOf X N h18 a1 a2) rfl rfl (Nat.le_of_ble_eq_true rfl) dX12_doesBy_79 (fun x19 => ?_)
            refine ro_iast (pc := 82) (n := 6) cl_60 cv_60 dX12_doesBy_82 ?_
            refine ro_bnh (fun h20 => ?_)
            refine ro_aload_n (pc := 83) 1 dX12_doesBy_83 rfl rfl ?_
            refine gf_X12_15 (pc := 84) wd_1337 dX12_doesBy_84 ?_
            refine ro_iconst (v := 3) (pc := 87) dX12_doesBy_87 (by decide) ?_
            refine ro_iload (pc := 88) 5 dX12_doesBy_88 rfl ?_
            refine ro_iast (pc := 90) (n := 6) cl_60 cv_60 dX12_doesBy_90 ?_
            refine ro_bnh (fun h21 => ?_)
            refine ro_aload_n (pc := 91) 1 dX12_doesBy_91 rfl rfl ?_
            refine gf_X12_15 (pc := 92) wd_1337 dX12_doesBy_92 ?_
            refine ro_iconst (v := 4) (pc := 95) dX12_doesBy_95 (by decide) ?_
            refine ro_aload_n (pc := 96) 1 dX12_doesBy_96 rfl rfl ?_
            refine gf_X12_27 (pc := 97) wd_1349 dX12_doesBy_97 ?_
            refine ro_bipush (v := 9) (pc := 100) dX12_doesBy_100 (by decide) ?_
            refine ro_iload_n (pc := 102) 3 dX12_doesBy_102 rfl rfl ?_
            refine ro_iadd (pc := 103) dX12_doesBy_103 ?_
            refine ro_iald (pc := 104) (n := 214) cl_68 cv_68 dX12_doesBy_104 ?_
            refine ro_iast (pc := 105) (n := 6) cl_60 cv_60 dX12_doesBy_105 ?_
            refine ro_bnh (fun h22 => ?_)
            refine ro_aload_n (pc := 106) 1 dX12_doesBy_106 rfl rfl ?_
            refine gf_X12_15 (pc := 107) wd_1337 dX12_doesBy_107 ?_
            refine ro_iconst (v := 5) (pc := 110) dX12_doesBy_110 (by decide) ?_
            refine ro_aload_n (pc := 111) 1 dX12_doesBy_111 rfl rfl ?_
            refine gf_X12_27 (pc := 112) wd_1349 dX12_doesBy_112 ?_
            refine ro_bipush (v := 32) (pc := 115) dX12_doesBy_115 (by decide) ?_
            refine ro_iald (pc := 117) (n := 214) cl_68 cv_68 dX12_doesBy_117 ?_
            refine ro_iconst (v := 4) (pc := 118) dX12_doesBy_118 (by decide) ?_
            refine ro_irem (pc := 119) dX12_doesBy_119 (by decide) ?_
            refine ro_iast (pc := 120) (n := 6) cl_60 cv_60 dX12_doesBy_120 ?_
            refine ro_bnh (fun h23 => ?_)
            refine ro_aload_n (pc := 121) 1 dX12_doesBy_121 rfl rfl ?_
            refine ro_aload_n (pc := 122) 1 dX12_doesBy_122 rfl rfl ?_
            refine gf_X12_29 (pc := 123) wd_1351 dX12_doesBy_123 ?_
            refine ro_cvI (pc := 126) (kc := 5) (avs := [.int (h23.1 51 29)]) (st := []) ok_Mod_worthOf wd_1670 cl_51 cv_51 rfl ⟨by decide, by decide⟩ ⟨Nat.zero_le _, Nat.zero_le _⟩ (c_Mod_worthOf X N h23 (h23.1 51 29)) rfl rfl (Nat.le_of_ble_eq_true rfl) dX12_doesBy_126 (fun x24 h25 => ?_)
            refine ro_istore (pc := 129) (lv' := [(5, .int x24), (0, .ref (xa X 51)), (1, .int a1), (2, .int a2), (3, .int a3), (4, .int a4)]) dX12_doesBy_129 (by decide) rfl ?_
            refine ro_lv [1, 4, 0] rfl ?_
            exact hj11 (x24, h25)
      · skip
        refine ro_if_eq (tgt := 22) (pc := 14) dX12_doesBy_14 (by decide) (fun _ => ?_) (fun _ => ?_)
        · skip
          refine ro_lv [1, 2, 3, 4, 5] rfl ?_
          exact hj7 ()
        · skip
          refine ro_iload_n (pc := 17) 4 dX12_doesBy_17 rfl rfl ?_
          refine ro_iconst (v := 1) (pc := 18) dX12_doesBy_18 (by decide) ?_
          refine ro_icmp_ne (tgt := 148) (pc := 19) dX12_doesBy_19 (by decide) (fun _ => ?_) (fun _ => ?_)
          · skip
            refine ro_lv [1, 0] rfl ?_
            exact hj3 (x2, h)
          · skip
            refine ro_lv [1, 2, 3, 4, 5] rfl ?_
            exact hj7 ()
  · skip
    refine ro_icmp_ne (tgt := 10) (pc := 2) dX12_doesBy_2 (by decide) (fun _ => ?_) (fun _ => ?_)
    · skip
      refine ro_iconst (v := 0) (pc := 10) dX12_doesBy_10 (by decide) ?_
      exact hj1 0
    · skip
      refine ro_bipush (v := 8) (pc := 5) dX12_doesBy_5 (by decide) ?_
      refine ro_goto (tgt := 11) (pc := 7) dX12_doesBy_7 (by decide) ?_
      exact hj1 8
theorem c_Mod_doesBy (X : mu_X) (N : Nat) (h : mu_H) (a1 : Int32) (a2 : Int32) (a3 : Int32) (a4 : Int32) : ∀ r, f_Mod_doesBy N h a1 a2 a3 a4 = some r → mI X m_Mod_doesBy 6 [.ref (xa X 51), .int a1, .int a2, .int a3, .int a4] h r.1 r.2 := fun r hr => mI_of (by decide) rfl (Nat.le_of_ble_eq_true rfl) rfl (cb_Mod_doesBy X N h a1 a2 a3 a4 r hr)
set_option maxRecDepth 20000 in
theorem cb_Mod_doesNow (X : mu_X) (N : Nat) (h : mu_H) (a1 : Int32) (a2 : Int32) (a3 : Int32) : aG X m_Mod_doesNow (rmk 7) (fun _ => ax X) (fun _ _ _ => True) 0 0 (fun r : Int32 × mu_H => qI X r.1 r.2) (f_Mod_doesNow N h a1 a2 a3) 0 [(0, .ref (xa X 51)), (1, .int a1), (2, .int a2), (3, .int a3)] [] h := by
  unfold f_Mod_doesNow
  refine ro_aload_n (pc := 0) 0 dX12_doesNow_0 rfl rfl ?_
  refine ro_iload_n (pc := 1) 1 dX12_doesNow_1 rfl rfl ?_
  refine ro_iload_n (pc := 2) 2 dX12_doesNow_2 rfl rfl ?_
  refine ro_iload_n (pc := 3) 3 dX12_doesNow_3 rfl rfl ?_
  refine ro_aload_n (pc := 4) 0 dX12_doesNow_4 rfl rfl ?_
  refine gf_X12_27 (pc := 5) wd_1349 dX12_doesNow_5 ?_
  refine ro_iconst (v := 0) (pc := 8) dX12_doesNow_8 (by decide) ?_
  refine ro_iload_n (pc := 9) 2 dX12_doesNow_9 rfl rfl ?_
  refine ro_iadd (pc := 10) dX12_doesNow_10 ?_
  refine ro_iald (pc := 11) (n := 214) cl_68 cv_68 dX12_doesNow_11 ?_
  refine ro_cvI (pc := 12) (kc := 6) (avs := [.int a1, .int a2, .int a3, .int (h.1 68 (0 + a2).toNatClampNeg)]) (st := []) ok_Mod_doesBy wd_1666 cl_51 cv_51 rfl ⟨by decide, by decide⟩ ⟨Nat.zero_le _, Nat.zero_le _⟩ (c_Mod_doesBy X N h a1 a2 a3 (h.1 68 (0 + a2).toNatClampNeg)) rfl rfl (Nat.le_of_ble_eq_true rfl) dX12_doesNow_12 (fun x1 h2 => ?_)
  exact ro_iret (pc := 15) rfl rfl dX12_doesNow_15
theorem c_Mod_doesNow (X : mu_X) (N : Nat) (h : mu_H) (a1 : Int32) (a2 : Int32) (a3 : Int32) : ∀ r, f_Mod_doesNow N h a1 a2 a3 = some r → mI X m_Mod_doesNow 7 [.ref (xa X 51), .int a1, .int a2, .int a3] h r.1 r.2 := fun r hr => mI_of (by decide) rfl (Nat.le_of_ble_eq_true rfl) rfl (cb_Mod_doesNow X N h a1 a2 a3 r hr)
set_option maxRecDepth 20000 in
theorem cb_Mod_buys (X : mu_X) (N : Nat) (h : mu_H) : aG X m_Mod_buys (rmk 8) (fun _ => ax X) (fun _ _ _ => True) 0 0 (fun r : Int32 × mu_H => qI X r.1 r.2) (f_Mod_buys N h) 0 [(0, .ref (xa X 51))] [] h := by
  unfold f_Mod_buys
  refine ro_aload_n (pc := 0) 0 dX12_buys_0 rfl rfl ?_
  refine gf_X12_25 (pc := 1) wd_1347 dX12_buys_1 ?_
  refine ro_if_ne (tgt := 9) (pc := 4) dX12_buys_4 (by decide) (fun _ => ?_) (fun _ => ?_)
  · skip
    refine ro_iconst (v := 0) (pc := 9) dX12_buys_9 (by decide) ?_
    refine ro_istore_n (pc := 10) (lv' := [(1, .int 0), (0, .ref (xa X 51))]) dX12_buys_10 rfl (by decide) rfl ?_
    refine ro_iconst (v := 0) (pc := 11) dX12_buys_11 (by decide) ?_
    refine ro_istore_n (pc := 12) (lv' := [(2, .int 0), (1, .int 0), (0, .ref (xa X 51))]) dX12_buys_12 rfl (by decide) rfl ?_
    refine ro_lv [2, 1, 0] rfl ?_
    refine ro_lp (pc := 13) (lvs := fun (s : Int32 × Int32 × mu_H) => [(0, .ref (xa X 51)), (1, .int s.1), (2, .int s.2.1)]) (hs := fun (s : Int32 × Int32 × mu_H) => s.2.2) (fun rec1 hrec1 s => ?_) N (0, 0, h)
    obtain ⟨x2, x3, h4⟩ := s; unfold f_Mod_buys_L13; try dsimp only
    refine ro_iload_n (pc := 13) 2 dX12_buys_13 rfl rfl ?_
    refine ro_aload_n (pc := 14) 0 dX12_buys_14 rfl rfl ?_
    refine gf_X12_26 (pc := 15) wd_1348 dX12_buys_15 ?_
    refine ro_icmp_ge (tgt := 100) (pc := 18) dX12_buys_18 (by decide) (fun _ => ?_) (fun _ => ?_)
    · skip
      refine ro_iload_n (pc := 100) 1 dX12_buys_100 rfl rfl ?_
      exact ro_iret (pc := 101) rfl rfl dX12_buys_101
    · skip
      refine ro_iconst (v := 1) (pc := 21) dX12_buys_21 (by decide) ?_
      refine ro_istore_n (pc := 22) (lv' := [(3, .int 1), (0, .ref (xa X 51)), (1, .int x2), (2, .int x3)]) dX12_buys_22 rfl (by decide) rfl ?_
      refine ro_iconst (v := 0) (pc := 23) dX12_buys_23 (by decide) ?_
      refine ro_istore (pc := 24) (lv' := [(4, .int 0), (3, .int 1), (0, .ref (xa X 51)), (1, .int x2), (2, .int x3)]) dX12_buys_24 (by decide) rfl ?_
      refine ro_jn (pcj := 80) (lvs := fun (s : Int32 × mu_H) => [(0, .ref (xa X 51)), (1, .int x2), (2, .int x3), (3, .int s.1)]) (hs := fun (s : Int32 × mu_H) => s.2) (sts := fun (s : Int32 × mu_H) => []) (fun s => ?_) (fun k5 hk5 => ?_)
      · obtain ⟨x6, h7⟩ := s; try dsimp only
        refine ro_iload_n (pc := 80) 1 dX12_buys_80 rfl rfl ?_
        refine ro_iload_n (pc := 81) 3 dX12_buys_81 rfl rfl ?_
        refine ro_jn (pcj := 92) (lvs := fun (s : Int32) => [(0, .ref (xa X 51)), (2, .int x3)]) (hs := fun (s : Int32) => h7) (sts := fun (s : Int32) => [.int s, .int x2]) (fun x9 => ?_) (fun j8 hj8 => ?_)
        · try dsimp only
          refine ro_ior (pc := 92) dX12_buys_92 ?_
          refine ro_bn (fun x10 => ?_)
          refine ro_istore_n (pc := 93) (lv' := [(1, .int x10), (0, .ref (xa X 51)), (2, .int x3)]) dX12_buys_93 rfl (by decide) rfl ?_
          refine ro_iinc (pc := 94) (v := x3 + 1) (lv' := [(2, .int (x3 + 1)), (1, .int x10), (0, .ref (xa X 51))]) 2 dX12_buys_94 rfl rfl (by decide) rfl ?_
          refine ro_goto (tgt := 13) (pc := 97) dX12_buys_97 (by decide) ?_
          refine ro_lv [2, 1, 0] rfl ?_
          exact hrec1 (x10, x3 + 1, h7)
        · skip
          refine ro_if_eq (tgt := 91) (pc := 82) dX12_buys_82 (by decide) (fun _ => ?_) (fun _ => ?_)
          · skip
            refine ro_iconst (v := 0) (pc := 91) dX12_buys_91 (by decide) ?_
            refine ro_lv [0, 2] rfl ?_
            exact hj8 0
          · skip
            refine ro_iconst (v := 1) (pc := 85) dX12_buys_85 (by decide) ?_
            refine ro_iload_n (pc := 86) 2 dX12_buys_86 rfl rfl ?_
            refine ro_ishl (pc := 87) dX12_buys_87 ?_
            refine ro_goto (tgt := 92) (pc := 88) dX12_buys_88 (by decide) ?_
            refine ro_lv [0, 2] rfl ?_
            exact hj8 ((1 : Int32) <<< (x3 &&& 31))
      · skip
        refine ro_lv [2, 3, 4, 1, 0] rfl ?_
        refine ro_lp (pc := 26) (lvs := fun (s : Int32 × Int32 × mu_H) => [(0, .ref (xa X 51)), (1, .int x2), (2, .int x3), (3, .int s.1), (4, .int s.2.1)]) (hs := fun (s : Int32 × Int32 × mu_H) => s.2.2) (fun rec11 hrec11 s => ?_) N (1, 0, h4)
        obtain ⟨x12, x13, h14⟩ := s; unfold f_Mod_buys_L26; try dsimp only
        refine ro_iload (pc := 26) 4 dX12_buys_26 rfl ?_
        refine ro_aload_n (pc := 28) 0 dX12_buys_28 rfl rfl ?_
        refine gf_X12_25 (pc := 29) wd_1347 dX12_buys_29 ?_
        refine ro_icmp_ge (tgt := 80) (pc := 32) dX12_buys_32 (by decide) (fun _ => ?_) (fun _ => ?_)
        · skip
          refine ro_lv [0, 1, 2, 3] rfl ?_
          exact hk5 (x12, h14)
        · skip
          refine ro_iload_n (pc := 35) 3 dX12_buys_35 rfl rfl ?_
          refine ro_jn (pcj := 73) (lvs := fun (s : Int32 × mu_H) => [(0, .ref (xa X 51)), (1, .int x2), (2, .int x3), (4, .int x13)]) (hs := fun (s : Int32 × mu_H) => s.2) (sts := fun (s : Int32 × mu_H) => [.int s.1]) (fun s => ?_) (fun j15 hj15 => ?_)
          · obtain ⟨x16, h17⟩ := s; try dsimp only
            refine ro_istore_n (pc := 73) (lv' := [(3, .int x16), (0, .ref (xa X 51)), (1, .int x2), (2, .int x3), (4, .int x13)]) dX12_buys_73 rfl (by decide) rfl ?_
            refine ro_iinc (pc := 74) (v := x13 + 1) (lv' := [(4, .int (x13 + 1)), (3, .int x16), (0, .ref (xa X 51)), (1, .int x2), (2, .int x3)]) 4 dX12_buys_74 rfl rfl (by decide) rfl ?_
            refine ro_goto (tgt := 26) (pc := 77) dX12_buys_77 (by decide) ?_
            refine ro_lv [2, 3, 4, 1, 0] rfl ?_
            exact hrec11 (x16, x13 + 1, h17)
          · skip
            refine ro_jn (pcj := 72) (lvs := fun (s : mu_H) => [(0, .ref (xa X 51)), (1, .int x2), (2, .int x3), (4, .int x13)]) (hs := fun (s : mu_H) => s) (sts := fun (s : mu_H) => []) (fun h19 => ?_) (fun j18 hj18 => ?_)
            · try dsimp only
              refine ro_iconst (v := 0) (pc := 72) dX12_buys_72 (by decide) ?_
              exact hj15 (0, h19)
            · skip
              refine ro_if_eq (tgt := 72) (pc := 36) dX12_buys_36 (by decide) (fun _ => ?_) (fun _ => ?_)
              · skip
                refine ro_lv [0, 1, 2, 4] rfl ?_
                exact hj18 h14
              · skip
                refine ro_aload_n (pc := 39) 0 dX12_buys_39 rfl rfl ?_
                refine ro_iload_n (pc := 40) 2 dX12_buys_40 rfl rfl ?_
                refine ro_iload (pc := 41) 4 dX12_buys_41 rfl ?_
                refine ro_cvP (pc := 43) (kc := 3) (avs := [.int x3, .int x13]) (st := []) ok_Mod_comes wd_1650 cl_51 cv_51 rfl ⟨by decide, by decide⟩ ⟨Nat.zero_le _, Nat.zero_le _⟩ (c_Mod_comes X N h14 x3 x13) rfl rfl (Nat.le_of_ble_eq_true rfl) dX12_buys_43 (fun x20 => ?_)
                refine ro_jn (pcj := 68) (lvs := fun (s : mu_H) => [(0, .ref (xa X 51)), (1, .int x2), (2, .int x3), (4, .int x13)]) (hs := fun (s : mu_H) => s) (sts := fun (s : mu_H) => []) (fun h22 => ?_) (fun j21 hj21 => ?_)
                · try dsimp only
                  refine ro_iconst (v := 1) (pc := 68) dX12_buys_68 (by decide) ?_
                  refine ro_goto (tgt := 73) (pc := 69) dX12_buys_69 (by decide) ?_
                  exact hj15 (1, h22)
                · skip
                  refine ro_if_eq (tgt := 68) (pc := 46) dX12_buys_46 (by decide) (fun _ => ?_) (fun _ => ?_)
                  · skip
                    refine ro_lv [0, 1, 2, 4] rfl ?_
                    exact hj21 h14
                  · skip
                    refine ro_aload_n (pc := 49) 0 dX12_buys_49 rfl rfl ?_
                    refine ro_iload_n (pc := 50) 2 dX12_buys_50 rfl rfl ?_
                    refine ro_iload (pc := 51) 4 dX12_buys_51 rfl ?_
                    refine ro_iconst (v := 0) (pc := 53) dX12_buys_53 (by decide) ?_
                    refine ro_cvI (pc := 54) (kc := 7) (avs := [.int x3, .int x13, .int 0]) (st := []) ok_Mod_doesNow wd_1662 cl_51 cv_51 rfl ⟨by decide, by decide⟩ ⟨Nat.zero_le _, Nat.zero_le _⟩ (c_Mod_doesNow X N h14 x3 x13 0) rfl rfl (Nat.le_of_ble_eq_true rfl) dX12_buys_54 (fun x23 h24 => ?_)
                    refine ro_aload_n (pc := 57) 0 dX12_buys_57 rfl rfl ?_
                    refine ro_iload_n (pc := 58) 2 dX12_buys_58 rfl rfl ?_
                    refine ro_iload (pc := 59) 4 dX12_buys_59 rfl ?_
                    refine ro_iconst (v := 2) (pc := 61) dX12_buys_61 (by decide) ?_
                    refine ro_cvI (pc := 62) (kc := 7) (avs := [.int x3, .int x13, .int 2]) (st := [.int x23]) ok_Mod_doesNow wd_1662 cl_51 cv_51 rfl ⟨by decide, by decide⟩ ⟨Nat.zero_le _, Nat.zero_le _⟩ (c_Mod_doesNow X N h24 x3 x13 2) rfl rfl (Nat.le_of_ble_eq_true rfl) dX12_buys_62 (fun x26 h27 => ?_)
                    refine ro_icmp_ge (tgt := 72) (pc := 65) dX12_buys_65 (by decide) (fun _ => ?_) (fun _ => ?_)
                    · skip
                      refine ro_lv [0, 1, 2, 4] rfl ?_
                      exact hj18 h27
                    · skip
                      refine ro_lv [0, 1, 2, 4] rfl ?_
                      exact hj21 h27
  · skip
    refine ro_iconst (v := (-1)) (pc := 7) dX12_buys_7 (by decide) ?_
    exact ro_iret (pc := 8) rfl rfl dX12_buys_8
theorem c_Mod_buys (X : mu_X) (N : Nat) (h : mu_H) : ∀ r, f_Mod_buys N h = some r → mI X m_Mod_buys 8 [.ref (xa X 51)] h r.1 r.2 := fun r hr => mI_of (by decide) rfl (Nat.le_of_ble_eq_true rfl) rfl (cb_Mod_buys X N h r hr)
set_option maxRecDepth 20000 in
theorem cb_Mod_byteOf (X : mu_X) (N : Nat) (h : mu_H) (a0 : Int32) (a1 : Int32) (a2 : Int32) (a3 : Int32) (a4 : Int32) (a5 : Int32) : aG X m_Mod_byteOf (rmk 1) (fun _ => ax X) (fun _ _ _ => True) 0 0 (fun r : Int32 => qI X r h) (f_Mod_byteOf N h a0 a1 a2 a3 a4 a5) 0 [(0, .int a0), (1, .int a1), (2, .int a2), (3, .int a3), (4, .int a4), (5, .int a5)] [] h := by
  unfold f_Mod_byteOf
  refine ro_iload (pc := 0) 5 dX12_byteOf_0 rfl ?_
  refine ro_iconst (v := 4) (pc := 2) dX12_byteOf_2 (by decide) ?_
  refine ro_jn (pcj := 45) (lvs := fun (s : Int32) => [(5, .int a5)]) (hs := fun (s : Int32) => h) (sts := fun (s : Int32) => [.int s]) (fun x2 => ?_) (fun j1 hj1 => ?_)
  · try dsimp only
    refine ro_istore (pc := 45) (lv' := [(6, .int x2), (5, .int a5)]) dX12_byteOf_45 (by decide) rfl ?_
    refine ro_iload (pc := 47) 0 dX12_byteOf_47 rfl ?_
    refine ro_bipush (v := 24) (pc := 49) dX12_byteOf_49 (by decide) ?_
    refine ro_bipush (v := 8) (pc := 51) dX12_byteOf_51 (by decide) ?_
    refine ro_iload (pc := 53) 1 dX12_byteOf_53 rfl ?_
    refine ro_iconst (v := 4) (pc := 55) dX12_byteOf_55 (by decide) ?_
    refine ro_irem (pc := 56) dX12_byteOf_56 (by decide) ?_
    refine ro_imul (pc := 57) dX12_byteOf_57 ?_
    refine ro_isub (pc := 58) dX12_byteOf_58 ?_
    refine ro_ishr (pc := 59) dX12_byteOf_59 ?_
    refine ro_sipush (v := 255) (pc := 60) dX12_byteOf_60 (by decide) ?_
    refine ro_iand (pc := 63) dX12_byteOf_63 ?_
    exact ro_iret (pc := 64) rfl rfl dX12_byteOf_64
  · skip
    refine ro_icmp_ge (tgt := 10) (pc := 3) dX12_byteOf_3 (by decide) (fun _ => ?_) (fun _ => ?_)
    · skip
      refine ro_iload (pc := 10) 5 dX12_byteOf_10 rfl ?_
      refine ro_bipush (v := 8) (pc := 12) dX12_byteOf_12 (by decide) ?_
      refine ro_icmp_ge (tgt := 21) (pc := 14) dX12_byteOf_14 (by decide) (fun _ => ?_) (fun _ => ?_)
      · skip
        refine ro_iload (pc := 21) 5 dX12_byteOf_21 rfl ?_
        refine ro_bipush (v := 12) (pc := 23) dX12_byteOf_23 (by decide) ?_
        refine ro_icmp_ge (tgt := 32) (pc := 25) dX12_byteOf_25 (by decide) (fun _ => ?_) (fun _ => ?_)
        · skip
          refine ro_iload (pc := 32) 5 dX12_byteOf_32 rfl ?_
          refine ro_bipush (v := 16) (pc := 34) dX12_byteOf_34 (by decide) ?_
          refine ro_icmp_ge (tgt := 43) (pc := 36) dX12_byteOf_36 (by decide) (fun _ => ?_) (fun _ => ?_)
          · skip
            refine ro_iload (pc := 43) 4 dX12_byteOf_43 rfl ?_
            refine ro_lv [5] rfl ?_
            exact hj1 a4
          · skip
            refine ro_iload_n (pc := 39) 3 dX12_byteOf_39 rfl rfl ?_
            refine ro_goto (tgt := 45) (pc := 40) dX12_byteOf_40 (by decide) ?_
            refine ro_lv [5] rfl ?_
            exact hj1 a3
        · skip
          refine ro_iload_n (pc := 28) 2 dX12_byteOf_28 rfl rfl ?_
          refine ro_goto (tgt := 45) (pc := 29) dX12_byteOf_29 (by decide) ?_
          refine ro_lv [5] rfl ?_
          exact hj1 a2
      · skip
        refine ro_iload_n (pc := 17) 1 dX12_byteOf_17 rfl rfl ?_
        refine ro_goto (tgt := 45) (pc := 18) dX12_byteOf_18 (by decide) ?_
        refine ro_lv [5] rfl ?_
        exact hj1 a1
    · skip
      refine ro_iload_n (pc := 6) 0 dX12_byteOf_6 rfl rfl ?_
      refine ro_goto (tgt := 45) (pc := 7) dX12_byteOf_7 (by decide) ?_
      refine ro_lv [5] rfl ?_
      exact hj1 a0
theorem c_Mod_byteOf (X : mu_X) (N : Nat) (h : mu_H) (a0 : Int32) (a1 : Int32) (a2 : Int32) (a3 : Int32) (a4 : Int32) (a5 : Int32) : ∀ r, f_Mod_byteOf N h a0 a1 a2 a3 a4 a5 = some r → mI X m_Mod_byteOf 1 [.int a0, .int a1, .int a2, .int a3, .int a4, .int a5] h r h := fun r hr => mI_of (by decide) rfl (Nat.le_of_ble_eq_true rfl) rfl (cb_Mod_byteOf X N h a0 a1 a2 a3 a4 a5 r hr)
set_option maxRecDepth 20000 in
theorem cb_Mod_canMend_B (X : mu_X) (N : Nat) (rf : mu_H → Int32 → Int32 → Int32 → Int32 → Int32 → Option (Int32 × mu_H)) (kc : Nat) (hk : 6 ≤ kc) (hrf : ∀ (h : mu_H) (b0 : Int32) (b1 : Int32) (b2 : Int32) (b3 : Int32) (b4 : Int32), ∀ r, rf h b0 b1 b2 b3 b4 = some r → mI X m_Mod_canMend kc [.ref (xa X 51), .int b0, .int b1, .int b2, .int b3, .int b4] h r.1 r.2) (h : mu_H) (a1 : Int32) (a2 : Int32) (a3 : Int32) (a4 : Int32) (a5 : Int32) : aG X m_Mod_canMend (rmk (kc + 1)) (fun _ => ax X) (fun _ _ _ => True) 0 0 (fun r : Int32 × mu_H => qI X r.1 r.2) (f_Mod_canMend_B N rf h a1 a2 a3 a4 a5) 0 [(0, .ref (xa X 51)), (1, .int a1), (2, .int a2), (3, .int a3), (4, .int a4), (5, .int a5)] [] h := by
  unfold f_Mod_canMend_B
  refine ro_iload_n (pc := 0) 2 dX12_canMend_0 rfl rfl ?_
  refine ro_if_ne (tgt := 22) (pc := 1) dX12_canMend_1 (by decide) (fun _ => ?_) (fun _ => ?_)
  · skip
    refine ro_iconst (v := 0) (pc := 22) dX12_canMend_22 (by decide) ?_
    refine ro_istore (pc := 23) (lv' := [(6, .int 0), (0, .ref (xa X 51)), (1, .int a1), (2, .int a2), (3, .int a3), (4, .int a4), (5, .int a5)]) dX12_canMend_23 (by decide) rfl ?_
    refine ro_iconst (v := 0) (pc := 25) dX12_canMend_25 (by decide) ?_
    refine ro_istore (pc := 26) (lv' := [(7, .int 0), (6, .int 0), (0, .ref (xa X 51)), (1, .int a1), (2, .int a2), (3, .int a3), (4, .int a4), (5, .int a5)]) dX12_canMend_26 (by decide) rfl ?_
    refine ro_lv [2, 3, 4, 5, 6, 7, 1, 0] rfl ?_
    refine ro_lp (pc := 28) (lvs := fun (s : Int32 × Int32 × mu_H) => [(0, .ref (xa X 51)), (1, .int a1), (2, .int a2), (3, .int a3), (4, .int a4), (5, .int a5), (6, .int s.1), (7, .int s.2.1)]) (hs := fun (s : Int32 × Int32 × mu_H) => s.2.2) (fun rec1 hrec1 s => ?_) N (0, 0, h)
    obtain ⟨x2, x3, h4⟩ := s; unfold f_Mod_canMend_L28; try dsimp only
    refine ro_iload (pc := 28) 7 dX12_canMend_28 rfl ?_
    refine ro_aload_n (pc := 30) 0 dX12_canMend_30 rfl rfl ?_
    refine gf_X12_26 (pc := 31) wd_1348 dX12_canMend_31 ?_
    refine ro_icmp_ge (tgt := 125) (pc := 34) dX12_canMend_34 (by decide) (fun _ => ?_) (fun _ => ?_)
    · skip
      refine ro_iload (pc := 125) 6 dX12_canMend_125 rfl ?_
      exact ro_zretg (pc := 127) rfl rfl dX12_canMend_127
    · skip
      refine ro_iload (pc := 37) 6 dX12_canMend_37 rfl ?_
      refine ro_if_ne (tgt := 125) (pc := 39) dX12_canMend_39 (by decide) (fun _ => ?_) (fun _ => ?_)
      · skip
        refine ro_iload (pc := 125) 6 dX12_canMend_125 rfl ?_
        exact ro_zretg (pc := 127) rfl rfl dX12_canMend_127
      · skip
        refine ro_aload_n (pc := 42) 0 dX12_canMend_42 rfl rfl ?_
        refine gf_X12_34 (pc := 43) wd_1356 dX12_canMend_43 ?_
        refine ro_iload (pc := 46) 7 dX12_canMend_46 rfl ?_
        refine ro_iald (pc := 48) (n := 6) cl_72 cv_72 dX12_canMend_48 ?_
        refine ro_jn (pcj := 119) (lvs := fun (s : Int32 × mu_H) => [(0, .ref (xa X 51)), (1, .int a1), (2, .int a2), (3, .int a3), (4, .int a4), (5, .int a5), (6, .int s.1), (7, .int x3)]) (hs := fun (s : Int32 × mu_H) => s.2) (sts := fun (s : Int32 × mu_H) => []) (fun s => ?_) (fun j5 hj5 => ?_)
        · obtain ⟨x6, h7⟩ := s; try dsimp only
          refine ro_iinc (pc := 119) (v := x3 + 1) (lv' := [(7, .int (x3 + 1)), (0, .ref (xa X 51)), (1, .int a1), (2, .int a2), (3, .int a3), (4, .int a4), (5, .int a5), (6, .int x6)]) 7 dX12_canMend_119 rfl rfl (by decide) rfl ?_
          refine ro_goto (tgt := 28) (pc := 122) dX12_canMend_122 (by decide) ?_
          refine ro_lv [1, 2, 3, 4, 5, 6, 7, 0] rfl ?_
          exact hrec1 (x6, x3 + 1, h7)
        · skip
          refine ro_if_le (tgt := 119) (pc := 49) dX12_canMend_49 (by decide) (fun _ => ?_) (fun _ => ?_)
          · skip
            exact hj5 (x2, h4)
          · skip
            refine ro_aload_n (pc := 52) 0 dX12_canMend_52 rfl rfl ?_
            refine ro_iload (pc := 53) 7 dX12_canMend_53 rfl ?_
            refine ro_iload_n (pc := 55) 1 dX12_canMend_55 rfl rfl ?_
            refine ro_cvP (pc := 56) (kc := 3) (avs := [.int x3, .int a1]) (st := []) ok_Mod_comes wd_1650 cl_51 cv_51 rfl ⟨show 3 + 1 ≤ kc + 1 by omega, show 8 + (3 + 11) + 60 * (3) ≤ 60 * (kc + 1) by omega⟩ ⟨Nat.zero_le _, Nat.zero_le _⟩ (c_Mod_comes X N h4 x3 a1) rfl rfl (Nat.le_of_ble_eq_true rfl) dX12_canMend_56 (fun x8 => ?_)
            refine ro_if_eq (tgt := 119) (pc := 59) dX12_canMend_59 (by decide) (fun _ => ?_) (fun _ => ?_)
            · skip
              exact hj5 (x2, h4)
            · skip
              refine ro_aload_n (pc := 62) 0 dX12_canMend_62 rfl rfl ?_
              refine gf_X12_34 (pc := 63) wd_1356 dX12_canMend_63 ?_
              refine ro_iload (pc := 66) 7 dX12_canMend_66 rfl ?_
              refine ro_dup2_11 (pc := 68) dX12_canMend_68 rfl rfl ?_
              refine ro_iald (pc := 69) (n := 6) cl_72 cv_72 dX12_canMend_69 ?_
              refine ro_iconst (v := 1) (pc := 70) dX12_canMend_70 (by decide) ?_
              refine ro_isub (pc := 71) dX12_canMend_71 ?_
              refine ro_iast (pc := 72) (n := 6) cl_72 cv_72 dX12_canMend_72 ?_
              refine ro_bnh (fun h9 => ?_)
              refine ro_aload_n (pc := 73) 0 dX12_canMend_73 rfl rfl ?_
              refine ro_iload_n (pc := 74) 1 dX12_canMend_74 rfl rfl ?_
              refine ro_iload_n (pc := 75) 2 dX12_canMend_75 rfl rfl ?_
              refine ro_iconst (v := 1) (pc := 76) dX12_canMend_76 (by decide) ?_
              refine ro_isub (pc := 77) dX12_canMend_77 ?_
              refine ro_iconst (v := 0) (pc := 78) dX12_canMend_78 (by decide) ?_
              refine ro_iload_n (pc := 79) 3 dX12_canMend_79 rfl rfl ?_
              refine ro_aload_n (pc := 80) 0 dX12_canMend_80 rfl rfl ?_
              refine ro_iload (pc := 81) 7 dX12_canMend_81 rfl ?_
              refine ro_iload_n (pc := 83) 1 dX12_canMend_83 rfl rfl ?_
              refine ro_iconst (v := 0) (pc := 84) dX12_canMend_84 (by decide) ?_
              refine ro_iload_n (pc := 85) 3 dX12_canMend_85 rfl rfl ?_
              refine ro_cvI (pc := 86) (kc := 6) (avs := [.int x3, .int a1, .int 0, .int a3]) (st := [.int a3, .int 0, .int (a2 - 1), .int a1, .ref (xa X 51)]) ok_Mod_doesBy wd_1666 cl_51 cv_51 rfl ⟨show 6 + 1 ≤ kc + 1 by omega, show 8 + (6 + 11) + 60 * (6) ≤ 60 * (kc + 1) by omega⟩ ⟨Nat.zero_le _, Nat.zero_le _⟩ (c_Mod_doesBy X N h9 x3 a1 0 a3) rfl rfl (Nat.le_of_ble_eq_true rfl) dX12_canMend_86 (fun x10 h11 => ?_)
              refine ro_isub (pc := 89) dX12_canMend_89 ?_
              refine ro_mmax (pc := 90) (st := [.int (a2 - 1), .int a1, .ref (xa X 51)]) wd_1692 (show 1 ≤ kc + 1 by omega) (Nat.le_trans (Nat.le_of_ble_eq_true (m := 60) rfl) (show 60 ≤ 60 * (kc + 1) by omega)) ⟨Nat.zero_le _, Nat.zero_le _⟩ dX12_canMend_90 ?_
              refine ro_iload (pc := 93) 4 dX12_canMend_93 rfl ?_
              refine ro_bipush (v := 10) (pc := 95) dX12_canMend_95 (by decide) ?_
              refine ro_iload (pc := 97) 5 dX12_canMend_97 rfl ?_
              refine ro_imul (pc := 99) dX12_canMend_99 ?_
              refine ro_iload (pc := 100) 7 dX12_canMend_100 rfl ?_
              refine ro_iadd (pc := 102) dX12_canMend_102 ?_
              refine ro_cvI (pc := 103) (kc := kc) (avs := [.int a1, .int (a2 - 1), .int (z_mmax 0 (a3 - x10)), .int a4, .int ((10 * a5) + x3)]) (st := []) ok_Mod_canMend wd_1775 cl_51 cv_51 rfl ⟨show kc + 1 ≤ kc + 1 by omega, show 8 + (8 + 11) + 60 * (kc) ≤ 60 * (kc + 1) by omega⟩ ⟨Nat.zero_le _, Nat.zero_le _⟩ (hrf h11 a1 (a2 - 1) (z_mmax 0 (a3 - x10)) a4 ((10 * a5) + x3)) rfl rfl (Nat.le_of_ble_eq_true rfl) dX12_canMend_103 (fun x13 h14 => ?_)
              refine ro_istore (pc := 106) (lv' := [(6, .int x13), (0, .ref (xa X 51)), (1, .int a1), (2, .int a2), (3, .int a3), (4, .int a4), (5, .int a5), (7, .int x3)]) dX12_canMend_106 (by decide) rfl ?_
              refine ro_aload_n (pc := 108) 1 dX12_canMend_108 rfl rfl ?_
              refine gf_X12_34 (pc := 109) wd_1356 dX12_canMend_109 ?_
              refine ro_iload (pc := 112) 7 dX12_canMend_112 rfl ?_
              refine ro_dup2_11 (pc := 114) dX12_canMend_114 rfl rfl ?_
              refine ro_iald (pc := 115) (n := 6) cl_72 cv_72 dX12_canMend_115 ?_
              refine ro_iconst (v := 1) (pc := 116) dX12_canMend_116 (by decide) ?_
              refine ro_iadd (pc := 117) dX12_canMend_117 ?_
              refine ro_iast (pc := 118) (n := 6) cl_72 cv_72 dX12_canMend_118 ?_
              refine ro_bnh (fun h16 => ?_)
              refine ro_lv [1, 2, 3, 4, 5, 6, 0, 7] rfl ?_
              exact hj5 (x13, h16)
  · skip
    refine ro_aload_n (pc := 4) 0 dX12_canMend_4 rfl rfl ?_
    refine ro_iload (pc := 5) 5 dX12_canMend_5 rfl ?_
    refine pf_X12_35 (pc := 7) wd_1357 dX12_canMend_7 ?_
    refine ro_bnh (fun h17 => ?_)
    refine ro_iload_n (pc := 10) 3 dX12_canMend_10 rfl rfl ?_
    refine ro_iload (pc := 11) 4 dX12_canMend_11 rfl ?_
    refine ro_icmp_gt (tgt := 20) (pc := 13) dX12_canMend_13 (by decide) (fun _ => ?_) (fun _ => ?_)
    · skip
      refine ro_iconst (v := 0) (pc := 20) dX12_canMend_20 (by decide) ?_
      exact ro_zret (pc := 21) rfl rfl rfl dX12_canMend_21
    · skip
      refine ro_iconst (v := 1) (pc := 16) dX12_canMend_16 (by decide) ?_
      refine ro_goto (tgt := 21) (pc := 17) dX12_canMend_17 (by decide) ?_
      exact ro_zret (pc := 21) rfl rfl rfl dX12_canMend_21
theorem c_Mod_canMend_B (X : mu_X) (N : Nat) (rf : mu_H → Int32 → Int32 → Int32 → Int32 → Int32 → Option (Int32 × mu_H)) (kc : Nat) (hk : 6 ≤ kc) (hrf : ∀ (h : mu_H) (b0 : Int32) (b1 : Int32) (b2 : Int32) (b3 : Int32) (b4 : Int32), ∀ r, rf h b0 b1 b2 b3 b4 = some r → mI X m_Mod_canMend kc [.ref (xa X 51), .int b0, .int b1, .int b2, .int b3, .int b4] h r.1 r.2) (h : mu_H) (a1 : Int32) (a2 : Int32) (a3 : Int32) (a4 : Int32) (a5 : Int32) : ∀ r, f_Mod_canMend_B N rf h a1 a2 a3 a4 a5 = some r → mI X m_Mod_canMend (kc + 1) [.ref (xa X 51), .int a1, .int a2, .int a3, .int a4, .int a5] h r.1 r.2 := fun r hr => mI_of (by decide) rfl (Nat.le_of_ble_eq_true rfl) rfl (cb_Mod_canMend_B X N rf kc hk hrf h a1 a2 a3 a4 a5 r hr)
theorem cd_Mod_canMend (X : mu_X) (N : Nat) : ∀ (D : Nat) (h : mu_H) (a1 : Int32) (a2 : Int32) (a3 : Int32) (a4 : Int32) (a5 : Int32), ∀ r, lp (f_Mod_canMend_R N) D (h, a1, a2, a3, a4, a5) = some r → mI X m_Mod_canMend (6 + 1 * D) [.ref (xa X 51), .int a1, .int a2, .int a3, .int a4, .int a5] h r.1 r.2 := by
  intro D
  induction D with
  | zero => intro h a1 a2 a3 a4 a5 r hr; cases hr
  | succ D ih => intro h a1 a2 a3 a4 a5 r hr; exact c_Mod_canMend_B X N _ (6 + 1 * D) (by omega) (fun h a1 a2 a3 a4 a5 r hr => ih h a1 a2 a3 a4 a5 r hr) h a1 a2 a3 a4 a5 r hr
theorem c_Mod_canMend (X : mu_X) (N : Nat) (h : mu_H) (a1 : Int32) (a2 : Int32) (a3 : Int32) (a4 : Int32) (a5 : Int32) : ∀ r, f_Mod_canMend N h a1 a2 a3 a4 a5 = some r → mI X m_Mod_canMend 16 [.ref (xa X 51), .int a1, .int a2, .int a3, .int a4, .int a5] h r.1 r.2 := fun r hr => cd_Mod_canMend X N 10 h a1 a2 a3 a4 a5 r hr
set_option maxRecDepth 20000 in
theorem cb_Mod_isSign (X : mu_X) (N : Nat) (h : mu_H) (a0 : Int32) : aG X m_Mod_isSign (rmk 1) (fun _ => ax X) (fun _ _ _ => True) 0 0 (fun r : Int32 => qI X r h) (f_Mod_isSign N h a0) 0 [(0, .int a0)] [] h := by
  unfold f_Mod_isSign
  refine ro_iload_n (pc := 0) 0 dX12_isSign_0 rfl rfl ?_
  refine ro_bipush (v := 61) (pc := 1) dX12_isSign_1 (by decide) ?_
  refine ro_icmp_eq (tgt := 18) (pc := 3) dX12_isSign_3 (by decide) (fun _ => ?_) (fun _ => ?_)
  · skip
    refine ro_iconst (v := 1) (pc := 18) dX12_isSign_18 (by decide) ?_
    refine ro_goto (tgt := 23) (pc := 19) dX12_isSign_19 (by decide) ?_
    exact ro_zret (pc := 23) rfl rfl rfl dX12_isSign_23
  · skip
    refine ro_iload_n (pc := 6) 0 dX12_isSign_6 rfl rfl ?_
    refine ro_bipush (v := 60) (pc := 7) dX12_isSign_7 (by decide) ?_
    refine ro_icmp_eq (tgt := 18) (pc := 9) dX12_isSign_9 (by decide) (fun _ => ?_) (fun _ => ?_)
    · skip
      refine ro_iconst (v := 1) (pc := 18) dX12_isSign_18 (by decide) ?_
      refine ro_goto (tgt := 23) (pc := 19) dX12_isSign_19 (by decide) ?_
      exact ro_zret (pc := 23) rfl rfl rfl dX12_isSign_23
    · skip
      refine ro_iload_n (pc := 12) 0 dX12_isSign_12 rfl rfl ?_
      refine ro_bipush (v := 62) (pc := 13) dX12_isSign_13 (by decide) ?_
      refine ro_icmp_ne (tgt := 22) (pc := 15) dX12_isSign_15 (by decide) (fun _ => ?_) (fun _ => ?_)
      · skip
        refine ro_iconst (v := 0) (pc := 22) dX12_isSign_22 (by decide) ?_
        exact ro_zret (pc := 23) rfl rfl rfl dX12_isSign_23
      · skip
        refine ro_iconst (v := 1) (pc := 18) dX12_isSign_18 (by decide) ?_
        refine ro_goto (tgt := 23) (pc := 19) dX12_isSign_19 (by decide) ?_
        exact ro_zret (pc := 23) rfl rfl rfl dX12_isSign_23
theorem c_Mod_isSign (X : mu_X) (N : Nat) (h : mu_H) (a0 : Int32) : ∀ r, f_Mod_isSign N h a0 = some r → mI X m_Mod_isSign 1 [.int a0] h r h := fun r hr => mI_of (by decide) rfl (Nat.le_of_ble_eq_true rfl) rfl (cb_Mod_isSign X N h a0 r hr)
set_option maxRecDepth 20000 in
theorem cb_Mod_compare (X : mu_X) (N : Nat) (h : mu_H) : aG X m_Mod_compare (rmk 34) (fun _ => ax X) (fun _ _ _ => True) 0 0 (fun r : mu_H => qV X r) (f_Mod_compare N h) 0 [(0, .ref (xa X 51))] [] h := by
  unfold f_Mod_compare
  refine ro_aload_n (pc := 0) 0 dX12_compare_0 rfl rfl ?_
  refine gf_X12_4 (pc := 1) wd_1326 dX12_compare_1 ?_
  refine ro_iconst (v := (-1)) (pc := 4) dX12_compare_4 (by decide) ?_
  refine ro_jn (pcj := 16) (lvs := fun (s : Int32 × mu_H) => [(0, .ref (xa X 51))]) (hs := fun (s : Int32 × mu_H) => s.2) (sts := fun (s : Int32 × mu_H) => [.int s.1]) (fun s => ?_) (fun j1 hj1 => ?_)
  · obtain ⟨x2, h3⟩ := s; try dsimp only
    refine ro_istore_n (pc := 16) (lv' := [(1, .int x2), (0, .ref (xa X 51))]) dX12_compare_16 rfl (by decide) rfl ?_
    refine ro_iload_n (pc := 17) 0 dX12_compare_17 rfl rfl ?_
    refine ro_csP (pc := 18) (kc := 1) (avs := [.int x2]) (st := []) ok_Mod_isSign wd_1585 ⟨by decide, by decide⟩ ⟨Nat.zero_le _, Nat.zero_le _⟩ (c_Mod_isSign X N h3 x2) rfl rfl (Nat.le_of_ble_eq_true rfl) dX12_compare_18 (fun x4 => ?_)
    refine ro_if_ne (tgt := 29) (pc := 21) dX12_compare_21 (by decide) (fun _ => ?_) (fun _ => ?_)
    · skip
      refine ro_aload_n (pc := 29) 1 dX12_compare_29 rfl rfl ?_
      refine ro_dup (pc := 30) dX12_compare_30 rfl ?_
      refine gf_X12_3 (pc := 31) wd_1325 dX12_compare_31 ?_
      refine ro_iconst (v := 1) (pc := 34) dX12_compare_34 (by decide) ?_
      refine ro_iadd (pc := 35) dX12_compare_35 ?_
      refine pf_X12_3 (pc := 36) wd_1325 dX12_compare_36 ?_
      refine ro_bnh (fun h5 => ?_)
      refine ro_aload_n (pc := 39) 1 dX12_compare_39 rfl rfl ?_
      refine ro_cvV (pc := 40) (kc := 33) (avs := []) (st := []) ok_Mod_sum wd_1562 cl_51 cv_51 rfl ⟨by decide, by decide⟩ ⟨Nat.zero_le _, Nat.zero_le _⟩ (c_Mod_sum X N h5) rfl rfl (Nat.le_of_ble_eq_true rfl) dX12_compare_40 (fun h6 => ?_)
      refine ro_aload_n (pc := 43) 1 dX12_compare_43 rfl rfl ?_
      refine ro_iload_n (pc := 44) 0 dX12_compare_44 rfl rfl ?_
      refine ro_bipush (v := 61) (pc := 45) dX12_compare_45 (by decide) ?_
      refine ro_jn (pcj := 68) (lvs := fun (s : Int32) => []) (hs := fun (s : Int32) => h6) (sts := fun (s : Int32) => [.int s, .ref (xa X 51)]) (fun x8 => ?_) (fun j7 hj7 => ?_)
      · try dsimp only
        refine ro_iconst (v := 0) (pc := 68) dX12_compare_68 (by decide) ?_
        refine ro_cvV (pc := 69) (kc := 1) (avs := [.int x8, .int 0]) (st := []) ok_Mod_put wd_1554 cl_51 cv_51 rfl ⟨by decide, by decide⟩ ⟨Nat.zero_le _, Nat.zero_le _⟩ (c_Mod_put X N h6 x8 0) rfl rfl (Nat.le_of_ble_eq_true rfl) dX12_compare_69 (fun h9 => ?_)
        exact ro_vret (pc := 72) rfl rfl dX12_compare_72
      · skip
        refine ro_icmp_ne (tgt := 55) (pc := 47) dX12_compare_47 (by decide) (fun _ => ?_) (fun _ => ?_)
        · skip
          refine ro_iload_n (pc := 55) 0 dX12_compare_55 rfl rfl ?_
          refine ro_bipush (v := 60) (pc := 56) dX12_compare_56 (by decide) ?_
          refine ro_icmp_ne (tgt := 66) (pc := 58) dX12_compare_58 (by decide) (fun _ => ?_) (fun _ => ?_)
          · skip
            refine ro_bipush (v := 8) (pc := 66) dX12_compare_66 (by decide) ?_
            refine ro_lv [] rfl ?_
            exact hj7 8
          · skip
            refine ro_bipush (v := 7) (pc := 61) dX12_compare_61 (by decide) ?_
            refine ro_goto (tgt := 68) (pc := 63) dX12_compare_63 (by decide) ?_
            refine ro_lv [] rfl ?_
            exact hj7 7
        · skip
          refine ro_bipush (v := 6) (pc := 50) dX12_compare_50 (by decide) ?_
          refine ro_goto (tgt := 68) (pc := 52) dX12_compare_52 (by decide) ?_
          refine ro_lv [] rfl ?_
          exact hj7 6
    · skip
      refine ro_aload_n (pc := 24) 1 dX12_compare_24 rfl rfl ?_
      refine ro_cvV (pc := 25) (kc := 1) (avs := []) (st := []) ok_Mod_bad wd_1519 cl_51 cv_51 rfl ⟨by decide, by decide⟩ ⟨Nat.zero_le _, Nat.zero_le _⟩ (c_Mod_bad X N h3) rfl rfl (Nat.le_of_ble_eq_true rfl) dX12_compare_25 (fun h10 => ?_)
      exact ro_vret (pc := 28) rfl rfl dX12_compare_28
  · skip
    refine ro_icmp_ne (tgt := 15) (pc := 5) dX12_compare_5 (by decide) (fun _ => ?_) (fun _ => ?_)
    · skip
      refine ro_iconst (v := (-1)) (pc := 15) dX12_compare_15 (by decide) ?_
      exact hj1 ((-1), h)
    · skip
      refine ro_aload_n (pc := 8) 0 dX12_compare_8 rfl rfl ?_
      refine ro_cvI (pc := 9) (kc := 2) (avs := []) (st := []) ok_Mod_look wd_1488 cl_51 cv_51 rfl ⟨by decide, by decide⟩ ⟨Nat.zero_le _, Nat.zero_le _⟩ (c_Mod_look X N h) rfl rfl (Nat.le_of_ble_eq_true rfl) dX12_compare_9 (fun x11 h12 => ?_)
      refine ro_goto (tgt := 16) (pc := 12) dX12_compare_12 (by decide) ?_
      exact hj1 (x11, h12)
theorem c_Mod_compare (X : mu_X) (N : Nat) (h : mu_H) : ∀ r, f_Mod_compare N h = some r → mV X m_Mod_compare 34 [.ref (xa X 51)] h r := fun r hr => mV_of (by decide) rfl (Nat.le_of_ble_eq_true rfl) rfl (cb_Mod_compare X N h r hr)
set_option maxRecDepth 20000 in
theorem cb_Mod_goOnAnd_B (X : mu_X) (N : Nat) (rf : mu_H → Option mu_H) (kc : Nat) (hk : 34 ≤ kc) (hrf : ∀ (h : mu_H), ∀ r, rf h = some r → mV X m_Mod_unit kc [.ref (xa X 51)] h r) (h : mu_H) : aG X m_Mod_goOnAnd (rmk (kc + 1)) (fun _ => ax X) (fun _ _ _ => True) 0 0 (fun r : mu_H => qV X r) (f_Mod_goOnAnd_B N rf h) 0 [(0, .ref (xa X 51))] [] h := by
  unfold f_Mod_goOnAnd_B
  refine ro_lp (pc := 0) (lvs := fun (s : mu_H) => [(0, .ref (xa X 51))]) (hs := fun (s : mu_H) => s) (fun rec1 hrec1 h2 => ?_) N h
  unfold f_Mod_goOnAnd_L0; try dsimp only
  refine ro_aload_n (pc := 0) 0 dX12_goOnAnd_0 rfl rfl ?_
  refine gf_X12_4 (pc := 1) wd_1326 dX12_goOnAnd_1 ?_
  refine ro_iconst (v := (-1)) (pc := 4) dX12_goOnAnd_4 (by decide) ?_
  refine ro_icmp_ne (tgt := 41) (pc := 5) dX12_goOnAnd_5 (by decide) (fun _ => ?_) (fun _ => ?_)
  · skip
    exact ro_vret (pc := 41) rfl rfl dX12_goOnAnd_41
  · skip
    refine ro_aload_n (pc := 8) 0 dX12_goOnAnd_8 rfl rfl ?_
    refine ro_cvI (pc := 9) (kc := 2) (avs := []) (st := []) ok_Mod_look wd_1488 cl_51 cv_51 rfl ⟨show 2 + 1 ≤ kc + 1 by omega, show 8 + (1 + 11) + 60 * (2) ≤ 60 * (kc + 1) by omega⟩ ⟨Nat.zero_le _, Nat.zero_le _⟩ (c_Mod_look X N h2) rfl rfl (Nat.le_of_ble_eq_true rfl) dX12_goOnAnd_9 (fun x3 h4 => ?_)
    refine ro_bipush (v := 38) (pc := 12) dX12_goOnAnd_12 (by decide) ?_
    refine ro_icmp_ne (tgt := 41) (pc := 14) dX12_goOnAnd_14 (by decide) (fun _ => ?_) (fun _ => ?_)
    · skip
      exact ro_vret (pc := 41) rfl rfl dX12_goOnAnd_41
    · skip
      refine ro_aload_n (pc := 17) 0 dX12_goOnAnd_17 rfl rfl ?_
      refine ro_dup (pc := 18) dX12_goOnAnd_18 rfl ?_
      refine gf_X12_3 (pc := 19) wd_1325 dX12_goOnAnd_19 ?_
      refine ro_iconst (v := 1) (pc := 22) dX12_goOnAnd_22 (by decide) ?_
      refine ro_iadd (pc := 23) dX12_goOnAnd_23 ?_
      refine pf_X12_3 (pc := 24) wd_1325 dX12_goOnAnd_24 ?_
      refine ro_bnh (fun h6 => ?_)
      refine ro_aload_n (pc := 27) 0 dX12_goOnAnd_27 rfl rfl ?_
      refine ro_cvV (pc := 28) (kc := kc) (avs := []) (st := []) ok_Mod_unit wd_1546 cl_51 cv_51 rfl ⟨show kc + 1 ≤ kc + 1 by omega, show 8 + (2 + 11) + 60 * (kc) ≤ 60 * (kc + 1) by omega⟩ ⟨Nat.zero_le _, Nat.zero_le _⟩ (hrf h6) rfl rfl (Nat.le_of_ble_eq_true rfl) dX12_goOnAnd_28 (fun h7 => ?_)
      refine ro_aload_n (pc := 31) 0 dX12_goOnAnd_31 rfl rfl ?_
      refine ro_bipush (v := 10) (pc := 32) dX12_goOnAnd_32 (by decide) ?_
      refine ro_iconst (v := 0) (pc := 34) dX12_goOnAnd_34 (by decide) ?_
      refine ro_cvV (pc := 35) (kc := 1) (avs := [.int 10, .int 0]) (st := []) ok_Mod_put wd_1554 cl_51 cv_51 rfl ⟨show 1 + 1 ≤ kc + 1 by omega, show 8 + (3 + 11) + 60 * (1) ≤ 60 * (kc + 1) by omega⟩ ⟨Nat.zero_le _, Nat.zero_le _⟩ (c_Mod_put X N h7 10 0) rfl rfl (Nat.le_of_ble_eq_true rfl) dX12_goOnAnd_35 (fun h8 => ?_)
      refine ro_goto (tgt := 0) (pc := 38) dX12_goOnAnd_38 (by decide) ?_
      exact hrec1 h8
theorem c_Mod_goOnAnd_B (X : mu_X) (N : Nat) (rf : mu_H → Option mu_H) (kc : Nat) (hk : 34 ≤ kc) (hrf : ∀ (h : mu_H), ∀ r, rf h = some r → mV X m_Mod_unit kc [.ref (xa X 51)] h r) (h : mu_H) : ∀ r, f_Mod_goOnAnd_B N rf h = some r → mV X m_Mod_goOnAnd (kc + 1) [.ref (xa X 51)] h r := fun r hr => mV_of (by decide) rfl (Nat.le_of_ble_eq_true rfl) rfl (cb_Mod_goOnAnd_B X N rf kc hk hrf h r hr)
set_option maxRecDepth 20000 in
theorem cb_Mod_goOnOr_B (X : mu_X) (N : Nat) (rf : mu_H → Option mu_H) (kc : Nat) (hk : 34 ≤ kc) (hrf : ∀ (h : mu_H), ∀ r, rf h = some r → mV X m_Mod_unit kc [.ref (xa X 51)] h r) (h : mu_H) : aG X m_Mod_goOnOr (rmk (kc + 2)) (fun _ => ax X) (fun _ _ _ => True) 0 0 (fun r : mu_H => qV X r) (f_Mod_goOnOr_B N rf h) 0 [(0, .ref (xa X 51))] [] h := by
  unfold f_Mod_goOnOr_B
  refine ro_lp (pc := 0) (lvs := fun (s : mu_H) => [(0, .ref (xa X 51))]) (hs := fun (s : mu_H) => s) (fun rec1 hrec1 h2 => ?_) N h
  unfold f_Mod_goOnOr_L0; try dsimp only
  refine ro_aload_n (pc := 0) 0 dX12_goOnOr_0 rfl rfl ?_
  refine gf_X12_4 (pc := 1) wd_1326 dX12_goOnOr_1 ?_
  refine ro_iconst (v := (-1)) (pc := 4) dX12_goOnOr_4 (by decide) ?_
  refine ro_icmp_ne (tgt := 45) (pc := 5) dX12_goOnOr_5 (by decide) (fun _ => ?_) (fun _ => ?_)
  · skip
    exact ro_vret (pc := 45) rfl rfl dX12_goOnOr_45
  · skip
    refine ro_aload_n (pc := 8) 0 dX12_goOnOr_8 rfl rfl ?_
    refine ro_cvI (pc := 9) (kc := 2) (avs := []) (st := []) ok_Mod_look wd_1488 cl_51 cv_51 rfl ⟨show 2 + 1 ≤ kc + 2 by omega, show 8 + (1 + 11) + 60 * (2) ≤ 60 * (kc + 2) by omega⟩ ⟨Nat.zero_le _, Nat.zero_le _⟩ (c_Mod_look X N h2) rfl rfl (Nat.le_of_ble_eq_true rfl) dX12_goOnOr_9 (fun x3 h4 => ?_)
    refine ro_bipush (v := 124) (pc := 12) dX12_goOnOr_12 (by decide) ?_
    refine ro_icmp_ne (tgt := 45) (pc := 14) dX12_goOnOr_14 (by decide) (fun _ => ?_) (fun _ => ?_)
    · skip
      exact ro_vret (pc := 45) rfl rfl dX12_goOnOr_45
    · skip
      refine ro_aload_n (pc := 17) 0 dX12_goOnOr_17 rfl rfl ?_
      refine ro_dup (pc := 18) dX12_goOnOr_18 rfl ?_
      refine gf_X12_3 (pc := 19) wd_1325 dX12_goOnOr_19 ?_
      refine ro_iconst (v := 1) (pc := 22) dX12_goOnOr_22 (by decide) ?_
      refine ro_iadd (pc := 23) dX12_goOnOr_23 ?_
      refine pf_X12_3 (pc := 24) wd_1325 dX12_goOnOr_24 ?_
      refine ro_bnh (fun h6 => ?_)
      refine ro_aload_n (pc := 27) 0 dX12_goOnOr_27 rfl rfl ?_
      refine ro_cvV (pc := 28) (kc := kc) (avs := []) (st := []) ok_Mod_unit wd_1546 cl_51 cv_51 rfl ⟨show kc + 1 ≤ kc + 2 by omega, show 8 + (2 + 11) + 60 * (kc) ≤ 60 * (kc + 2) by omega⟩ ⟨Nat.zero_le _, Nat.zero_le _⟩ (hrf h6) rfl rfl (Nat.le_of_ble_eq_true rfl) dX12_goOnOr_28 (fun h7 => ?_)
      refine ro_aload_n (pc := 31) 0 dX12_goOnOr_31 rfl rfl ?_
      refine ro_cvV (pc := 32) (kc := kc + 1) (avs := []) (st := []) ok_Mod_goOnAnd wd_1588 cl_51 cv_51 rfl ⟨show (kc + 1) + 1 ≤ kc + 2 by omega, show 8 + (1 + 11) + 60 * (kc + 1) ≤ 60 * (kc + 2) by omega⟩ ⟨Nat.zero_le _, Nat.zero_le _⟩ (c_Mod_goOnAnd_B X N rf kc hk hrf h7) rfl rfl (Nat.le_of_ble_eq_true rfl) dX12_goOnOr_32 (fun h8 => ?_)
      refine ro_aload_n (pc := 35) 0 dX12_goOnOr_35 rfl rfl ?_
      refine ro_bipush (v := 11) (pc := 36) dX12_goOnOr_36 (by decide) ?_
      refine ro_iconst (v := 0) (pc := 38) dX12_goOnOr_38 (by decide) ?_
      refine ro_cvV (pc := 39) (kc := 1) (avs := [.int 11, .int 0]) (st := []) ok_Mod_put wd_1554 cl_51 cv_51 rfl ⟨show 1 + 1 ≤ kc + 2 by omega, show 8 + (3 + 11) + 60 * (1) ≤ 60 * (kc + 2) by omega⟩ ⟨Nat.zero_le _, Nat.zero_le _⟩ (c_Mod_put X N h8 11 0) rfl rfl (Nat.le_of_ble_eq_true rfl) dX12_goOnOr_39 (fun h9 => ?_)
      refine ro_goto (tgt := 0) (pc := 42) dX12_goOnOr_42 (by decide) ?_
      exact hrec1 h9
theorem c_Mod_goOnOr_B (X : mu_X) (N : Nat) (rf : mu_H → Option mu_H) (kc : Nat) (hk : 34 ≤ kc) (hrf : ∀ (h : mu_H), ∀ r, rf h = some r → mV X m_Mod_unit kc [.ref (xa X 51)] h r) (h : mu_H) : ∀ r, f_Mod_goOnOr_B N rf h = some r → mV X m_Mod_goOnOr (kc + 2) [.ref (xa X 51)] h r := fun r hr => mV_of (by decide) rfl (Nat.le_of_ble_eq_true rfl) rfl (cb_Mod_goOnOr_B X N rf kc hk hrf h r hr)
set_option maxRecDepth 20000 in
theorem cb_Mod_condition_B (X : mu_X) (N : Nat) (rf : mu_H → Option mu_H) (kc : Nat) (hk : 34 ≤ kc) (hrf : ∀ (h : mu_H), ∀ r, rf h = some r → mV X m_Mod_unit kc [.ref (xa X 51)] h r) (h : mu_H) : aG X m_Mod_condition (rmk (kc + 3)) (fun _ => ax X) (fun _ _ _ => True) 0 0 (fun r : mu_H => qV X r) (f_Mod_condition_B N rf h) 0 [(0, .ref (xa X 51))] [] h := by
  unfold f_Mod_condition_B
  refine ro_aload_n (pc := 0) 0 dX12_condition_0 rfl rfl ?_
  refine ro_cvV (pc := 1) (kc := kc) (avs := []) (st := []) ok_Mod_unit wd_1546 cl_51 cv_51 rfl ⟨show kc + 1 ≤ kc + 3 by omega, show 8 + (2 + 11) + 60 * (kc) ≤ 60 * (kc + 3) by omega⟩ ⟨Nat.zero_le _, Nat.zero_le _⟩ (hrf h) rfl rfl (Nat.le_of_ble_eq_true rfl) dX12_condition_1 (fun h1 => ?_)
  refine ro_aload_n (pc := 4) 0 dX12_condition_4 rfl rfl ?_
  refine ro_cvV (pc := 5) (kc := kc + 1) (avs := []) (st := []) ok_Mod_goOnAnd wd_1588 cl_51 cv_51 rfl ⟨show (kc + 1) + 1 ≤ kc + 3 by omega, show 8 + (1 + 11) + 60 * (kc + 1) ≤ 60 * (kc + 3) by omega⟩ ⟨Nat.zero_le _, Nat.zero_le _⟩ (c_Mod_goOnAnd_B X N rf kc hk hrf h1) rfl rfl (Nat.le_of_ble_eq_true rfl) dX12_condition_5 (fun h2 => ?_)
  refine ro_aload_n (pc := 8) 0 dX12_condition_8 rfl rfl ?_
  refine ro_cvV (pc := 9) (kc := kc + 2) (avs := []) (st := []) ok_Mod_goOnOr wd_1592 cl_51 cv_51 rfl ⟨show (kc + 2) + 1 ≤ kc + 3 by omega, show 8 + (1 + 11) + 60 * (kc + 2) ≤ 60 * (kc + 3) by omega⟩ ⟨Nat.zero_le _, Nat.zero_le _⟩ (c_Mod_goOnOr_B X N rf kc hk hrf h2) rfl rfl (Nat.le_of_ble_eq_true rfl) dX12_condition_9 (fun h3 => ?_)
  exact ro_vret (pc := 12) rfl rfl dX12_condition_12
theorem c_Mod_condition_B (X : mu_X) (N : Nat) (rf : mu_H → Option mu_H) (kc : Nat) (hk : 34 ≤ kc) (hrf : ∀ (h : mu_H), ∀ r, rf h = some r → mV X m_Mod_unit kc [.ref (xa X 51)] h r) (h : mu_H) : ∀ r, f_Mod_condition_B N rf h = some r → mV X m_Mod_condition (kc + 3) [.ref (xa X 51)] h r := fun r hr => mV_of (by decide) rfl (Nat.le_of_ble_eq_true rfl) rfl (cb_Mod_condition_B X N rf kc hk hrf h r hr)
set_option maxRecDepth 20000 in
theorem cb_Mod_unit_B (X : mu_X) (N : Nat) (rf : mu_H → Option mu_H) (kc : Nat) (hk : 34 ≤ kc) (hrf : ∀ (h : mu_H), ∀ r, rf h = some r → mV X m_Mod_unit kc [.ref (xa X 51)] h r) (h : mu_H) : aG X m_Mod_unit (rmk (kc + 4)) (fun _ => ax X) (fun _ _ _ => True) 0 0 (fun r : mu_H => qV X r) (f_Mod_unit_B N rf h) 0 [(0, .ref (xa X 51))] [] h := by
  unfold f_Mod_unit_B
  refine ro_aload_n (pc := 0) 0 dX12_unit_0 rfl rfl ?_
  refine ro_cvI (pc := 1) (kc := 2) (avs := []) (st := []) ok_Mod_look wd_1488 cl_51 cv_51 rfl ⟨show 2 + 1 ≤ kc + 4 by omega, show 8 + (1 + 11) + 60 * (2) ≤ 60 * (kc + 4) by omega⟩ ⟨Nat.zero_le _, Nat.zero_le _⟩ (c_Mod_look X N h) rfl rfl (Nat.le_of_ble_eq_true rfl) dX12_unit_1 (fun x1 h2 => ?_)
  refine ro_istore_n (pc := 4) (lv' := [(1, .int x1), (0, .ref (xa X 51))]) dX12_unit_4 rfl (by decide) rfl ?_
  refine ro_iload_n (pc := 5) 0 dX12_unit_5 rfl rfl ?_
  refine ro_bipush (v := 33) (pc := 6) dX12_unit_6 (by decide) ?_
  refine ro_icmp_ne (tgt := 47) (pc := 8) dX12_unit_8 (by decide) (fun _ => ?_) (fun _ => ?_)
  · skip
    refine ro_iload_n (pc := 47) 0 dX12_unit_47 rfl rfl ?_
    refine ro_bipush (v := 40) (pc := 48) dX12_unit_48 (by decide) ?_
    refine ro_icmp_ne (tgt := 78) (pc := 50) dX12_unit_50 (by decide) (fun _ => ?_) (fun _ => ?_)
    · skip
      refine ro_aload_n (pc := 78) 1 dX12_unit_78 rfl rfl ?_
      refine ro_cvV (pc := 79) (kc := 33) (avs := []) (st := []) ok_Mod_sum wd_1562 cl_51 cv_51 rfl ⟨show 33 + 1 ≤ kc + 4 by omega, show 8 + (2 + 11) + 60 * (33) ≤ 60 * (kc + 4) by omega⟩ ⟨Nat.zero_le _, Nat.zero_le _⟩ (c_Mod_sum X N h2) rfl rfl (Nat.le_of_ble_eq_true rfl) dX12_unit_79 (fun h4 => ?_)
      refine ro_aload_n (pc := 82) 1 dX12_unit_82 rfl rfl ?_
      refine gf_X12_4 (pc := 83) wd_1326 dX12_unit_83 ?_
      refine ro_iconst (v := (-1)) (pc := 86) dX12_unit_86 (by decide) ?_
      refine ro_icmp_ne (tgt := 94) (pc := 87) dX12_unit_87 (by decide) (fun _ => ?_) (fun _ => ?_)
      · skip
        exact ro_vret (pc := 94) rfl rfl dX12_unit_94
      · skip
        refine ro_aload_n (pc := 90) 1 dX12_unit_90 rfl rfl ?_
        refine ro_cvV (pc := 91) (kc := 34) (avs := []) (st := []) ok_Mod_compare wd_1581 cl_51 cv_51 rfl ⟨show 34 + 1 ≤ kc + 4 by omega, show 8 + (2 + 11) + 60 * (34) ≤ 60 * (kc + 4) by omega⟩ ⟨Nat.zero_le _, Nat.zero_le _⟩ (c_Mod_compare X N h4) rfl rfl (Nat.le_of_ble_eq_true rfl) dX12_unit_91 (fun h5 => ?_)
        exact ro_vret (pc := 94) rfl rfl dX12_unit_94
    · skip
      refine ro_aload_n (pc := 53) 1 dX12_unit_53 rfl rfl ?_
      refine ro_cvV (pc := 54) (kc := 2) (avs := []) (st := []) ok_Mod_opens wd_1550 cl_51 cv_51 rfl ⟨show 2 + 1 ≤ kc + 4 by omega, show 8 + (1 + 11) + 60 * (2) ≤ 60 * (kc + 4) by omega⟩ ⟨Nat.zero_le _, Nat.zero_le _⟩ (c_Mod_opens X N h2) rfl rfl (Nat.le_of_ble_eq_true rfl) dX12_unit_54 (fun h6 => ?_)
      refine ro_aload_n (pc := 57) 1 dX12_unit_57 rfl rfl ?_
      refine gf_X12_4 (pc := 58) wd_1326 dX12_unit_58 ?_
      refine ro_iconst (v := (-1)) (pc := 61) dX12_unit_61 (by decide) ?_
      refine ro_icmp_ne (tgt := 94) (pc := 62) dX12_unit_62 (by decide) (fun _ => ?_) (fun _ => ?_)
      · skip
        exact ro_vret (pc := 94) rfl rfl dX12_unit_94
      · skip
        refine ro_aload_n (pc := 65) 1 dX12_unit_65 rfl rfl ?_
        refine ro_cvV (pc := 66) (kc := kc + 3) (avs := []) (st := []) ok_Mod_condition wd_1542 cl_51 cv_51 rfl ⟨show (kc + 3) + 1 ≤ kc + 4 by omega, show 8 + (1 + 11) + 60 * (kc + 3) ≤ 60 * (kc + 4) by omega⟩ ⟨Nat.zero_le _, Nat.zero_le _⟩ (c_Mod_condition_B X N rf kc hk hrf h6) rfl rfl (Nat.le_of_ble_eq_true rfl) dX12_unit_66 (fun h7 => ?_)
        refine ro_aload_n (pc := 69) 1 dX12_unit_69 rfl rfl ?_
        refine ro_bipush (v := 41) (pc := 70) dX12_unit_70 (by decide) ?_
        refine ro_cvV (pc := 72) (kc := 3) (avs := [.int 41]) (st := []) ok_Mod_closes wd_1558 cl_51 cv_51 rfl ⟨show 3 + 1 ≤ kc + 4 by omega, show 8 + (2 + 11) + 60 * (3) ≤ 60 * (kc + 4) by omega⟩ ⟨Nat.zero_le _, Nat.zero_le _⟩ (c_Mod_closes X N h7 41) rfl rfl (Nat.le_of_ble_eq_true rfl) dX12_unit_72 (fun h8 => ?_)
        refine ro_goto (tgt := 94) (pc := 75) dX12_unit_75 (by decide) ?_
        exact ro_vret (pc := 94) rfl rfl dX12_unit_94
  · skip
    refine ro_aload_n (pc := 11) 1 dX12_unit_11 rfl rfl ?_
    refine ro_cvV (pc := 12) (kc := 2) (avs := []) (st := []) ok_Mod_opens wd_1550 cl_51 cv_51 rfl ⟨show 2 + 1 ≤ kc + 4 by omega, show 8 + (1 + 11) + 60 * (2) ≤ 60 * (kc + 4) by omega⟩ ⟨Nat.zero_le _, Nat.zero_le _⟩ (c_Mod_opens X N h2) rfl rfl (Nat.le_of_ble_eq_true rfl) dX12_unit_12 (fun h9 => ?_)
    refine ro_aload_n (pc := 15) 1 dX12_unit_15 rfl rfl ?_
    refine gf_X12_4 (pc := 16) wd_1326 dX12_unit_16 ?_
    refine ro_iconst (v := (-1)) (pc := 19) dX12_unit_19 (by decide) ?_
    refine ro_icmp_ne (tgt := 94) (pc := 20) dX12_unit_20 (by decide) (fun _ => ?_) (fun _ => ?_)
    · skip
      exact ro_vret (pc := 94) rfl rfl dX12_unit_94
    · skip
      refine ro_aload_n (pc := 23) 1 dX12_unit_23 rfl rfl ?_
      refine ro_cvV (pc := 24) (kc := kc) (avs := []) (st := []) ok_Mod_unit wd_1546 cl_51 cv_51 rfl ⟨show kc + 1 ≤ kc + 4 by omega, show 8 + (2 + 11) + 60 * (kc) ≤ 60 * (kc + 4) by omega⟩ ⟨Nat.zero_le _, Nat.zero_le _⟩ (hrf h9) rfl rfl (Nat.le_of_ble_eq_true rfl) dX12_unit_24 (fun h10 => ?_)
      refine ro_aload_n (pc := 27) 1 dX12_unit_27 rfl rfl ?_
      refine ro_bipush (v := 9) (pc := 28) dX12_unit_28 (by decide) ?_
      refine ro_iconst (v := 0) (pc := 30) dX12_unit_30 (by decide) ?_
      refine ro_cvV (pc := 31) (kc := 1) (avs := [.int 9, .int 0]) (st := []) ok_Mod_put wd_1554 cl_51 cv_51 rfl ⟨show 1 + 1 ≤ kc + 4 by omega, show 8 + (3 + 11) + 60 * (1) ≤ 60 * (kc + 4) by omega⟩ ⟨Nat.zero_le _, Nat.zero_le _⟩ (c_Mod_put X N h10 9 0) rfl rfl (Nat.le_of_ble_eq_true rfl) dX12_unit_31 (fun h11 => ?_)
      refine ro_aload_n (pc := 34) 1 dX12_unit_34 rfl rfl ?_
      refine ro_dup (pc := 35) dX12_unit_35 rfl ?_
      refine gf_X12_5 (pc := 36) wd_1327 dX12_unit_36 ?_
      refine ro_iconst (v := 1) (pc := 39) dX12_unit_39 (by decide) ?_
      refine ro_isub (pc := 40) dX12_unit_40 ?_
      refine pf_X12_5 (pc := 41) wd_1327 dX12_unit_41 ?_
      refine ro_bnh (fun h12 => ?_)
      refine ro_goto (tgt := 94) (pc := 44) dX12_unit_44 (by decide) ?_
      exact ro_vret (pc := 94) rfl rfl dX12_unit_94
theorem c_Mod_unit_B (X : mu_X) (N : Nat) (rf : mu_H → Option mu_H) (kc : Nat) (hk : 34 ≤ kc) (hrf : ∀ (h : mu_H), ∀ r, rf h = some r → mV X m_Mod_unit kc [.ref (xa X 51)] h r) (h : mu_H) : ∀ r, f_Mod_unit_B N rf h = some r → mV X m_Mod_unit (kc + 4) [.ref (xa X 51)] h r := fun r hr => mV_of (by decide) rfl (Nat.le_of_ble_eq_true rfl) rfl (cb_Mod_unit_B X N rf kc hk hrf h r hr)
theorem cd_Mod_unit (X : mu_X) (N : Nat) : ∀ (D : Nat) (h : mu_H) , ∀ r, lp (f_Mod_unit_R N) D h = some r → mV X m_Mod_unit (34 + 4 * D) [.ref (xa X 51)] h r := by
  intro D
  induction D with
  | zero => intro h  r hr; cases hr
  | succ D ih => intro h  r hr; exact c_Mod_unit_B X N _ (34 + 4 * D) (by omega) (fun h  r hr => ih h  r hr) h  r hr
theorem c_Mod_unit (X : mu_X) (N : Nat) (h : mu_H) : ∀ r, f_Mod_unit N h = some r → mV X m_Mod_unit 74 [.ref (xa X 51)] h r := fun r hr => cd_Mod_unit X N 10 h  r hr
theorem c_Mod_goOnAnd (X : mu_X) (N : Nat) (h : mu_H) : ∀ r, f_Mod_goOnAnd N h = some r → mV X m_Mod_goOnAnd 75 [.ref (xa X 51)] h r := fun r hr => c_Mod_goOnAnd_B X N (f_Mod_unit N) 74 (by decide) (c_Mod_unit X N) h  r hr
theorem c_Mod_goOnOr (X : mu_X) (N : Nat) (h : mu_H) : ∀ r, f_Mod_goOnOr N h = some r → mV X m_Mod_goOnOr 76 [.ref (xa X 51)] h r := fun r hr => c_Mod_goOnOr_B X N (f_Mod_unit N) 74 (by decide) (c_Mod_unit X N) h  r hr
theorem c_Mod_condition (X : mu_X) (N : Nat) (h : mu_H) : ∀ r, f_Mod_condition N h = some r → mV X m_Mod_condition 77 [.ref (xa X 51)] h r := fun r hr => c_Mod_condition_B X N (f_Mod_unit N) 74 (by decide) (c_Mod_unit X N) h  r hr
set_option maxRecDepth 20000 in
theorem cb_Mod_clause (X : mu_X) (N : Nat) (h : mu_H) : aG X m_Mod_clause (rmk 78) (fun _ => ax X) (fun _ _ _ => True) 0 0 (fun r : mu_H => qV X r) (f_Mod_clause N h) 0 [(0, .ref (xa X 51))] [] h := by
  unfold f_Mod_clause
  refine ro_sipush (v := 140) (pc := 0) dX12_clause_0 (by decide) ?_
  refine ro_aload_n (pc := 3) 0 dX12_clause_3 rfl rfl ?_
  refine gf_X12_14 (pc := 4) wd_1336 dX12_clause_4 ?_
  refine ro_imul (pc := 7) dX12_clause_7 ?_
  refine ro_aload_n (pc := 8) 0 dX12_clause_8 rfl rfl ?_
  refine gf_X12_9 (pc := 9) wd_1331 dX12_clause_9 ?_
  refine ro_aload_n (pc := 12) 0 dX12_clause_12 rfl rfl ?_
  refine gf_X12_14 (pc := 13) wd_1336 dX12_clause_13 ?_
  refine ro_iald (pc := 16) (n := 5) cl_56 cv_56 dX12_clause_16 ?_
  refine ro_iadd (pc := 17) dX12_clause_17 ?_
  refine ro_bn (fun x1 => ?_)
  refine ro_istore_n (pc := 18) (lv' := [(1, .int x1), (0, .ref (xa X 51))]) dX12_clause_18 rfl (by decide) rfl ?_
  refine ro_aload_n (pc := 19) 1 dX12_clause_19 rfl rfl ?_
  refine gf_X12_4 (pc := 20) wd_1326 dX12_clause_20 ?_
  refine ro_iconst (v := (-1)) (pc := 23) dX12_clause_23 (by decide) ?_
  refine ro_jn (pcj := 40) (lvs := fun (s : mu_H) => [(0, .ref (xa X 51)), (1, .int x1)]) (hs := fun (s : mu_H) => s) (sts := fun (s : mu_H) => []) (fun h3 => ?_) (fun j2 hj2 => ?_)
  · try dsimp only
    refine ro_aload_n (pc := 40) 0 dX12_clause_40 rfl rfl ?_
    refine ro_dup (pc := 41) dX12_clause_41 rfl ?_
    refine gf_X12_3 (pc := 42) wd_1325 dX12_clause_42 ?_
    refine ro_iconst (v := 1) (pc := 45) dX12_clause_45 (by decide) ?_
    refine ro_iadd (pc := 46) dX12_clause_46 ?_
    refine pf_X12_3 (pc := 47) wd_1325 dX12_clause_47 ?_
    refine ro_bnh (fun h4 => ?_)
    refine ro_aload_n (pc := 50) 0 dX12_clause_50 rfl rfl ?_
    refine gf_X12_4 (pc := 51) wd_1326 dX12_clause_51 ?_
    refine ro_iconst (v := (-1)) (pc := 54) dX12_clause_54 (by decide) ?_
    refine ro_jn (pcj := 71) (lvs := fun (s : mu_H) => [(0, .ref (xa X 51)), (1, .int x1)]) (hs := fun (s : mu_H) => s) (sts := fun (s : mu_H) => []) (fun h6 => ?_) (fun j5 hj5 => ?_)
    · try dsimp only
      refine ro_aload_n (pc := 71) 0 dX12_clause_71 rfl rfl ?_
      refine ro_dup (pc := 72) dX12_clause_72 rfl ?_
      refine gf_X12_3 (pc := 73) wd_1325 dX12_clause_73 ?_
      refine ro_iconst (v := 1) (pc := 76) dX12_clause_76 (by decide) ?_
      refine ro_iadd (pc := 77) dX12_clause_77 ?_
      refine pf_X12_3 (pc := 78) wd_1325 dX12_clause_78 ?_
      refine ro_bnh (fun h7 => ?_)
      refine ro_aload_n (pc := 81) 0 dX12_clause_81 rfl rfl ?_
      refine gf_X12_4 (pc := 82) wd_1326 dX12_clause_82 ?_
      refine ro_iconst (v := (-1)) (pc := 85) dX12_clause_85 (by decide) ?_
      refine ro_icmp_eq (tgt := 90) (pc := 86) dX12_clause_86 (by decide) (fun _ => ?_) (fun _ => ?_)
      · skip
        refine ro_aload_n (pc := 90) 0 dX12_clause_90 rfl rfl ?_
        refine gf_X12_10 (pc := 91) wd_1332 dX12_clause_91 ?_
        refine ro_iload_n (pc := 94) 1 dX12_clause_94 rfl rfl ?_
        refine ro_aload_n (pc := 95) 0 dX12_clause_95 rfl rfl ?_
        refine gf_X12_8 (pc := 96) wd_1330 dX12_clause_96 ?_
        refine ro_aload_n (pc := 99) 0 dX12_clause_99 rfl rfl ?_
        refine gf_X12_14 (pc := 100) wd_1336 dX12_clause_100 ?_
        refine ro_iald (pc := 103) (n := 5) cl_55 cv_55 dX12_clause_103 ?_
        refine ro_iast (pc := 104) (n := 700) cl_57 cv_57 dX12_clause_104 ?_
        refine ro_bnh (fun h8 => ?_)
        refine ro_aload_n (pc := 105) 0 dX12_clause_105 rfl rfl ?_
        refine ro_cvI (pc := 106) (kc := 2) (avs := []) (st := []) ok_Mod_look wd_1488 cl_51 cv_51 rfl ⟨by decide, by decide⟩ ⟨Nat.zero_le _, Nat.zero_le _⟩ (c_Mod_look X N h8) rfl rfl (Nat.le_of_ble_eq_true rfl) dX12_clause_106 (fun x9 h10 => ?_)
        refine ro_bipush (v := 33) (pc := 109) dX12_clause_109 (by decide) ?_
        refine ro_jn (pcj := 128) (lvs := fun (s : Int32 × mu_H) => [(0, .ref (xa X 51)), (1, .int x1)]) (hs := fun (s : Int32 × mu_H) => s.2) (sts := fun (s : Int32 × mu_H) => [.int s.1]) (fun s => ?_) (fun j12 hj12 => ?_)
        · obtain ⟨x13, h14⟩ := s; try dsimp only
          refine ro_istore_n (pc := 128) (lv' := [(2, .int x13), (0, .ref (xa X 51)), (1, .int x1)]) dX12_clause_128 rfl (by decide) rfl ?_
          refine ro_iload_n (pc := 129) 0 dX12_clause_129 rfl rfl ?_
          refine ro_jn (pcj := 184) (lvs := fun (s : Int32 × mu_H) => [(0, .ref (xa X 51)), (1, .int x1), (2, .int s.1)]) (hs := fun (s : Int32 × mu_H) => s.2) (sts := fun (s : Int32 × mu_H) => []) (fun s => ?_) (fun j15 hj15 => ?_)
          · obtain ⟨x16, h17⟩ := s; try dsimp only
            refine ro_aload_n (pc := 184) 0 dX12_clause_184 rfl rfl ?_
            refine gf_X12_11 (pc := 185) wd_1333 dX12_clause_185 ?_
            refine ro_iload_n (pc := 188) 1 dX12_clause_188 rfl rfl ?_
            refine ro_aload_n (pc := 189) 0 dX12_clause_189 rfl rfl ?_
            refine gf_X12_10 (pc := 190) wd_1332 dX12_clause_190 ?_
            refine ro_iload_n (pc := 193) 1 dX12_clause_193 rfl rfl ?_
            refine ro_iald (pc := 194) (n := 700) cl_57 cv_57 dX12_clause_194 ?_
            refine ro_iast (pc := 195) (n := 700) cl_58 cv_58 dX12_clause_195 ?_
            refine ro_bnh (fun h18 => ?_)
            refine ro_iload_n (pc := 196) 2 dX12_clause_196 rfl rfl ?_
            refine ro_jn (pcj := 251) (lvs := fun (s : mu_H) => [(0, .ref (xa X 51)), (1, .int x1)]) (hs := fun (s : mu_H) => s) (sts := fun (s : mu_H) => []) (fun h20 => ?_) (fun j19 hj19 => ?_)
            · try dsimp only
              refine ro_aload_n (pc := 251) 0 dX12_clause_251 rfl rfl ?_
              refine gf_X12_12 (pc := 252) wd_1334 dX12_clause_252 ?_
              refine ro_iload_n (pc := 255) 1 dX12_clause_255 rfl rfl ?_
              refine ro_aload_n (pc := 256) 0 dX12_clause_256 rfl rfl ?_
              refine gf_X12_8 (pc := 257) wd_1330 dX12_clause_257 ?_
              refine ro_aload_n (pc := 260) 0 dX12_clause_260 rfl rfl ?_
              refine gf_X12_14 (pc := 261) wd_1336 dX12_clause_261 ?_
              refine ro_iald (pc := 264) (n := 5) cl_55 cv_55 dX12_clause_264 ?_
              refine ro_iast (pc := 265) (n := 700) cl_59 cv_59 dX12_clause_265 ?_
              refine ro_bnh (fun h21 => ?_)
              refine ro_aload_n (pc := 266) 0 dX12_clause_266 rfl rfl ?_
              refine gf_X12_9 (pc := 267) wd_1331 dX12_clause_267 ?_
              refine ro_aload_n (pc := 270) 0 dX12_clause_270 rfl rfl ?_
              refine gf_X12_14 (pc := 271) wd_1336 dX12_clause_271 ?_
              refine ro_dup2_11 (pc := 274) dX12_clause_274 rfl rfl ?_
              refine ro_iald (pc := 275) (n := 5) cl_56 cv_56 dX12_clause_275 ?_
              refine ro_iconst (v := 1) (pc := 276) dX12_clause_276 (by decide) ?_
              refine ro_iadd (pc := 277) dX12_clause_277 ?_
              refine ro_iast (pc := 278) (n := 5) cl_56 cv_56 dX12_clause_278 ?_
              refine ro_bnh (fun h22 => ?_)
              exact ro_vret (pc := 279) rfl rfl dX12_clause_279
            · skip
              refine ro_if_eq (tgt := 251) (pc := 197) dX12_clause_197 (by decide) (fun _ => ?_) (fun _ => ?_)
              · skip
                refine ro_lv [0, 1] rfl ?_
                exact hj19 h18
              · skip
                refine ro_aload_n (pc := 200) 0 dX12_clause_200 rfl rfl ?_
                refine gf_X12_4 (pc := 201) wd_1326 dX12_clause_201 ?_
                refine ro_iconst (v := (-1)) (pc := 204) dX12_clause_204 (by decide) ?_
                refine ro_icmp_ne (tgt := 251) (pc := 205) dX12_clause_205 (by decide) (fun _ => ?_) (fun _ => ?_)
                · skip
                  refine ro_lv [0, 1] rfl ?_
                  exact hj19 h18
                · skip
                  refine ro_aload_n (pc := 208) 0 dX12_clause_208 rfl rfl ?_
                  refine ro_cvI (pc := 209) (kc := 2) (avs := []) (st := []) ok_Mod_look wd_1488 cl_51 cv_51 rfl ⟨by decide, by decide⟩ ⟨Nat.zero_le _, Nat.zero_le _⟩ (c_Mod_look X N h18) rfl rfl (Nat.le_of_ble_eq_true rfl) dX12_clause_209 (fun x23 h24 => ?_)
                  refine ro_bipush (v := 63) (pc := 212) dX12_clause_212 (by decide) ?_
                  refine ro_icmp_eq (tgt := 222) (pc := 214) dX12_clause_214 (by decide) (fun _ => ?_) (fun _ => ?_)
                  · skip
                    refine ro_aload_n (pc := 222) 0 dX12_clause_222 rfl rfl ?_
                    refine ro_dup (pc := 223) dX12_clause_223 rfl ?_
                    refine gf_X12_3 (pc := 224) wd_1325 dX12_clause_224 ?_
                    refine ro_iconst (v := 1) (pc := 227) dX12_clause_227 (by decide) ?_
                    refine ro_iadd (pc := 228) dX12_clause_228 ?_
                    refine pf_X12_3 (pc := 229) wd_1325 dX12_clause_229 ?_
                    refine ro_bnh (fun h26 => ?_)
                    refine ro_aload_n (pc := 232) 0 dX12_clause_232 rfl rfl ?_
                    refine gf_X12_11 (pc := 233) wd_1333 dX12_clause_233 ?_
                    refine ro_iload_n (pc := 236) 1 dX12_clause_236 rfl rfl ?_
                    refine ro_aload_n (pc := 237) 0 dX12_clause_237 rfl rfl ?_
                    refine gf_X12_8 (pc := 238) wd_1330 dX12_clause_238 ?_
                    refine ro_aload_n (pc := 241) 0 dX12_clause_241 rfl rfl ?_
                    refine gf_X12_14 (pc := 242) wd_1336 dX12_clause_242 ?_
                    refine ro_iald (pc := 245) (n := 5) cl_55 cv_55 dX12_clause_245 ?_
                    refine ro_iast (pc := 246) (n := 700) cl_58 cv_58 dX12_clause_246 ?_
                    refine ro_bnh (fun h27 => ?_)
                    refine ro_aload_n (pc := 247) 0 dX12_clause_247 rfl rfl ?_
                    refine ro_cvV (pc := 248) (kc := 33) (avs := []) (st := []) ok_Mod_sum wd_1562 cl_51 cv_51 rfl ⟨by decide, by decide⟩ ⟨Nat.zero_le _, Nat.zero_le _⟩ (c_Mod_sum X N h27) rfl rfl (Nat.le_of_ble_eq_true rfl) dX12_clause_248 (fun h28 => ?_)
                    refine ro_lv [0, 1] rfl ?_
                    exact hj19 h28
                  · skip
                    refine ro_aload_n (pc := 217) 0 dX12_clause_217 rfl rfl ?_
                    refine ro_cvV (pc := 218) (kc := 1) (avs := []) (st := []) ok_Mod_bad wd_1519 cl_51 cv_51 rfl ⟨by decide, by decide⟩ ⟨Nat.zero_le _, Nat.zero_le _⟩ (c_Mod_bad X N h24) rfl rfl (Nat.le_of_ble_eq_true rfl) dX12_clause_218 (fun h29 => ?_)
                    exact ro_vret (pc := 221) rfl rfl dX12_clause_221
          · skip
            refine ro_if_eq (tgt := 140) (pc := 130) dX12_clause_130 (by decide) (fun _ => ?_) (fun _ => ?_)
            · skip
              refine ro_aload_n (pc := 140) 1 dX12_clause_140 rfl rfl ?_
              refine ro_cvV (pc := 141) (kc := 33) (avs := []) (st := []) ok_Mod_sum wd_1562 cl_51 cv_51 rfl ⟨by decide, by decide⟩ ⟨Nat.zero_le _, Nat.zero_le _⟩ (c_Mod_sum X N h14) rfl rfl (Nat.le_of_ble_eq_true rfl) dX12_clause_141 (fun h30 => ?_)
              refine ro_aload_n (pc := 144) 1 dX12_clause_144 rfl rfl ?_
              refine gf_X12_4 (pc := 145) wd_1326 dX12_clause_145 ?_
              refine ro_iconst (v := (-1)) (pc := 148) dX12_clause_148 (by decide) ?_
              refine ro_jn (pcj := 167) (lvs := fun (s : Int32 × mu_H) => [(0, .ref (xa X 51)), (1, .int x1)]) (hs := fun (s : Int32 × mu_H) => s.2) (sts := fun (s : Int32 × mu_H) => [.int s.1]) (fun s => ?_) (fun j31 hj31 => ?_)
              · obtain ⟨x32, h33⟩ := s; try dsimp only
                refine ro_istore_n (pc := 167) (lv' := [(2, .int x32), (0, .ref (xa X 51)), (1, .int x1)]) dX12_clause_167 rfl (by decide) rfl ?_
                refine ro_iload_n (pc := 168) 0 dX12_clause_168 rfl rfl ?_
                refine ro_if_eq (tgt := 184) (pc := 169) dX12_clause_169 (by decide) (fun _ => ?_) (fun _ => ?_)
                · skip
                  refine ro_lv [1, 2, 0] rfl ?_
                  exact hj15 (x32, h33)
                · skip
                  refine ro_aload_n (pc := 172) 1 dX12_clause_172 rfl rfl ?_
                  refine ro_cvV (pc := 173) (kc := 34) (avs := []) (st := []) ok_Mod_compare wd_1581 cl_51 cv_51 rfl ⟨by decide, by decide⟩ ⟨Nat.zero_le _, Nat.zero_le _⟩ (c_Mod_compare X N h33) rfl rfl (Nat.le_of_ble_eq_true rfl) dX12_clause_173 (fun h34 => ?_)
                  refine ro_aload_n (pc := 176) 1 dX12_clause_176 rfl rfl ?_
                  refine ro_cvV (pc := 177) (kc := 75) (avs := []) (st := []) ok_Mod_goOnAnd wd_1588 cl_51 cv_51 rfl ⟨by decide, by decide⟩ ⟨Nat.zero_le _, Nat.zero_le _⟩ (c_Mod_goOnAnd X N h34) rfl rfl (Nat.le_of_ble_eq_true rfl) dX12_clause_177 (fun h35 => ?_)
                  refine ro_aload_n (pc := 180) 1 dX12_clause_180 rfl rfl ?_
                  refine ro_cvV (pc := 181) (kc := 76) (avs := []) (st := []) ok_Mod_goOnOr wd_1592 cl_51 cv_51 rfl ⟨by decide, by decide⟩ ⟨Nat.zero_le _, Nat.zero_le _⟩ (c_Mod_goOnOr X N h35) rfl rfl (Nat.le_of_ble_eq_true rfl) dX12_clause_181 (fun h36 => ?_)
                  refine ro_lv [1, 2, 0] rfl ?_
                  exact hj15 (x32, h36)
              · skip
                refine ro_jn (pcj := 166) (lvs := fun (s : mu_H) => [(0, .ref (xa X 51)), (1, .int x1)]) (hs := fun (s : mu_H) => s) (sts := fun (s : mu_H) => []) (fun h38 => ?_) (fun j37 hj37 => ?_)
                · try dsimp only
                  refine ro_iconst (v := 0) (pc := 166) dX12_clause_166 (by decide) ?_
                  exact hj31 (0, h38)
                · skip
                  refine ro_icmp_ne (tgt := 166) (pc := 149) dX12_clause_149 (by decide) (fun _ => ?_) (fun _ => ?_)
                  · skip
                    refine ro_lv [1, 2] rfl ?_
                    exact hj37 h30
                  · skip
                    refine ro_aload_n (pc := 152) 1 dX12_clause_152 rfl rfl ?_
                    refine ro_cvI (pc := 153) (kc := 2) (avs := []) (st := []) ok_Mod_look wd_1488 cl_51 cv_51 rfl ⟨by decide, by decide⟩ ⟨Nat.zero_le _, Nat.zero_le _⟩ (c_Mod_look X N h30) rfl rfl (Nat.le_of_ble_eq_true rfl) dX12_clause_153 (fun x39 h40 => ?_)
                    refine ro_csP (pc := 156) (kc := 1) (avs := [.int x39]) (st := []) ok_Mod_isSign wd_1585 ⟨by decide, by decide⟩ ⟨Nat.zero_le _, Nat.zero_le _⟩ (c_Mod_isSign X N h40 x39) rfl rfl (Nat.le_of_ble_eq_true rfl) dX12_clause_156 (fun x42 => ?_)
                    refine ro_if_eq (tgt := 166) (pc := 159) dX12_clause_159 (by decide) (fun _ => ?_) (fun _ => ?_)
                    · skip
                      refine ro_lv [1, 2] rfl ?_
                      exact hj37 h40
                    · skip
                      refine ro_iconst (v := 1) (pc := 162) dX12_clause_162 (by decide) ?_
                      refine ro_goto (tgt := 167) (pc := 163) dX12_clause_163 (by decide) ?_
                      refine ro_lv [1, 2] rfl ?_
                      exact hj31 (1, h40)
            · skip
              refine ro_aload_n (pc := 133) 1 dX12_clause_133 rfl rfl ?_
              refine ro_cvV (pc := 134) (kc := 77) (avs := []) (st := []) ok_Mod_condition wd_1542 cl_51 cv_51 rfl ⟨by decide, by decide⟩ ⟨Nat.zero_le _, Nat.zero_le _⟩ (c_Mod_condition X N h14) rfl rfl (Nat.le_of_ble_eq_true rfl) dX12_clause_134 (fun h43 => ?_)
              refine ro_goto (tgt := 184) (pc := 137) dX12_clause_137 (by decide) ?_
              refine ro_lv [1, 2, 0] rfl ?_
              exact hj15 (x13, h43)
        · skip
          refine ro_jn (pcj := 123) (lvs := fun (s : mu_H) => [(0, .ref (xa X 51)), (1, .int x1)]) (hs := fun (s : mu_H) => s) (sts := fun (s : mu_H) => []) (fun h45 => ?_) (fun j44 hj44 => ?_)
          · try dsimp only
            refine ro_iconst (v := 1) (pc := 123) dX12_clause_123 (by decide) ?_
            refine ro_goto (tgt := 128) (pc := 124) dX12_clause_124 (by decide) ?_
            exact hj12 (1, h45)
          · skip
            refine ro_icmp_eq (tgt := 123) (pc := 111) dX12_clause_111 (by decide) (fun _ => ?_) (fun _ => ?_)
            · skip
              exact hj44 h10
            · skip
              refine ro_aload_n (pc := 114) 0 dX12_clause_114 rfl rfl ?_
              refine ro_cvI (pc := 115) (kc := 2) (avs := []) (st := []) ok_Mod_look wd_1488 cl_51 cv_51 rfl ⟨by decide, by decide⟩ ⟨Nat.zero_le _, Nat.zero_le _⟩ (c_Mod_look X N h10) rfl rfl (Nat.le_of_ble_eq_true rfl) dX12_clause_115 (fun x46 h47 => ?_)
              refine ro_bipush (v := 40) (pc := 118) dX12_clause_118 (by decide) ?_
              refine ro_icmp_ne (tgt := 127) (pc := 120) dX12_clause_120 (by decide) (fun _ => ?_) (fun _ => ?_)
              · skip
                refine ro_iconst (v := 0) (pc := 127) dX12_clause_127 (by decide) ?_
                exact hj12 (0, h47)
              · skip
                exact hj44 h47
      · skip
        exact ro_vret (pc := 89) rfl rfl dX12_clause_89
    · skip
      refine ro_icmp_ne (tgt := 71) (pc := 55) dX12_clause_55 (by decide) (fun _ => ?_) (fun _ => ?_)
      · skip
        exact hj5 h4
      · skip
        refine ro_aload_n (pc := 58) 0 dX12_clause_58 rfl rfl ?_
        refine ro_cvI (pc := 59) (kc := 2) (avs := []) (st := []) ok_Mod_look wd_1488 cl_51 cv_51 rfl ⟨by decide, by decide⟩ ⟨Nat.zero_le _, Nat.zero_le _⟩ (c_Mod_look X N h4) rfl rfl (Nat.le_of_ble_eq_true rfl) dX12_clause_59 (fun x49 h50 => ?_)
        refine ro_bipush (v := 58) (pc := 62) dX12_clause_62 (by decide) ?_
        refine ro_icmp_eq (tgt := 71) (pc := 64) dX12_clause_64 (by decide) (fun _ => ?_) (fun _ => ?_)
        · skip
          exact hj5 h50
        · skip
          refine ro_aload_n (pc := 67) 0 dX12_clause_67 rfl rfl ?_
          refine ro_cvV (pc := 68) (kc := 1) (avs := []) (st := []) ok_Mod_bad wd_1519 cl_51 cv_51 rfl ⟨by decide, by decide⟩ ⟨Nat.zero_le _, Nat.zero_le _⟩ (c_Mod_bad X N h50) rfl rfl (Nat.le_of_ble_eq_true rfl) dX12_clause_68 (fun h52 => ?_)
          exact hj5 h52
  · skip
    refine ro_icmp_ne (tgt := 40) (pc := 24) dX12_clause_24 (by decide) (fun _ => ?_) (fun _ => ?_)
    · skip
      refine ro_lv [1, 0] rfl ?_
      exact hj2 h
    · skip
      refine ro_aload_n (pc := 27) 1 dX12_clause_27 rfl rfl ?_
      refine ro_cvI (pc := 28) (kc := 2) (avs := []) (st := []) ok_Mod_look wd_1488 cl_51 cv_51 rfl ⟨by decide, by decide⟩ ⟨Nat.zero_le _, Nat.zero_le _⟩ (c_Mod_look X N h) rfl rfl (Nat.le_of_ble_eq_true rfl) dX12_clause_28 (fun x53 h54 => ?_)
      refine ro_bipush (v := 121) (pc := 31) dX12_clause_31 (by decide) ?_
      refine ro_icmp_eq (tgt := 40) (pc := 33) dX12_clause_33 (by decide) (fun _ => ?_) (fun _ => ?_)
      · skip
        refine ro_lv [1, 0] rfl ?_
        exact hj2 h54
      · skip
        refine ro_aload_n (pc := 36) 1 dX12_clause_36 rfl rfl ?_
        refine ro_cvV (pc := 37) (kc := 1) (avs := []) (st := []) ok_Mod_bad wd_1519 cl_51 cv_51 rfl ⟨by decide, by decide⟩ ⟨Nat.zero_le _, Nat.zero_le _⟩ (c_Mod_bad X N h54) rfl rfl (Nat.le_of_ble_eq_true rfl) dX12_clause_37 (fun h56 => ?_)
        refine ro_lv [1, 0] rfl ?_
        exact hj2 h56
theorem c_Mod_clause (X : mu_X) (N : Nat) (h : mu_H) : ∀ r, f_Mod_clause N h = some r → mV X m_Mod_clause 78 [.ref (xa X 51)] h r := fun r hr => mV_of (by decide) rfl (Nat.le_of_ble_eq_true rfl) rfl (cb_Mod_clause X N h r hr)
set_option maxRecDepth 20000 in
theorem cb_Mod_sumOf (X : mu_X) (N : Nat) (h : mu_H) (a1 : Int32) (a2 : Int32) : aG X m_Mod_sumOf (rmk 1) (fun _ => ax X) (fun _ _ _ => True) 0 0 (fun r : Int32 => qI X r h) (f_Mod_sumOf N h a1 a2) 0 [(0, .ref (xa X 51)), (1, .int a1), (2, .int a2)] [] h := by
  unfold f_Mod_sumOf
  refine ro_iconst (v := 0) (pc := 0) dX12_sumOf_0 (by decide) ?_
  refine ro_istore_n (pc := 1) (lv' := [(3, .int 0), (0, .ref (xa X 51)), (1, .int a1), (2, .int a2)]) dX12_sumOf_1 rfl (by decide) rfl ?_
  refine ro_iconst (v := 0) (pc := 2) dX12_sumOf_2 (by decide) ?_
  refine ro_istore (pc := 3) (lv' := [(4, .int 0), (3, .int 0), (0, .ref (xa X 51)), (1, .int a1), (2, .int a2)]) dX12_sumOf_3 (by decide) rfl ?_
  refine ro_lv [2, 3, 4, 1, 0] rfl ?_
  refine ro_lp (pc := 5) (lvs := fun (s : Int32 × Int32) => [(0, .ref (xa X 51)), (1, .int a1), (2, .int a2), (3, .int s.1), (4, .int s.2)]) (hs := fun (s : Int32 × Int32) => h) (fun rec1 hrec1 s => ?_) N (0, 0)
  obtain ⟨x2, x3⟩ := s; unfold f_Mod_sumOf_L5; try dsimp only
  refine ro_iload (pc := 5) 4 dX12_sumOf_5 rfl ?_
  refine ro_iload_n (pc := 7) 2 dX12_sumOf_7 rfl rfl ?_
  refine ro_icmp_ge (tgt := 29) (pc := 8) dX12_sumOf_8 (by decide) (fun _ => ?_) (fun _ => ?_)
  · skip
    refine ro_iload_n (pc := 29) 3 dX12_sumOf_29 rfl rfl ?_
    exact ro_iret (pc := 30) rfl rfl dX12_sumOf_30
  · skip
    refine ro_iload_n (pc := 11) 3 dX12_sumOf_11 rfl rfl ?_
    refine ro_aload_n (pc := 12) 0 dX12_sumOf_12 rfl rfl ?_
    refine gf_X12_27 (pc := 13) wd_1349 dX12_sumOf_13 ?_
    refine ro_iload_n (pc := 16) 1 dX12_sumOf_16 rfl rfl ?_
    refine ro_iload (pc := 17) 4 dX12_sumOf_17 rfl ?_
    refine ro_iadd (pc := 19) dX12_sumOf_19 ?_
    refine ro_iald (pc := 20) (n := 214) cl_68 cv_68 dX12_sumOf_20 ?_
    refine ro_iadd (pc := 21) dX12_sumOf_21 ?_
    refine ro_bn (fun x4 => ?_)
    refine ro_istore_n (pc := 22) (lv' := [(3, .int x4), (0, .ref (xa X 51)), (1, .int a1), (2, .int a2), (4, .int x3)]) dX12_sumOf_22 rfl (by decide) rfl ?_
    refine ro_iinc (pc := 23) (v := x3 + 1) (lv' := [(4, .int (x3 + 1)), (3, .int x4), (0, .ref (xa X 51)), (1, .int a1), (2, .int a2)]) 4 dX12_sumOf_23 rfl rfl (by decide) rfl ?_
    refine ro_goto (tgt := 5) (pc := 26) dX12_sumOf_26 (by decide) ?_
    refine ro_lv [2, 3, 4, 1, 0] rfl ?_
    exact hrec1 (x4, x3 + 1)
theorem c_Mod_sumOf (X : mu_X) (N : Nat) (h : mu_H) (a1 : Int32) (a2 : Int32) : ∀ r, f_Mod_sumOf N h a1 a2 = some r → mI X m_Mod_sumOf 1 [.ref (xa X 51), .int a1, .int a2] h r h := fun r hr => mI_of (by decide) rfl (Nat.le_of_ble_eq_true rfl) rfl (cb_Mod_sumOf X N h a1 a2 r hr)
