def m_Mod_laySteps : mu_M := (RX12, yX12_laySteps, cX12_laySteps, 3, none)
theorem ok_Mod_laySteps : mOKv m_Mod_laySteps 0 := ⟨wd_1614, wd_60, wd_107, wd_1615, by decide, by decide, by decide +kernel⟩
def m_Mod_tryWay : mu_M := (RX12, yX12_tryWay, cX12_tryWay, 8, none)
theorem ok_Mod_tryWay : mOKv m_Mod_tryWay 5 := ⟨wd_1789, wd_83, wd_107, wd_1790, by decide, by decide, by decide +kernel⟩
def m_Mod_layWay : mu_M := (RX12, yX12_layWay, cX12_layWay, 3, none)
theorem ok_Mod_layWay : mOKv m_Mod_layWay 2 := ⟨wd_1785, wd_82, wd_107, wd_1786, by decide, by decide, by decide +kernel⟩
def m_Mod_least : mu_M := (RX12, yX12_least, cX12_least, 5, some .int)
theorem ok_Mod_least : mOKv m_Mod_least 3 := ⟨wd_1772, wd_1773, wd_107, wd_1774, by decide, by decide, by decide +kernel⟩
def m_Mod_log : mu_M := (RX12, yX12_log, cX12_log, 3, some .int)
theorem ok_Mod_log : mOKv m_Mod_log 2 := ⟨wd_1768, wd_1769, wd_107, wd_1770, by decide, by decide, by decide +kernel⟩
def m_Mod_neighbours : mu_M := (RX12, yX12_neighbours, cX12_neighbours, 4, some .int)
theorem ok_Mod_neighbours : mOKv m_Mod_neighbours 1 := ⟨wd_1909, wd_1910, wd_107, wd_1911, by decide, by decide, by decide +kernel⟩
def m_Mod_odds : mu_M := (RX12, yX12_odds, cX12_odds, 9, some .int)
theorem ok_Mod_odds : mOKv m_Mod_odds 3 := ⟨wd_1887, wd_1888, wd_107, wd_1889, by decide, by decide, by decide +kernel⟩
def m_Mod_passSeason : mu_M := (RX12, yX12_passSeason, cX12_passSeason, 3, none)
theorem ok_Mod_passSeason : mOKv m_Mod_passSeason 0 := ⟨wd_1735, wd_76, wd_107, wd_1736, by decide, by decide, by decide +kernel⟩
def m_Mod_pay : mu_M := (RX12, yX12_pay, cX12_pay, 3, some .int)
theorem ok_Mod_pay : mOKv m_Mod_pay 2 := ⟨wd_1714, wd_1715, wd_107, wd_1716, by decide, by decide, by decide +kernel⟩
def m_Mod_rests : mu_M := (RX12, yX12_rests, cX12_rests, 8, some .int)
theorem ok_Mod_rests : mOKv m_Mod_rests 4 := ⟨wd_1816, wd_1817, wd_107, wd_1818, by decide, by decide, by decide +kernel⟩
def m_Mod_roadOf : mu_M := (RX12, yX12_roadOf, cX12_roadOf, 2, some .int)
theorem ok_Mod_roadOf : mOKv m_Mod_roadOf 1 := ⟨wd_1829, wd_87, wd_107, wd_1830, by decide, by decide, by decide +kernel⟩
def m_Mod_road : mu_M := (RX12, yX12_road, cX12_road, 2, some .int)
theorem ok_Mod_road : mOKv m_Mod_road 1 := ⟨wd_1824, wd_1825, wd_107, wd_1826, by decide, by decide, by decide +kernel⟩
def m_Mod_rule : mu_M := (RX12, yX12_rule, cX12_rule, 2, some .int)
theorem ok_Mod_rule : mOKv m_Mod_rule 1 := ⟨wd_1619, wd_1620, wd_107, wd_1621, by decide, by decide, by decide +kernel⟩
def m_Mod_seasons : mu_M := (RX12, yX12_seasons, cX12_seasons, 3, some .int)
theorem ok_Mod_seasons : mOKv m_Mod_seasons 1 := ⟨wd_1726, wd_1727, wd_107, wd_1728, by decide, by decide, by decide +kernel⟩
def m_Mod_seen : mu_M := (RX12, yX12_seen, cX12_seen, 3, some .int)
theorem ok_Mod_seen : mOKv m_Mod_seen 2 := ⟨wd_1848, wd_1849, wd_107, wd_1850, by decide, by decide, by decide +kernel⟩
def m_Mod_useOf : mu_M := (RX12, yX12_useOf, cX12_useOf, 4, some .int)
theorem ok_Mod_useOf : mOKv m_Mod_useOf 1 := ⟨wd_1841, wd_89, wd_107, wd_1842, by decide, by decide, by decide +kernel⟩
def m_Mod_useOfAll : mu_M := (RX12, yX12_useOfAll, cX12_useOfAll, 3, some .int)
theorem ok_Mod_useOfAll : mOKv m_Mod_useOfAll 0 := ⟨wd_1837, wd_88, wd_107, wd_1838, by decide, by decide, by decide +kernel⟩
def m_Mod_shares : mu_M := (RX12, yX12_shares, cX12_shares, 4, some .int)
theorem ok_Mod_shares : mOKv m_Mod_shares 2 := ⟨wd_1832, wd_1833, wd_107, wd_1834, by decide, by decide, by decide +kernel⟩
def m_Mod_status : mu_M := (RX12, yX12_status, cX12_status, 2, some .int)
theorem ok_Mod_status : mOKv m_Mod_status 1 := ⟨wd_1760, wd_1761, wd_107, wd_1762, by decide, by decide, by decide +kernel⟩
def m_Mod_stretch : mu_M := (RX12, yX12_stretch, cX12_stretch, 3, some .int)
theorem ok_Mod_stretch : mOKv m_Mod_stretch 2 := ⟨wd_1623, wd_1624, wd_107, wd_1625, by decide, by decide, by decide +kernel⟩
def m_Mod_takeParish : mu_M := (RX12, yX12_takeParish, cX12_takeParish, 2, some .int)
theorem ok_Mod_takeParish : mOKv m_Mod_takeParish 0 := ⟨wd_1606, wd_58, wd_107, wd_1607, by decide, by decide, by decide +kernel⟩
def m_Mod_text : mu_M := (RX12, yX12_text, cX12_text, 2, some .int)
theorem ok_Mod_text : mOKv m_Mod_text 1 := ⟨wd_1601, wd_1602, wd_107, wd_1603, by decide, by decide, by decide +kernel⟩
def m_Mod_thrown : mu_M := (RX12, yX12_thrown, cX12_thrown, 1, some .int)
theorem ok_Mod_thrown : mOKv m_Mod_thrown 0 := ⟨wd_1463, wd_1464, wd_107, wd_1465, by decide, by decide, by decide +kernel⟩
def m_Mod_toll : mu_M := (RX12, yX12_toll, cX12_toll, 5, some .int)
theorem ok_Mod_toll : mOKv m_Mod_toll 2 := ⟨wd_1844, wd_1845, wd_107, wd_1846, by decide, by decide, by decide +kernel⟩
def m_Mod_undo : mu_M := (RX12, yX12_undo, cX12_undo, 2, some .int)
theorem ok_Mod_undo : mOKv m_Mod_undo 0 := ⟨wd_1764, wd_1765, wd_107, wd_1766, by decide, by decide, by decide +kernel⟩
def m_Mod_way : mu_M := (RX12, yX12_way, cX12_way, 4, some .int)
theorem ok_Mod_way : mOKv m_Mod_way 3 := ⟨wd_1780, wd_1781, wd_107, wd_1782, by decide, by decide, by decide +kernel⟩
def m_Mod_whose : mu_M := (RX12, yX12_whose, cX12_whose, 6, some .int)
theorem ok_Mod_whose : mOKv m_Mod_whose 2 := ⟨wd_1875, wd_1876, wd_107, wd_1877, by decide, by decide, by decide +kernel⟩
def m_Mod_work : mu_M := (RX12, yX12_work, cX12_work, 5, some .int)
theorem ok_Mod_work : mOKv m_Mod_work 3 := ⟨wd_1698, wd_1699, wd_107, wd_1700, by decide, by decide, by decide +kernel⟩
def m_Mod_worst : mu_M := (RX12, yX12_worst, cX12_worst, 3, some .int)
theorem ok_Mod_worst : mOKv m_Mod_worst 0 := ⟨wd_1893, wd_1894, wd_107, wd_1895, by decide, by decide, by decide +kernel⟩
def m_Mod_worth : mu_M := (RX12, yX12_worth, cX12_worth, 4, some .int)
theorem ok_Mod_worth : mOKv m_Mod_worth 1 := ⟨wd_1792, wd_1793, wd_107, wd_1794, by decide, by decide, by decide +kernel⟩
def m_Mod_years : mu_M := (RX12, yX12_years, cX12_years, 6, some .int)
theorem ok_Mod_years : mOKv m_Mod_years 2 := ⟨wd_1746, wd_1747, wd_107, wd_1748, by decide, by decide, by decide +kernel⟩
def f_Mod_laySteps_L108 (x6 : Int32) (k8 : mu_H → Option mu_H) (rec10 : (Int32 × mu_H) → Option mu_H) : (Int32 × mu_H) → Option mu_H := fun ((x11, h12) : Int32 × mu_H) =>
  if 64 ≤ x11 then
    k8 h12
  else
    gd (ix x11 64) <|
    gd (ix (((x11 / 8) * 8) + x6) 64) <|
    gd (ix ((8 * x6) + (x11 - x11 / 8 * 8)) 64) <|
    gd (ix x11 64) <|
    bn (ui h12 70 x11.toNatClampNeg (z_mmin (h12.1 70 x11.toNatClampNeg) ((h12.1 70 (((x11 / 8) * 8) + x6).toNatClampNeg) + (h12.1 70 ((8 * x6) + (x11 - x11 / 8 * 8)).toNatClampNeg)))) fun h13 =>
    rec10 (x11 + 1, h13)
def f_Mod_laySteps_L100 (N : Nat) (rec5 : (Int32 × mu_H) → Option mu_H) : (Int32 × mu_H) → Option mu_H := fun ((x6, h7) : Int32 × mu_H) =>
  if 8 ≤ x6 then
    some h7
  else
    jn (fun (h9 : mu_H) =>
      rec5 (x6 + 1, h9)) fun k8 =>
    lp (f_Mod_laySteps_L108 x6 k8) N (0, h7)
def f_Mod_laySteps_L40 (N : Nat) (k3 : mu_H → Option mu_H) (rec14 : (Int32 × mu_H) → Option mu_H) : (Int32 × mu_H) → Option mu_H := fun ((x15, h16) : Int32 × mu_H) =>
  if h16.1 51 25 ≤ x15 then
    k3 h16
  else
    (f_Mod_of N h16 x15 0).bind fun x17 =>
    (f_Mod_of N h16 x15 1).bind fun x18 =>
    gd (ix ((8 * x17) + x18) 64) <|
    bn (ui h16 70 ((8 * x17) + x18).toNatClampNeg 1) fun h19 =>
    (f_Mod_of N h19 x15 1).bind fun x20 =>
    (f_Mod_of N h19 x15 0).bind fun x21 =>
    gd (ix ((8 * x20) + x21) 64) <|
    bn (ui h19 70 ((8 * x20) + x21).toNatClampNeg 1) fun h22 =>
    rec14 (x15 + 1, h22)
def f_Mod_laySteps_L2 (k1 : mu_H → Option mu_H) (rec23 : (Int32 × mu_H) → Option mu_H) : (Int32 × mu_H) → Option mu_H := fun ((x24, h25) : Int32 × mu_H) =>
  if 64 ≤ x24 then
    k1 h25
  else
    jn (fun (x27 : Int32) =>
      gd (ix x24 64) <|
      bn (ui h25 70 x24.toNatClampNeg x27) fun h28 =>
      rec23 (x24 + 1, h28)) fun j26 =>
    if x24 / 8 = x24 - x24 / 8 * 8 then
      j26 0
    else
      j26 1000000
def f_Mod_laySteps (N : Nat) (h : mu_H) : Option mu_H :=
  jn (fun (h2 : mu_H) =>
    jn (fun (h4 : mu_H) =>
      lp (f_Mod_laySteps_L100 N) N (0, h4)) fun k3 =>
    lp (f_Mod_laySteps_L40 N k3) N (0, h2)) fun k1 =>
  lp (f_Mod_laySteps_L2 k1) N (0, h)
def f_Mod_tryWay_L56 (N : Nat) (rf : mu_H → Int32 → Int32 → Int32 → Int32 → Int32 → Option mu_H) (a1 : Int32) (a2 : Int32) (a3 : Int32) (a4 : Int32) (a5 : Int32) (rec1 : (Int32 × mu_H) → Option mu_H) : (Int32 × mu_H) → Option mu_H := fun ((x2, h3) : Int32 × mu_H) =>
  if h3.1 51 25 ≤ x2 then
    some h3
  else
    (f_Mod_of N h3 x2 0).bind fun x4 =>
    jn (fun (x6 : Int32) =>
      (f_Mod_isAt N h3 x2 a1).bind fun x7 =>
      jn (fun (h9 : mu_H) =>
        rec1 (x2 + 1, h9)) fun j8 =>
      if x7 = 0 then
        j8 h3
      else
        (f_Mod_has N h3 a3 x6).bind fun x10 =>
        if x10 = 0 then
          gd (ix (0 + x2) 214) <|
          (rf h3 x6 a2 (a3 ||| ((1 : Int32) <<< (x6 &&& 31))) (a4 ||| ((1 : Int32) <<< (x2 &&& 31))) (a5 + (h3.1 68 (0 + x2).toNatClampNeg))).bind fun h11 =>
          j8 h11
        else
          j8 h3) fun j5 =>
    if x4 = a1 then
      (f_Mod_of N h3 x2 1).bind fun x13 =>
      j5 x13
    else
      (f_Mod_of N h3 x2 0).bind fun x12 =>
      j5 x12
def f_Mod_tryWay_B (N : Nat) (rf : mu_H → Int32 → Int32 → Int32 → Int32 → Int32 → Option mu_H) (h : mu_H) (a1 : Int32) (a2 : Int32) (a3 : Int32) (a4 : Int32) (a5 : Int32) : Option mu_H :=
  if a1 = a2 then
    jn (fun (_ : Unit) =>
      bn (ui h 51 36 a4) fun h15 =>
      bn (ui h15 51 37 a5) fun h16 =>
      some h16) fun j14 =>
    if h.1 51 36 = (-1) then
      j14 ()
    else
      if a5 < h.1 51 37 then
        j14 ()
      else
        if a5 = h.1 51 37 then
          if h.1 51 36 ≤ a4 then
            some h
          else
            j14 ()
        else
          some h
  else
    lp (f_Mod_tryWay_L56 N rf a1 a2 a3 a4 a5) N (0, h)
def f_Mod_tryWay_R (N : Nat) : ((mu_H × Int32 × Int32 × Int32 × Int32 × Int32) → Option mu_H) → (mu_H × Int32 × Int32 × Int32 × Int32 × Int32) → Option mu_H := fun (rf : (mu_H × Int32 × Int32 × Int32 × Int32 × Int32) → Option mu_H) (s : mu_H × Int32 × Int32 × Int32 × Int32 × Int32) => f_Mod_tryWay_B N (fun h a1 a2 a3 a4 a5 => rf (h, a1, a2, a3, a4, a5)) s.1 s.2.1 s.2.2.1 s.2.2.2.1 s.2.2.2.2.1 s.2.2.2.2.2
def f_Mod_tryWay (N : Nat) (h : mu_H) (a1 : Int32) (a2 : Int32) (a3 : Int32) (a4 : Int32) (a5 : Int32) : Option mu_H := lp (f_Mod_tryWay_R N) 10 (h, a1, a2, a3, a4, a5)
def f_Mod_layWay (N : Nat) (h : mu_H) (a1 : Int32) (a2 : Int32) : Option mu_H :=
  bn (ui h 51 36 (-1)) fun h1 =>
  bn (ui h1 51 37 0) fun h2 =>
  (f_Mod_tryWay N h2 a1 a2 ((1 : Int32) <<< (a1 &&& 31)) 0 0).bind fun h3 =>
  some h3
def f_Mod_least_L67 (N : Nat) (a1 : Int32) (a2 : Int32) (k6 : (Int32 × mu_H) → Option (Int32 × mu_H)) (rec9 : (Int32 × mu_H) → Option (Int32 × mu_H)) : (Int32 × mu_H) → Option (Int32 × mu_H) := fun ((x10, h11) : Int32 × mu_H) =>
  if 6 < x10 then
    some ((-1), h11)
  else
    gd (ix (0 + a1) 214) <|
    bi (f_Mod_canMend N h11 a1 x10 (h11.1 68 (0 + a1).toNatClampNeg) a2 0) fun x12 h13 =>
    if x12 = 0 then
      rec9 (x10 + 1, h13)
    else
      k6 (x10, h13)
def f_Mod_least_L32 (k4 : mu_H → Option (Int32 × mu_H)) (rec15 : (Int32 × mu_H) → Option (Int32 × mu_H)) : (Int32 × mu_H) → Option (Int32 × mu_H) := fun ((x16, h17) : Int32 × mu_H) =>
  if h17.1 51 26 ≤ x16 then
    k4 h17
  else
    gd (ix (18 + x16) 214) <|
    gd (ix x16 6) <|
    bn (ui h17 72 x16.toNatClampNeg (h17.1 68 (18 + x16).toNatClampNeg)) fun h18 =>
    rec15 (x16 + 1, h18)
def f_Mod_least (N : Nat) (h : mu_H) (a1 : Int32) (a2 : Int32) (a3 : Int32) : Option (Int32 × mu_H) :=
  (f_Mod_isStretch N h a1).bind fun x1 =>
  if x1 = 0 then
    some ((-1), h)
  else
    (f_Mod_in N h a2 0 99).bind fun x2 =>
    if x2 = 0 then
      some ((-1), h)
    else
      (f_Mod_in N h a3 0 1).bind fun x3 =>
      if x3 = 0 then
        some ((-1), h)
      else
        jn (fun (h5 : mu_H) =>
          jn (fun ((x7, h8) : Int32 × mu_H) =>
            if a3 = 0 then
              some (x7, h8)
            else
              some (h8.1 51 35, h8)) fun k6 =>
          lp (f_Mod_least_L67 N a1 a2 k6) N (0, h5)) fun k4 =>
        lp (f_Mod_least_L32 k4) N (0, h)
def f_Mod_log (N : Nat) (h : mu_H) (a1 : Int32) (a2 : Int32) : Option Int32 :=
  gd (ix 33 214) <|
  (f_Mod_in N h a1 0 ((h.1 68 (33 : Int32).toNatClampNeg) - 1)).bind fun x1 =>
  if x1 = 0 then
    some (-1)
  else
    (f_Mod_in N h a2 0 2).bind fun x2 =>
    if x2 = 0 then
      some (-1)
    else
      gd (ix 33 214) <|
      gd (ix ((34 + (3 * (((h.1 68 (33 : Int32).toNatClampNeg) - 1) - a1))) + a2) 214) <|
      some (h.1 68 ((34 + (3 * (((h.1 68 (33 : Int32).toNatClampNeg) - 1) - a1))) + a2).toNatClampNeg)
def f_Mod_neighbours_L14 (N : Nat) (h : mu_H) (a1 : Int32) (rec2 : (Int32 × Int32) → Option Int32) : (Int32 × Int32) → Option Int32 := fun ((x3, x4) : Int32 × Int32) =>
  if h.1 51 25 ≤ x4 then
    some x3
  else
    jn (fun (x6 : Int32) =>
      bn (x3 ||| x6) fun x7 =>
      rec2 (x7, x4 + 1)) fun j5 =>
    jn (fun (_ : Unit) =>
      j5 0) fun j8 =>
    if x4 = a1 then
      j8 ()
    else
      (f_Mod_of N h a1 0).bind fun x9 =>
      (f_Mod_isAt N h x4 x9).bind fun x10 =>
      jn (fun (_ : Unit) =>
        j5 ((1 : Int32) <<< (x4 &&& 31))) fun j11 =>
      if x10 = 0 then
        (f_Mod_of N h a1 1).bind fun x12 =>
        (f_Mod_isAt N h x4 x12).bind fun x13 =>
        if x13 = 0 then
          j8 ()
        else
          j11 ()
      else
        j11 ()
def f_Mod_neighbours (N : Nat) (h : mu_H) (a1 : Int32) : Option Int32 :=
  (f_Mod_isStretch N h a1).bind fun x1 =>
  if x1 = 0 then
    some (-1)
  else
    lp (f_Mod_neighbours_L14 N h a1) N (0, 0)
def f_Mod_odds_L251 (h7 : mu_H) (k8 : Int64 → Option (Int32 × mu_H)) (rec10 : (Int64 × Int32) → Option (Int32 × mu_H)) : (Int64 × Int32) → Option (Int32 × mu_H) := fun ((z11, x12) : Int64 × Int32) =>
  if 99 < x12 then
    k8 z11
  else
    gd (ix x12 100) <|
    bn (z11 + (h7.2 76 x12.toNatClampNeg)) fun z13 =>
    rec10 (z13, x12 + 1)
def f_Mod_odds_L211 (k21 : mu_H → Option (Int32 × mu_H)) (rec23 : (Int32 × mu_H) → Option (Int32 × mu_H)) : (Int32 × mu_H) → Option (Int32 × mu_H) := fun ((x24, h25) : Int32 × mu_H) =>
  if 99 < x24 then
    k21 h25
  else
    gd (ix x24 100) <|
    gd (ix x24 100) <|
    bn (ul h25 76 x24.toNatClampNeg (h25.2 77 x24.toNatClampNeg)) fun h26 =>
    rec23 (x24 + 1, h26)
def f_Mod_odds_L109 (N : Nat) (a1 : Int32) (a3 : Int32) (k19 : mu_H → Option (Int32 × mu_H)) (rec27 : (Int32 × mu_H) → Option (Int32 × mu_H)) : (Int32 × mu_H) → Option (Int32 × mu_H) := fun ((x28, h29) : Int32 × mu_H) =>
  if 99 < x28 then
    k19 h29
  else
    gd (ix x28 100) <|
    bn (((h29.2 76 x28.toNatClampNeg) * a3.toInt64) / 100) fun z30 =>
    (f_Mod_of N h29 a1 4).bind fun x31 =>
    bn (x28 + x31) fun x32 =>
    gd (ix 1 3) <|
    gd (ix (9 + a1) 214) <|
    gd (ix (z_mmin 99 ((x32 + (h29.1 65 (1 : Int32).toNatClampNeg)) + (h29.1 68 (9 + a1).toNatClampNeg))) 100) <|
    gd (ix (z_mmin 99 ((x32 + (h29.1 65 (1 : Int32).toNatClampNeg)) + (h29.1 68 (9 + a1).toNatClampNeg))) 100) <|
    bn (ul h29 77 (z_mmin 99 ((x32 + (h29.1 65 (1 : Int32).toNatClampNeg)) + (h29.1 68 (9 + a1).toNatClampNeg))).toNatClampNeg ((h29.2 77 (z_mmin 99 ((x32 + (h29.1 65 (1 : Int32).toNatClampNeg)) + (h29.1 68 (9 + a1).toNatClampNeg))).toNatClampNeg) + z30)) fun h33 =>
    gd (ix (z_mmin 99 x32) 100) <|
    gd (ix x28 100) <|
    gd (ix (z_mmin 99 x32) 100) <|
    bn (ul h33 77 (z_mmin 99 x32).toNatClampNeg ((h33.2 77 (z_mmin 99 x32).toNatClampNeg) + ((h33.2 76 x28.toNatClampNeg) - z30))) fun h34 =>
    rec27 (x28 + 1, h34)
def f_Mod_odds_L85 (k17 : mu_H → Option (Int32 × mu_H)) (rec35 : (Int32 × mu_H) → Option (Int32 × mu_H)) : (Int32 × mu_H) → Option (Int32 × mu_H) := fun ((x36, h37) : Int32 × mu_H) =>
  if 99 < x36 then
    k17 h37
  else
    gd (ix x36 100) <|
    bn (ul h37 77 x36.toNatClampNeg 0) fun h38 =>
    rec35 (x36 + 1, h38)
def f_Mod_odds_L76 (N : Nat) (a1 : Int32) (a2 : Int32) (a3 : Int32) (k6 : mu_H → Option (Int32 × mu_H)) (rec14 : (Int32 × mu_H) → Option (Int32 × mu_H)) : (Int32 × mu_H) → Option (Int32 × mu_H) := fun ((x15, h16) : Int32 × mu_H) =>
  if a2 ≤ x15 then
    k6 h16
  else
    jn (fun (h18 : mu_H) =>
      jn (fun (h20 : mu_H) =>
        jn (fun (h22 : mu_H) =>
          rec14 (x15 + 1, h22)) fun k21 =>
        lp (f_Mod_odds_L211 k21) N (0, h20)) fun k19 =>
      lp (f_Mod_odds_L109 N a1 a3 k19) N (0, h18)) fun k17 =>
    lp (f_Mod_odds_L85 k17) N (0, h16)
def f_Mod_odds_L33 (a1 : Int32) (k4 : mu_H → Option (Int32 × mu_H)) (rec39 : (Int32 × mu_H) → Option (Int32 × mu_H)) : (Int32 × mu_H) → Option (Int32 × mu_H) := fun ((x40, h41) : Int32 × mu_H) =>
  if 99 < x40 then
    k4 h41
  else
    gd (ix (0 + a1) 214) <|
    jn (fun (z43 : Int64) =>
      gd (ix x40 100) <|
      bn (ul h41 76 x40.toNatClampNeg z43) fun h44 =>
      rec39 (x40 + 1, h44)) fun j42 =>
    if x40 = h41.1 68 (0 + a1).toNatClampNeg then
      j42 1000000000
    else
      j42 0
def f_Mod_odds (N : Nat) (h : mu_H) (a1 : Int32) (a2 : Int32) (a3 : Int32) : Option (Int32 × mu_H) :=
  (f_Mod_isStretch N h a1).bind fun x1 =>
  if x1 = 0 then
    some ((-1), h)
  else
    (f_Mod_in N h a2 0 40).bind fun x2 =>
    if x2 = 0 then
      some ((-1), h)
    else
      (f_Mod_in N h a3 0 100).bind fun x3 =>
      if x3 = 0 then
        some ((-1), h)
      else
        jn (fun (h5 : mu_H) =>
          jn (fun (h7 : mu_H) =>
            jn (fun (z9 : Int64) =>
              some (z9.toInt32, h7)) fun k8 =>
            lp (f_Mod_odds_L251 h7 k8) N (0, 60)) fun k6 =>
          lp (f_Mod_odds_L76 N a1 a2 a3 k6) N (0, h5)) fun k4 =>
        lp (f_Mod_odds_L33 a1 k4) N (0, h)
def f_Mod_passSeason_L152 (k16 : mu_H → Option mu_H) (rec19 : (Int32 × mu_H) → Option mu_H) : (Int32 × mu_H) → Option mu_H := fun ((x20, h21) : Int32 × mu_H) =>
  if 180 ≤ x20 then
    k16 h21
  else
    gd (ix (34 + x20) 214) <|
    gd (ix ((34 + x20) - 3) 214) <|
    bn (ui h21 68 ((34 + x20) - 3).toNatClampNeg (h21.1 68 (34 + x20).toNatClampNeg)) fun h22 =>
    rec19 (x20 + 1, h22)
def f_Mod_passSeason_L103 (h4 : mu_H) (k5 : Int32 → Option mu_H) (rec23 : (Int32 × Int32) → Option mu_H) : (Int32 × Int32) → Option mu_H := fun ((x24, x25) : Int32 × Int32) =>
  if h4.1 51 25 ≤ x25 then
    k5 x24
  else
    gd (ix (0 + x25) 214) <|
    jn (fun (x27 : Int32) =>
      bn (x24 + x27) fun x28 =>
      rec23 (x28, x25 + 1)) fun j26 =>
    if h4.1 68 (0 + x25).toNatClampNeg < 60 then
      j26 0
    else
      j26 1
def f_Mod_passSeason_L24 (k3 : mu_H → Option mu_H) (rec29 : (Int32 × mu_H) → Option mu_H) : (Int32 × mu_H) → Option mu_H := fun ((x30, h31) : Int32 × mu_H) =>
  if h31.1 51 26 ≤ x30 then
    k3 h31
  else
    gd (ix 32 214) <|
    if (h31.1 68 (32 : Int32).toNatClampNeg) - (h31.1 68 (32 : Int32).toNatClampNeg) / 4 * 4 = 0 then
      gd (ix (24 + x30) 214) <|
      gd (ix (18 + x30) 214) <|
      gd (ix (24 + x30) 214) <|
      bn (ui h31 68 (24 + x30).toNatClampNeg (z_mmin 999 ((h31.1 68 (24 + x30).toNatClampNeg) + (h31.1 68 (18 + x30).toNatClampNeg)))) fun h32 =>
      gd (ix 0 3) <|
      gd (ix (18 + x30) 214) <|
      bn (ui h32 68 (18 + x30).toNatClampNeg (h32.1 65 (0 : Int32).toNatClampNeg)) fun h33 =>
      rec29 (x30 + 1, h33)
    else
      k3 h31
def f_Mod_passSeason (N : Nat) (h : mu_H) : Option mu_H :=
  gd (ix 32 214) <|
  (f_Mod_wearOn N h (h.1 68 (32 : Int32).toNatClampNeg)).bind fun h1 =>
  gd (ix 32 214) <|
  gd (ix 32 214) <|
  bn (ui h1 68 (32 : Int32).toNatClampNeg ((h1.1 68 (32 : Int32).toNatClampNeg) + 1)) fun h2 =>
  jn (fun (h4 : mu_H) =>
    jn (fun (x6 : Int32) =>
      gd (ix 33 214) <|
      jn (fun (h8 : mu_H) =>
        gd (ix 33 214) <|
        bn (34 + (3 * (h8.1 68 (33 : Int32).toNatClampNeg))) fun x9 =>
        (f_Mod_sumOf N h8 0 (h8.1 51 25)).bind fun x10 =>
        gd (ix x9 214) <|
        bn (ui h8 68 x9.toNatClampNeg x10) fun h11 =>
        gd (ix (x9 + 1) 214) <|
        bn (ui h11 68 (x9 + 1).toNatClampNeg x6) fun h12 =>
        gd (ix 31 214) <|
        gd (ix (x9 + 2) 214) <|
        bn (ui h12 68 (x9 + 2).toNatClampNeg (h12.1 68 (31 : Int32).toNatClampNeg)) fun h13 =>
        gd (ix 33 214) <|
        gd (ix 33 214) <|
        bn (ui h13 68 (33 : Int32).toNatClampNeg ((h13.1 68 (33 : Int32).toNatClampNeg) + 1)) fun h14 =>
        gd (ix 31 214) <|
        bn (ui h14 68 (31 : Int32).toNatClampNeg 0) fun h15 =>
        some h15) fun j7 =>
      if h4.1 68 (33 : Int32).toNatClampNeg = 60 then
        jn (fun (h17 : mu_H) =>
          gd (ix 33 214) <|
          gd (ix 33 214) <|
          bn (ui h17 68 (33 : Int32).toNatClampNeg ((h17.1 68 (33 : Int32).toNatClampNeg) - 1)) fun h18 =>
          j7 h18) fun k16 =>
        lp (f_Mod_passSeason_L152 k16) N (3, h4)
      else
        j7 h4) fun k5 =>
    lp (f_Mod_passSeason_L103 h4 k5) N (0, 0)) fun k3 =>
  lp (f_Mod_passSeason_L24 k3) N (0, h2)
def f_Mod_pay (N : Nat) (h : mu_H) (a1 : Int32) (a2 : Int32) : Option (Int32 × mu_H) :=
  (f_Mod_isHouse N h a1).bind fun x1 =>
  jn (fun (x3 : Int32) =>
    bi (f_Mod_isRefused N h x3) fun x4 h5 =>
    if x4 = 0 then
      (f_Mod_keep N h5).bind fun h7 =>
      gd (ix (18 + a1) 214) <|
      gd (ix (18 + a1) 214) <|
      bn (ui h7 68 (18 + a1).toNatClampNeg ((h7.1 68 (18 + a1).toNatClampNeg) - a2)) fun h8 =>
      gd (ix 30 214) <|
      gd (ix 2 3) <|
      gd (ix 30 214) <|
      bn (ui h8 68 (30 : Int32).toNatClampNeg ((h8.1 68 (30 : Int32).toNatClampNeg) + (a2 * (h8.1 65 (2 : Int32).toNatClampNeg)))) fun h9 =>
      gd (ix 30 214) <|
      some (h9.1 68 (30 : Int32).toNatClampNeg, h9)
    else
      some ((-1), h5)) fun j2 =>
  if x1 = 0 then
    j2 0
  else
    (f_Mod_in N h a2 1 9).bind fun x10 =>
    if x10 = 0 then
      j2 1
    else
      gd (ix (18 + a1) 214) <|
      if a2 ≤ h.1 68 (18 + a1).toNatClampNeg then
        j2 (-1)
      else
        j2 2
def f_Mod_rests_L33 (N : Nat) (a1 : Int32) (a2 : Int32) (a3 : Int32) (a4 : Int32) (k2 : (Int32 × Int32 × mu_H) → Option (Int32 × mu_H)) (x11 : Int32) (k13 : (Int32 × mu_H) → Option (Int32 × mu_H)) (rec16 : (Int32 × Int32 × mu_H) → Option (Int32 × mu_H)) : (Int32 × Int32 × mu_H) → Option (Int32 × mu_H) := fun ((x17, x18, h19) : Int32 × Int32 × mu_H) =>
  if 3 < x18 then
    k13 (x17, h19)
  else
    (f_Mod_isGameKind N h19 x11).bind fun x20 =>
    jn (fun ((x22, h23) : Int32 × mu_H) =>
      rec16 (x22, x18 + 1, h23)) fun j21 =>
    if x20 = 0 then
      j21 (x17, h19)
    else
      (f_Mod_isGameKind N h19 x18).bind fun x24 =>
      if x24 = 0 then
        j21 (x17, h19)
      else
        bi (f_Mod_isRest N h19 a1 a2 a3 x11 x18) fun x25 h26 =>
        if x25 = 0 then
          j21 (x17, h26)
        else
          if x17 = a4 then
            k2 (x11, x18, h26)
          else
            j21 (x17 + 1, h26)
def f_Mod_rests_L24 (N : Nat) (a1 : Int32) (a2 : Int32) (a3 : Int32) (a4 : Int32) (k2 : (Int32 × Int32 × mu_H) → Option (Int32 × mu_H)) (k6 : (Int32 × mu_H) → Option (Int32 × mu_H)) (rec9 : (Int32 × Int32 × mu_H) → Option (Int32 × mu_H)) : (Int32 × Int32 × mu_H) → Option (Int32 × mu_H) := fun ((x10, x11, h12) : Int32 × Int32 × mu_H) =>
  if 3 < x11 then
    k6 (x10, h12)
  else
    jn (fun ((x14, h15) : Int32 × mu_H) =>
      rec9 (x14, x11 + 1, h15)) fun k13 =>
    lp (f_Mod_rests_L33 N a1 a2 a3 a4 k2 x11 k13) N (x10, 0, h12)
def f_Mod_rests (N : Nat) (h : mu_H) (a1 : Int32) (a2 : Int32) (a3 : Int32) (a4 : Int32) : Option (Int32 × mu_H) :=
  (f_Mod_areTwo N h a1 a2 a3).bind fun x1 =>
  if x1 = 0 then
    some ((-1), h)
  else
    if (-1) ≤ a4 then
      jn (fun ((x3, x4, h5) : Int32 × Int32 × mu_H) =>
        some ((10 * x3) + x4, h5)) fun k2 =>
      jn (fun ((x7, h8) : Int32 × mu_H) =>
        if a4 = (-1) then
          some (x7, h8)
        else
          some ((-1), h8)) fun k6 =>
      lp (f_Mod_rests_L24 N a1 a2 a3 a4 k2 k6) N (0, 0, h)
    else
      some ((-1), h)
def f_Mod_roadOf (N : Nat) (h : mu_H) (a1 : Int32) : Option (Int32 × mu_H) :=
  (f_Mod_ofHouse N h a1 0).bind fun x1 =>
  (f_Mod_layWay N h x1 0).bind fun h2 =>
  if h2.1 51 36 = (-1) then
    some (0, h2)
  else
    some (h2.1 51 36, h2)
def f_Mod_road (N : Nat) (h : mu_H) (a1 : Int32) : Option (Int32 × mu_H) :=
  (f_Mod_isHouse N h a1).bind fun x1 =>
  if x1 = 0 then
    some ((-1), h)
  else
    bi (f_Mod_roadOf N h a1) fun x2 h3 =>
    some (x2, h3)
def f_Mod_rule (N : Nat) (h : mu_H) (a1 : Int32) : Option Int32 :=
  if h.1 51 25 ≤ 0 then
    some (-1)
  else
    (f_Mod_in N h a1 0 2).bind fun x1 =>
    if x1 = 0 then
      some (-1)
    else
      gd (ix a1 3) <|
      some (h.1 65 a1.toNatClampNeg)
def f_Mod_seasons_L49 (N : Nat) (a1 : Int32) (k6 : mu_H → Option (Int32 × mu_H)) (rec8 : (Int32 × mu_H) → Option (Int32 × mu_H)) : (Int32 × mu_H) → Option (Int32 × mu_H) := fun ((x9, h10) : Int32 × mu_H) =>
  if a1 ≤ x9 then
    k6 h10
  else
    (f_Mod_keep N h10).bind fun h11 =>
    (f_Mod_passSeason N h11).bind fun h12 =>
    rec8 (x9 + 1, h12)
def f_Mod_seasons (N : Nat) (h : mu_H) (a1 : Int32) : Option (Int32 × mu_H) :=
  jn (fun (x2 : Int32) =>
    bi (f_Mod_isRefused N h x2) fun x3 h4 =>
    if x3 = 0 then
      jn (fun (h7 : mu_H) =>
        gd (ix 32 214) <|
        some (h7.1 68 (32 : Int32).toNatClampNeg, h7)) fun k6 =>
      lp (f_Mod_seasons_L49 N a1 k6) N (0, h4)
    else
      some ((-1), h4)) fun j1 =>
  if h.1 51 25 = 0 then
    j1 0
  else
    (f_Mod_in N h a1 1 60).bind fun x13 =>
    if x13 = 0 then
      j1 1
    else
      (f_Mod_areSeasons N h a1).bind fun x14 =>
      if x14 = 0 then
        j1 4
      else
        j1 (-1)
def f_Mod_seen (N : Nat) (h : mu_H) (a1 : Int32) (a2 : Int32) : Option (Int32 × mu_H) :=
  if h.1 51 25 = 0 then
    some ((-1), h)
  else
    (f_Mod_in N h a1 1 (((1 : Int32) <<< ((h.1 51 26) &&& 31)) - 1)).bind fun x1 =>
    if x1 = 0 then
      some ((-1), h)
    else
      if h.1 51 40 = 10 then
        some ((-1), h)
      else
        gd (ix (h.1 51 40) 10) <|
        bn (ui h 73 (h.1 51 40).toNatClampNeg a1) fun h2 =>
        gd (ix (h2.1 51 40) 10) <|
        bn (ui h2 74 (h2.1 51 40).toNatClampNeg (vp_nar .boolean a2)) fun h3 =>
        bn (ui h3 51 40 ((h3.1 51 40) + 1)) fun h4 =>
        some (h4.1 51 40, h4)
def f_Mod_useOf_L4 (N : Nat) (h : mu_H) (a1 : Int32) (rec1 : (Int32 × Int32) → Option Int32) : (Int32 × Int32) → Option Int32 := fun ((x2, x3) : Int32 × Int32) =>
  if h.1 51 25 ≤ x3 then
    some x2
  else
    (f_Mod_has N h a1 x3).bind fun x4 =>
    jn (fun (x6 : Int32) =>
      bn (x2 + x6) fun x7 =>
      rec1 (x7, x3 + 1)) fun j5 =>
    if x4 = 0 then
      j5 0
    else
      (f_Mod_of N h x3 4).bind fun x8 =>
      j5 x8
def f_Mod_useOf (N : Nat) (h : mu_H) (a1 : Int32) : Option Int32 :=
  lp (f_Mod_useOf_L4 N h a1) N (0, 0)
def f_Mod_useOfAll_L4 (N : Nat) (rec1 : (Int32 × Int32 × mu_H) → Option (Int32 × mu_H)) : (Int32 × Int32 × mu_H) → Option (Int32 × mu_H) := fun ((x2, x3, h4) : Int32 × Int32 × mu_H) =>
  if h4.1 51 26 ≤ x3 then
    some (x2, h4)
  else
    bi (f_Mod_roadOf N h4 x3) fun x5 h6 =>
    (f_Mod_useOf N h6 x5).bind fun x8 =>
    bn (x2 + x8) fun x9 =>
    rec1 (x9, x3 + 1, h6)
def f_Mod_useOfAll (N : Nat) (h : mu_H) : Option (Int32 × mu_H) :=
  lp (f_Mod_useOfAll_L4 N) N (0, 0, h)
def f_Mod_shares (N : Nat) (h : mu_H) (a1 : Int32) (a2 : Int32) : Option (Int32 × mu_H) :=
  (f_Mod_isHouse N h a1).bind fun x1 =>
  if x1 = 0 then
    some ((-1), h)
  else
    (f_Mod_in N h a2 0 999).bind fun x2 =>
    if x2 = 0 then
      some ((-1), h)
    else
      bi (f_Mod_useOfAll N h) fun x3 h4 =>
      if x3 = 0 then
        some (0, h4)
      else
        bi (f_Mod_roadOf N h4 a1) fun x6 h7 =>
        (f_Mod_useOf N h7 x6).bind fun x9 =>
        gd (decide (¬ x3 = 0)) <|
        some ((a2 * x9) / x3, h7)
def f_Mod_status (N : Nat) (h : mu_H) (a1 : Int32) : Option Int32 :=
  (f_Mod_in N h a1 0 4).bind fun x1 =>
  if x1 = 0 then
    some (-1)
  else
    gd (ix a1 5) <|
    some (h.1 69 a1.toNatClampNeg)
def f_Mod_stretch (N : Nat) (h : mu_H) (a1 : Int32) (a2 : Int32) : Option Int32 :=
  (f_Mod_isStretch N h a1).bind fun x1 =>
  if x1 = 0 then
    some (-1)
  else
    (f_Mod_in N h a2 0 4).bind fun x2 =>
    if x2 = 0 then
      some (-1)
    else
      if a2 = 2 then
        gd (ix (0 + a1) 214) <|
        some (h.1 68 (0 + a1).toNatClampNeg)
      else
        if a2 = 3 then
          gd (ix (9 + a1) 214) <|
          some (h.1 68 (9 + a1).toNatClampNeg)
        else
          (f_Mod_of N h a1 a2).bind fun x3 =>
          some x3
def f_Mod_takeParish_L162 (k13 : mu_H → Option (Int32 × mu_H)) (rec19 : (Int32 × mu_H) → Option (Int32 × mu_H)) : (Int32 × mu_H) → Option (Int32 × mu_H) := fun ((x20, h21) : Int32 × mu_H) =>
  if h21.1 51 26 ≤ x20 then
    k13 h21
  else
    gd (ix 0 3) <|
    gd (ix (18 + x20) 214) <|
    bn (ui h21 68 (18 + x20).toNatClampNeg (h21.1 65 (0 : Int32).toNatClampNeg)) fun h22 =>
    rec19 (x20 + 1, h22)
def f_Mod_takeParish_L117 (N : Nat) (k11 : mu_H → Option (Int32 × mu_H)) (rec23 : (Int32 × mu_H) → Option (Int32 × mu_H)) : (Int32 × mu_H) → Option (Int32 × mu_H) := fun ((x24, h25) : Int32 × mu_H) =>
  if h25.1 51 25 ≤ x24 then
    k11 h25
  else
    (f_Mod_of N h25 x24 2).bind fun x26 =>
    gd (ix (0 + x24) 214) <|
    bn (ui h25 68 (0 + x24).toNatClampNeg x26) fun h27 =>
    (f_Mod_of N h27 x24 3).bind fun x28 =>
    gd (ix (9 + x24) 214) <|
    bn (ui h27 68 (9 + x24).toNatClampNeg x28) fun h29 =>
    rec23 (x24 + 1, h29)
def f_Mod_takeParish_L95 (k9 : mu_H → Option (Int32 × mu_H)) (rec30 : (Int32 × mu_H) → Option (Int32 × mu_H)) : (Int32 × mu_H) → Option (Int32 × mu_H) := fun ((x31, h32) : Int32 × mu_H) =>
  if 214 ≤ x31 then
    k9 h32
  else
    gd (ix x31 214) <|
    bn (ui h32 68 x31.toNatClampNeg 0) fun h33 =>
    rec30 (x31 + 1, h33)
def f_Mod_takeParish_L69 (k7 : mu_H → Option (Int32 × mu_H)) (rec34 : (Int32 × mu_H) → Option (Int32 × mu_H)) : (Int32 × mu_H) → Option (Int32 × mu_H) := fun ((x35, h36) : Int32 × mu_H) =>
  if 18 ≤ x35 then
    k7 h36
  else
    gd (ix x35 18) <|
    gd (ix x35 18) <|
    bn (ui h36 67 x35.toNatClampNeg (h36.1 64 x35.toNatClampNeg)) fun h37 =>
    rec34 (x35 + 1, h37)
def f_Mod_takeParish_L43 (k5 : mu_H → Option (Int32 × mu_H)) (rec38 : (Int32 × mu_H) → Option (Int32 × mu_H)) : (Int32 × mu_H) → Option (Int32 × mu_H) := fun ((x39, h40) : Int32 × mu_H) =>
  if 45 ≤ x39 then
    k5 h40
  else
    gd (ix x39 45) <|
    gd (ix x39 45) <|
    bn (ui h40 66 x39.toNatClampNeg (h40.1 63 x39.toNatClampNeg)) fun h41 =>
    rec38 (x39 + 1, h41)
def f_Mod_takeParish_L18 (k3 : mu_H → Option (Int32 × mu_H)) (rec42 : (Int32 × mu_H) → Option (Int32 × mu_H)) : (Int32 × mu_H) → Option (Int32 × mu_H) := fun ((x43, h44) : Int32 × mu_H) =>
  if 3 ≤ x43 then
    k3 h44
  else
    gd (ix x43 3) <|
    gd (ix x43 3) <|
    bn (ui h44 65 x43.toNatClampNeg (h44.1 62 x43.toNatClampNeg)) fun h45 =>
    rec42 (x43 + 1, h45)
def f_Mod_takeParish (N : Nat) (h : mu_H) : Option (Int32 × mu_H) :=
  bn (ui h 51 25 (h.1 51 20)) fun h1 =>
  bn (ui h1 51 26 (h1.1 51 21)) fun h2 =>
  jn (fun (h4 : mu_H) =>
    jn (fun (h6 : mu_H) =>
      jn (fun (h8 : mu_H) =>
        jn (fun (h10 : mu_H) =>
          jn (fun (h12 : mu_H) =>
            jn (fun (h14 : mu_H) =>
              (f_Mod_laySteps N h14).bind fun h15 =>
              bn (ui h15 51 40 0) fun h16 =>
              bn (ui h16 51 32 0) fun h17 =>
              bn (ui h17 51 45 0) fun h18 =>
              some (h18.1 51 25, h18)) fun k13 =>
            lp (f_Mod_takeParish_L162 k13) N (0, h12)) fun k11 =>
          lp (f_Mod_takeParish_L117 N k11) N (0, h10)) fun k9 =>
        lp (f_Mod_takeParish_L95 k9) N (0, h8)) fun k7 =>
      lp (f_Mod_takeParish_L69 k7) N (0, h6)) fun k5 =>
    lp (f_Mod_takeParish_L43 k5) N (0, h4)) fun k3 =>
  lp (f_Mod_takeParish_L18 k3) N (0, h2)
def f_Mod_text (N : Nat) (h : mu_H) (a1 : Int32) : Option (Int32 × mu_H) :=
  jn (fun (h2 : mu_H) =>
    if a1 = 1 then
      if 4 ≤ h2.1 51 13 then
        some ((-1), h2)
      else
        bi (f_Mod_readLaw N h2 (h2.1 51 13)) fun x3 h4 =>
        if x3 = (-1) then
          bn (ui h4 51 2 0) fun h6 =>
          bn (ui h6 51 13 ((h6.1 51 13) + 1)) fun h7 =>
          some ((h7.1 51 13) - 1, h7)
        else
          some ((-1), h4)
    else
      some ((-1), h2)) fun j1 =>
  if a1 = 0 then
    bi (f_Mod_readParish N h) fun x8 h9 =>
    if x8 = (-1) then
      bn (ui h9 51 2 0) fun h11 =>
      bi (f_Mod_takeParish N h11) fun x12 h13 =>
      some (x12, h13)
    else
      j1 h9
  else
    j1 h
def f_Mod_thrown (N : Nat) (h : mu_H) : Option Int32 :=
  some (h.1 51 0)
def f_Mod_toll_L33 (N : Nat) (k3 : (Int32 × mu_H) → Option (Int32 × mu_H)) (rec9 : (Int32 × Int32 × mu_H) → Option (Int32 × mu_H)) : (Int32 × Int32 × mu_H) → Option (Int32 × mu_H) := fun ((x10, x11, h12) : Int32 × Int32 × mu_H) =>
  if h12.1 51 26 ≤ x11 then
    k3 (x10, h12)
  else
    bi (f_Mod_roadOf N h12 x11) fun x13 h14 =>
    (f_Mod_useOf N h14 x13).bind fun x16 =>
    bi (f_Mod_roadOf N h14 x10) fun x17 h18 =>
    (f_Mod_useOf N h18 x17).bind fun x20 =>
    jn (fun (x22 : Int32) =>
      rec9 (x22, x11 + 1, h18)) fun j21 =>
    if x16 ≤ x20 then
      j21 x10
    else
      j21 x11
def f_Mod_toll (N : Nat) (h : mu_H) (a1 : Int32) (a2 : Int32) : Option (Int32 × mu_H) :=
  if h.1 51 25 = 0 then
    some ((-1), h)
  else
    (f_Mod_in N h a1 1 9).bind fun x1 =>
    if x1 = 0 then
      some ((-1), h)
    else
      (f_Mod_in N h a2 0 1).bind fun x2 =>
      if x2 = 0 then
        some ((-1), h)
      else
        jn (fun ((x4, h5) : Int32 × mu_H) =>
          if a2 = 0 then
            some (x4, h5)
          else
            bi (f_Mod_useOfAll N h5) fun x6 h7 =>
            some (a1 * x6, h7)) fun k3 =>
        lp (f_Mod_toll_L33 N k3) N (0, 1, h)
def f_Mod_undo_L21 (k2 : mu_H → Option (Int32 × mu_H)) (rec4 : (Int32 × mu_H) → Option (Int32 × mu_H)) : (Int32 × mu_H) → Option (Int32 × mu_H) := fun ((x5, h6) : Int32 × mu_H) =>
  if 214 ≤ x5 then
    k2 h6
  else
    gd (ix ((214 * (h6.1 51 32)) + x5) 8560) <|
    gd (ix x5 214) <|
    bn (ui h6 68 x5.toNatClampNeg (h6.1 71 ((214 * (h6.1 51 32)) + x5).toNatClampNeg)) fun h7 =>
    rec4 (x5 + 1, h7)
def f_Mod_undo (N : Nat) (h : mu_H) : Option (Int32 × mu_H) :=
  if h.1 51 32 = 0 then
    some ((-1), h)
  else
    bn (ui h 51 32 ((h.1 51 32) - 1)) fun h1 =>
    jn (fun (h3 : mu_H) =>
      some (h3.1 51 32, h3)) fun k2 =>
    lp (f_Mod_undo_L21 k2) N (0, h1)
def f_Mod_way (N : Nat) (h : mu_H) (a1 : Int32) (a2 : Int32) (a3 : Int32) : Option (Int32 × mu_H) :=
  if h.1 51 25 = 0 then
    some ((-1), h)
  else
    (f_Mod_in N h a1 0 7).bind fun x1 =>
    if x1 = 0 then
      some ((-1), h)
    else
      (f_Mod_in N h a2 0 7).bind fun x2 =>
      if x2 = 0 then
        some ((-1), h)
      else
        (f_Mod_in N h a3 0 1).bind fun x3 =>
        if x3 = 0 then
          some ((-1), h)
        else
          (f_Mod_layWay N h a1 a2).bind fun h4 =>
          jn (fun (_ : Unit) =>
            some (h4.1 51 36, h4)) fun j5 =>
          if h4.1 51 36 = (-1) then
            j5 ()
          else
            if a3 = 1 then
              j5 ()
            else
              some (h4.1 51 37, h4)
def f_Mod_whose_L25 (N : Nat) (a1 : Int32) (a2 : Int32) (rec3 : (Int32 × Int32 × mu_H) → Option (Int32 × mu_H)) : (Int32 × Int32 × mu_H) → Option (Int32 × mu_H) := fun ((x4, x5, h6) : Int32 × Int32 × mu_H) =>
  if h6.1 51 26 ≤ x5 then
    some (x4, h6)
  else
    (f_Mod_comes N h6 x5 a1).bind fun x7 =>
    jn (fun ((x9, h10) : Int32 × mu_H) =>
      jn (fun (x12 : Int32) =>
        bn (x4 ||| x12) fun x13 =>
        rec3 (x13, x5 + 1, h10)) fun j11 =>
      if x9 = 0 then
        j11 0
      else
        j11 ((1 : Int32) <<< (x5 &&& 31))) fun j8 =>
    jn (fun (h15 : mu_H) =>
      j8 (0, h15)) fun j14 =>
    if x7 = 0 then
      j14 h6
    else
      bi (f_Mod_doesNow N h6 x5 a1 0) fun x16 h17 =>
      jn (fun (h20 : mu_H) =>
        j8 (1, h20)) fun j19 =>
      if x16 = a2 then
        j19 h17
      else
        bi (f_Mod_doesNow N h17 x5 a1 1) fun x21 h22 =>
        if x21 = a2 then
          j19 h22
        else
          j14 h22
def f_Mod_whose (N : Nat) (h : mu_H) (a1 : Int32) (a2 : Int32) : Option (Int32 × mu_H) :=
  (f_Mod_isStretch N h a1).bind fun x1 =>
  if x1 = 0 then
    some ((-1), h)
  else
    (f_Mod_in N h a2 0 99).bind fun x2 =>
    if x2 = 0 then
      some ((-1), h)
    else
      lp (f_Mod_whose_L25 N a1 a2) N (0, 0, h)
def f_Mod_work (N : Nat) (h : mu_H) (a1 : Int32) (a2 : Int32) (a3 : Int32) : Option (Int32 × mu_H) :=
  (f_Mod_isHouse N h a1).bind fun x1 =>
  jn (fun (x3 : Int32) =>
    bi (f_Mod_isRefused N h x3) fun x4 h5 =>
    if x4 = 0 then
      (f_Mod_keep N h5).bind fun h7 =>
      (f_Mod_workNow N h7 a1 a2 a3).bind fun h8 =>
      gd (ix (0 + a2) 214) <|
      some (h8.1 68 (0 + a2).toNatClampNeg, h8)
    else
      some ((-1), h5)) fun j2 =>
  if x1 = 0 then
    j2 0
  else
    (f_Mod_isStretch N h a2).bind fun x9 =>
    if x9 = 0 then
      j2 0
    else
      (f_Mod_in N h a3 0 3).bind fun x10 =>
      jn (fun (x12 : Int32) =>
        j2 x12) fun j11 =>
      if x10 = 0 then
        j11 1
      else
        gd (ix (18 + a1) 214) <|
        jn (fun (_ : Unit) =>
          j11 2) fun j13 =>
        if h.1 68 (18 + a1).toNatClampNeg = 0 then
          j13 ()
        else
          jn (fun (_ : Unit) =>
            j11 (-1)) fun j14 =>
          if a3 = 2 then
            j14 ()
          else
            (f_Mod_comes N h a1 a2).bind fun x15 =>
            if x15 = 0 then
              j13 ()
            else
              j14 ()
def f_Mod_worst_L4 (h : mu_H) (rec1 : (Int32 × Int32) → Option Int32) : (Int32 × Int32) → Option Int32 := fun ((x2, x3) : Int32 × Int32) =>
  if h.1 51 25 ≤ x3 then
    some x2
  else
    jn (fun (x5 : Int32) =>
      rec1 (x5, x3 + 1)) fun j4 =>
    jn (fun (_ : Unit) =>
      j4 x3) fun j6 =>
    if x2 = (-1) then
      j6 ()
    else
      gd (ix (0 + x3) 214) <|
      gd (ix (0 + x2) 214) <|
      if h.1 68 (0 + x3).toNatClampNeg ≤ h.1 68 (0 + x2).toNatClampNeg then
        j4 x2
      else
        j6 ()
def f_Mod_worst (N : Nat) (h : mu_H) : Option Int32 :=
  lp (f_Mod_worst_L4 h) N ((-1), 0)
def f_Mod_worth_L4 (N : Nat) (a1 : Int32) (rec1 : (Int32 × Int32 × mu_H) → Option (Int32 × mu_H)) : (Int32 × Int32 × mu_H) → Option (Int32 × mu_H) := fun ((x2, x3, h4) : Int32 × Int32 × mu_H) =>
  if h4.1 51 25 ≤ x3 then
    some (x2, h4)
  else
    (f_Mod_isHouse N h4 a1).bind fun x5 =>
    if x5 = 0 then
      some (x2, h4)
    else
      (f_Mod_comes N h4 a1 x3).bind fun x6 =>
      jn (fun ((x8, h9) : Int32 × mu_H) =>
        rec1 (x8, x3 + 1, h9)) fun j7 =>
      jn (fun (h11 : mu_H) =>
        j7 (x2, h11)) fun j10 =>
      if x6 = 0 then
        j10 h4
      else
        jn (fun (h13 : mu_H) =>
          j7 (x3, h13)) fun j12 =>
        if x2 = (-1) then
          j12 h4
        else
          bi (f_Mod_doesNow N h4 a1 x3 0) fun x14 h15 =>
          bi (f_Mod_doesNow N h15 a1 x2 0) fun x17 h18 =>
          if x14 ≤ x17 then
            j10 h18
          else
            j12 h18
def f_Mod_worth (N : Nat) (h : mu_H) (a1 : Int32) : Option (Int32 × mu_H) :=
  lp (f_Mod_worth_L4 N a1) N ((-1), 0, h)
def f_Mod_years_L38 (N : Nat) (k9 : mu_H → Option (Int32 × mu_H)) (rec12 : (Int32 × mu_H) → Option (Int32 × mu_H)) : (Int32 × mu_H) → Option (Int32 × mu_H) := fun ((x13, h14) : Int32 × mu_H) =>
  if h14.1 51 26 ≤ x13 then
    k9 h14
  else
    gd (ix (18 + x13) 214) <|
    jn (fun (h16 : mu_H) =>
      rec12 (x13 + 1, h16)) fun j15 =>
    if h14.1 68 (18 + x13).toNatClampNeg ≤ 0 then
      j15 h14
    else
      (f_Mod_drawDay N h14 x13).bind fun h17 =>
      j15 h17
def f_Mod_years_L25 (N : Nat) (a1 : Int32) (k3 : mu_H → Option (Int32 × mu_H)) (rec5 : (Int32 × mu_H) → Option (Int32 × mu_H)) : (Int32 × mu_H) → Option (Int32 × mu_H) := fun ((x6, h7) : Int32 × mu_H) =>
  if a1 ≤ x6 then
    k3 h7
  else
    (f_Mod_keep N h7).bind fun h8 =>
    jn (fun (h10 : mu_H) =>
      (f_Mod_passSeason N h10).bind fun h11 =>
      rec5 (x6 + 1, h11)) fun k9 =>
    lp (f_Mod_years_L38 N k9) N (0, h8)
def f_Mod_years (N : Nat) (h : mu_H) (a1 : Int32) (a2 : Int64) : Option (Int32 × mu_H) :=
  if h.1 51 25 = 0 then
    some ((-1), h)
  else
    (f_Mod_areSeasons N h a1).bind fun x1 =>
    if x1 = 0 then
      some ((-1), h)
    else
      bn (ul h 51 33 a2) fun h2 =>
      jn (fun (h4 : mu_H) =>
        gd (ix 32 214) <|
        some (h4.1 68 (32 : Int32).toNatClampNeg, h4)) fun k3 =>
      lp (f_Mod_years_L25 N a1 k3) N (0, h2)
set_option maxRecDepth 20000 in
theorem cb_Mod_laySteps (X : mu_X) (N : Nat) (h : mu_H) : aG X m_Mod_laySteps (rmk 2) (fun _ => ax X) (fun _ _ _ => True) 0 0 (fun r : mu_H => qV X r) (f_Mod_laySteps N h) 0 [(0, .ref (xa X 51))] [] h := by
  unfold f_Mod_laySteps
  refine ro_iconst (v := 0) (pc := 0) dX12_laySteps_0 (by decide) ?_
  refine ro_istore_n (pc := 1) (lv' := [(1, .int 0), (0, .ref (xa X 51))]) dX12_laySteps_1 rfl (by decide) rfl ?_
  refine ro_jn (pcj := 38) (lvs := fun (s : mu_H) => [(0, .ref (xa X 51))]) (hs := fun (s : mu_H) => s) (sts := fun (s : mu_H) => []) (fun h2 => ?_) (fun k1 hk1 => ?_)
  · try dsimp only
    refine ro_iconst (v := 0) (pc := 38) dX12_laySteps_38 (by decide) ?_
    refine ro_istore_n (pc := 39) (lv' := [(1, .int 0), (0, .ref (xa X 51))]) dX12_laySteps_39 rfl (by decide) rfl ?_
    refine ro_jn (pcj := 98) (lvs := fun (s : mu_H) => [(0, .ref (xa X 51))]) (hs := fun (s : mu_H) => s) (sts := fun (s : mu_H) => []) (fun h4 => ?_) (fun k3 hk3 => ?_)
    · try dsimp only
      refine ro_iconst (v := 0) (pc := 98) dX12_laySteps_98 (by decide) ?_
      refine ro_istore_n (pc := 99) (lv' := [(1, .int 0), (0, .ref (xa X 51))]) dX12_laySteps_99 rfl (by decide) rfl ?_
      refine ro_lv [1, 0] rfl ?_
      refine ro_lp (pc := 100) (lvs := fun (s : Int32 × mu_H) => [(0, .ref (xa X 51)), (1, .int s.1)]) (hs := fun (s : Int32 × mu_H) => s.2) (fun rec5 hrec5 s => ?_) N (0, h4)
      obtain ⟨x6, h7⟩ := s; unfold f_Mod_laySteps_L100; try dsimp only
      refine ro_iload_n (pc := 100) 1 dX12_laySteps_100 rfl rfl ?_
      refine ro_bipush (v := 8) (pc := 101) dX12_laySteps_101 (by decide) ?_
      refine ro_icmp_ge (tgt := 170) (pc := 103) dX12_laySteps_103 (by decide) (fun _ => ?_) (fun _ => ?_)
      · skip
        exact ro_vret (pc := 170) rfl rfl dX12_laySteps_170
      · skip
        refine ro_iconst (v := 0) (pc := 106) dX12_laySteps_106 (by decide) ?_
        refine ro_istore_n (pc := 107) (lv' := [(2, .int 0), (0, .ref (xa X 51)), (1, .int x6)]) dX12_laySteps_107 rfl (by decide) rfl ?_
        refine ro_jn (pcj := 164) (lvs := fun (s : mu_H) => [(0, .ref (xa X 51)), (1, .int x6)]) (hs := fun (s : mu_H) => s) (sts := fun (s : mu_H) => []) (fun h9 => ?_) (fun k8 hk8 => ?_)
        · try dsimp only
          refine ro_iinc (pc := 164) (v := x6 + 1) (lv' := [(1, .int (x6 + 1)), (0, .ref (xa X 51))]) 1 dX12_laySteps_164 rfl rfl (by decide) rfl ?_
          refine ro_goto (tgt := 100) (pc := 167) dX12_laySteps_167 (by decide) ?_
          refine ro_lv [1, 0] rfl ?_
          exact hrec5 (x6 + 1, h9)
        · skip
          refine ro_lv [1, 2, 0] rfl ?_
          refine ro_lp (pc := 108) (lvs := fun (s : Int32 × mu_H) => [(0, .ref (xa X 51)), (1, .int x6), (2, .int s.1)]) (hs := fun (s : Int32 × mu_H) => s.2) (fun rec10 hrec10 s => ?_) N (0, h7)
          obtain ⟨x11, h12⟩ := s; unfold f_Mod_laySteps_L108; try dsimp only
          refine ro_iload_n (pc := 108) 2 dX12_laySteps_108 rfl rfl ?_
          refine ro_bipush (v := 64) (pc := 109) dX12_laySteps_109 (by decide) ?_
          refine ro_icmp_ge (tgt := 164) (pc := 111) dX12_laySteps_111 (by decide) (fun _ => ?_) (fun _ => ?_)
          · skip
            refine ro_lv [0, 1] rfl ?_
            exact hk8 h12
          · skip
            refine ro_aload_n (pc := 114) 0 dX12_laySteps_114 rfl rfl ?_
            refine gf_X12_30 (pc := 115) wd_1352 dX12_laySteps_115 ?_
            refine ro_iload_n (pc := 118) 2 dX12_laySteps_118 rfl rfl ?_
            refine ro_aload_n (pc := 119) 0 dX12_laySteps_119 rfl rfl ?_
            refine gf_X12_30 (pc := 120) wd_1352 dX12_laySteps_120 ?_
            refine ro_iload_n (pc := 123) 2 dX12_laySteps_123 rfl rfl ?_
            refine ro_iald (pc := 124) (n := 64) cl_70 cv_70 dX12_laySteps_124 ?_
            refine ro_aload_n (pc := 125) 0 dX12_laySteps_125 rfl rfl ?_
            refine gf_X12_30 (pc := 126) wd_1352 dX12_laySteps_126 ?_
            refine ro_iload_n (pc := 129) 2 dX12_laySteps_129 rfl rfl ?_
            refine ro_bipush (v := 8) (pc := 130) dX12_laySteps_130 (by decide) ?_
            refine ro_idiv (pc := 132) dX12_laySteps_132 (by decide) ?_
            refine ro_bipush (v := 8) (pc := 133) dX12_laySteps_133 (by decide) ?_
            refine ro_imul (pc := 135) dX12_laySteps_135 ?_
            refine ro_iload_n (pc := 136) 1 dX12_laySteps_136 rfl rfl ?_
            refine ro_iadd (pc := 137) dX12_laySteps_137 ?_
            refine ro_iald (pc := 138) (n := 64) cl_70 cv_70 dX12_laySteps_138 ?_
            refine ro_aload_n (pc := 139) 0 dX12_laySteps_139 rfl rfl ?_
            refine gf_X12_30 (pc := 140) wd_1352 dX12_laySteps_140 ?_
            refine ro_bipush (v := 8) (pc := 143) dX12_laySteps_143 (by decide) ?_
            refine ro_iload_n (pc := 145) 1 dX12_laySteps_145 rfl rfl ?_
            refine ro_imul (pc := 146) dX12_laySteps_146 ?_
            refine ro_iload_n (pc := 147) 2 dX12_laySteps_147 rfl rfl ?_
            refine ro_bipush (v := 8) (pc := 148) dX12_laySteps_148 (by decide) ?_
            refine ro_irem (pc := 150) dX12_laySteps_150 (by decide) ?_
            refine ro_iadd (pc := 151) dX12_laySteps_151 ?_
            refine ro_iald (pc := 152) (n := 64) cl_70 cv_70 dX12_laySteps_152 ?_
            refine ro_iadd (pc := 153) dX12_laySteps_153 ?_
            refine ro_mmin (pc := 154) (st := [.int x11, .ref (xa X 70)]) wd_1617 (by decide) (Nat.le_of_ble_eq_true rfl) ⟨Nat.zero_le _, Nat.zero_le _⟩ dX12_laySteps_154 ?_
            refine ro_iast (pc := 157) (n := 64) cl_70 cv_70 dX12_laySteps_157 ?_
            refine ro_bnh (fun h13 => ?_)
            refine ro_iinc (pc := 158) (v := x11 + 1) (lv' := [(2, .int (x11 + 1)), (0, .ref (xa X 51)), (1, .int x6)]) 2 dX12_laySteps_158 rfl rfl (by decide) rfl ?_
            refine ro_goto (tgt := 108) (pc := 161) dX12_laySteps_161 (by decide) ?_
            refine ro_lv [1, 2, 0] rfl ?_
            exact hrec10 (x11 + 1, h13)
    · skip
      refine ro_lv [1, 0] rfl ?_
      refine ro_lp (pc := 40) (lvs := fun (s : Int32 × mu_H) => [(0, .ref (xa X 51)), (1, .int s.1)]) (hs := fun (s : Int32 × mu_H) => s.2) (fun rec14 hrec14 s => ?_) N (0, h2)
      obtain ⟨x15, h16⟩ := s; unfold f_Mod_laySteps_L40; try dsimp only
      refine ro_iload_n (pc := 40) 1 dX12_laySteps_40 rfl rfl ?_
      refine ro_aload_n (pc := 41) 0 dX12_laySteps_41 rfl rfl ?_
      refine gf_X12_25 (pc := 42) wd_1347 dX12_laySteps_42 ?_
      refine ro_icmp_ge (tgt := 98) (pc := 45) dX12_laySteps_45 (by decide) (fun _ => ?_) (fun _ => ?_)
      · skip
        refine ro_lv [0] rfl ?_
        exact hk3 h16
      · skip
        refine ro_aload_n (pc := 48) 0 dX12_laySteps_48 rfl rfl ?_
        refine gf_X12_30 (pc := 49) wd_1352 dX12_laySteps_49 ?_
        refine ro_bipush (v := 8) (pc := 52) dX12_laySteps_52 (by decide) ?_
        refine ro_aload_n (pc := 54) 0 dX12_laySteps_54 rfl rfl ?_
        refine ro_iload_n (pc := 55) 1 dX12_laySteps_55 rfl rfl ?_
        refine ro_iconst (v := 0) (pc := 56) dX12_laySteps_56 (by decide) ?_
        refine ro_cvP (pc := 57) (kc := 1) (avs := [.int x15, .int 0]) (st := [.int 8, .ref (xa X 70)]) ok_Mod_of wd_1608 cl_51 cv_51 rfl ⟨by decide, by decide⟩ ⟨Nat.zero_le _, Nat.zero_le _⟩ (c_Mod_of X N h16 x15 0) rfl rfl (Nat.le_of_ble_eq_true rfl) dX12_laySteps_57 (fun x17 => ?_)
        refine ro_imul (pc := 60) dX12_laySteps_60 ?_
        refine ro_aload_n (pc := 61) 0 dX12_laySteps_61 rfl rfl ?_
        refine ro_iload_n (pc := 62) 1 dX12_laySteps_62 rfl rfl ?_
        refine ro_iconst (v := 1) (pc := 63) dX12_laySteps_63 (by decide) ?_
        refine ro_cvP (pc := 64) (kc := 1) (avs := [.int x15, .int 1]) (st := [.int (8 * x17), .ref (xa X 70)]) ok_Mod_of wd_1608 cl_51 cv_51 rfl ⟨by decide, by decide⟩ ⟨Nat.zero_le _, Nat.zero_le _⟩ (c_Mod_of X N h16 x15 1) rfl rfl (Nat.le_of_ble_eq_true rfl) dX12_laySteps_64 (fun x18 => ?_)
        refine ro_iadd (pc := 67) dX12_laySteps_67 ?_
        refine ro_iconst (v := 1) (pc := 68) dX12_laySteps_68 (by decide) ?_
        refine ro_iast (pc := 69) (n := 64) cl_70 cv_70 dX12_laySteps_69 ?_
        refine ro_bnh (fun h19 => ?_)
        refine ro_aload_n (pc := 70) 0 dX12_laySteps_70 rfl rfl ?_
        refine gf_X12_30 (pc := 71) wd_1352 dX12_laySteps_71 ?_
        refine ro_bipush (v := 8) (pc := 74) dX12_laySteps_74 (by decide) ?_
        refine ro_aload_n (pc := 76) 0 dX12_laySteps_76 rfl rfl ?_
        refine ro_iload_n (pc := 77) 1 dX12_laySteps_77 rfl rfl ?_
        refine ro_iconst (v := 1) (pc := 78) dX12_laySteps_78 (by decide) ?_
        refine ro_cvP (pc := 79) (kc := 1) (avs := [.int x15, .int 1]) (st := [.int 8, .ref (xa X 70)]) ok_Mod_of wd_1608 cl_51 cv_51 rfl ⟨by decide, by decide⟩ ⟨Nat.zero_le _, Nat.zero_le _⟩ (c_Mod_of X N h19 x15 1) rfl rfl (Nat.le_of_ble_eq_true rfl) dX12_laySteps_79 (fun x20 => ?_)
        refine ro_imul (pc := 82) dX12_laySteps_82 ?_
        refine ro_aload_n (pc := 83) 0 dX12_laySteps_83 rfl rfl ?_
        refine ro_iload_n (pc := 84) 1 dX12_laySteps_84 rfl rfl ?_
        refine ro_iconst (v := 0) (pc := 85) dX12_laySteps_85 (by decide) ?_
        refine ro_cvP (pc := 86) (kc := 1) (avs := [.int x15, .int 0]) (st := [.int (8 * x20), .ref (xa X 70)]) ok_Mod_of wd_1608 cl_51 cv_51 rfl ⟨by decide, by decide⟩ ⟨Nat.zero_le _, Nat.zero_le _⟩ (c_Mod_of X N h19 x15 0) rfl rfl (Nat.le_of_ble_eq_true rfl) dX12_laySteps_86 (fun x21 => ?_)
        refine ro_iadd (pc := 89) dX12_laySteps_89 ?_
        refine ro_iconst (v := 1) (pc := 90) dX12_laySteps_90 (by decide) ?_
        refine ro_iast (pc := 91) (n := 64) cl_70 cv_70 dX12_laySteps_91 ?_
        refine ro_bnh (fun h22 => ?_)
        refine ro_iinc (pc := 92) (v := x15 + 1) (lv' := [(1, .int (x15 + 1)), (0, .ref (xa X 51))]) 1 dX12_laySteps_92 rfl rfl (by decide) rfl ?_
        refine ro_goto (tgt := 40) (pc := 95) dX12_laySteps_95 (by decide) ?_
        refine ro_lv [1, 0] rfl ?_
        exact hrec14 (x15 + 1, h22)
  · skip
    refine ro_lv [1, 0] rfl ?_
    refine ro_lp (pc := 2) (lvs := fun (s : Int32 × mu_H) => [(0, .ref (xa X 51)), (1, .int s.1)]) (hs := fun (s : Int32 × mu_H) => s.2) (fun rec23 hrec23 s => ?_) N (0, h)
    obtain ⟨x24, h25⟩ := s; unfold f_Mod_laySteps_L2; try dsimp only
    refine ro_iload_n (pc := 2) 1 dX12_laySteps_2 rfl rfl ?_
    refine ro_bipush (v := 64) (pc := 3) dX12_laySteps_3 (by decide) ?_
    refine ro_icmp_ge (tgt := 38) (pc := 5) dX12_laySteps_5 (by decide) (fun _ => ?_) (fun _ => ?_)
    · skip
      refine ro_lv [0] rfl ?_
      exact hk1 h25
    · skip
      refine ro_aload_n (pc := 8) 0 dX12_laySteps_8 rfl rfl ?_
      refine gf_X12_30 (pc := 9) wd_1352 dX12_laySteps_9 ?_
      refine ro_iload_n (pc := 12) 1 dX12_laySteps_12 rfl rfl ?_
      refine ro_iload_n (pc := 13) 1 dX12_laySteps_13 rfl rfl ?_
      refine ro_bipush (v := 8) (pc := 14) dX12_laySteps_14 (by decide) ?_
      refine ro_idiv (pc := 16) dX12_laySteps_16 (by decide) ?_
      refine ro_iload_n (pc := 17) 1 dX12_laySteps_17 rfl rfl ?_
      refine ro_bipush (v := 8) (pc := 18) dX12_laySteps_18 (by decide) ?_
      refine ro_irem (pc := 20) dX12_laySteps_20 (by decide) ?_
      refine ro_jn (pcj := 31) (lvs := fun (s : Int32) => [(0, .ref (xa X 51)), (1, .int x24)]) (hs := fun (s : Int32) => h25) (sts := fun (s : Int32) => [.int s, .int x24, .ref (xa X 70)]) (fun x27 => ?_) (fun j26 hj26 => ?_)
      · try dsimp only
        refine ro_iast (pc := 31) (n := 64) cl_70 cv_70 dX12_laySteps_31 ?_
        refine ro_bnh (fun h28 => ?_)
        refine ro_iinc (pc := 32) (v := x24 + 1) (lv' := [(1, .int (x24 + 1)), (0, .ref (xa X 51))]) 1 dX12_laySteps_32 rfl rfl (by decide) rfl ?_
        refine ro_goto (tgt := 2) (pc := 35) dX12_laySteps_35 (by decide) ?_
        refine ro_lv [1, 0] rfl ?_
        exact hrec23 (x24 + 1, h28)
      · skip
        refine ro_icmp_ne (tgt := 28) (pc := 21) dX12_laySteps_21 (by decide) (fun _ => ?_) (fun _ => ?_)
        · skip
          refine ro_ldcw (v := 1000000) (pc := 28) dX12_laySteps_28 wd_1616 ?_
          exact hj26 1000000
        · skip
          refine ro_iconst (v := 0) (pc := 24) dX12_laySteps_24 (by decide) ?_
          refine ro_goto (tgt := 31) (pc := 25) dX12_laySteps_25 (by decide) ?_
          exact hj26 0
theorem c_Mod_laySteps (X : mu_X) (N : Nat) (h : mu_H) : ∀ r, f_Mod_laySteps N h = some r → mV X m_Mod_laySteps 2 [.ref (xa X 51)] h r := fun r hr => mV_of (by decide) rfl (Nat.le_of_ble_eq_true rfl) rfl (cb_Mod_laySteps X N h r hr)
set_option maxRecDepth 20000 in
theorem cb_Mod_tryWay_B (X : mu_X) (N : Nat) (rf : mu_H → Int32 → Int32 → Int32 → Int32 → Int32 → Option mu_H) (kc : Nat) (hk : 2 ≤ kc) (hrf : ∀ (h : mu_H) (b0 : Int32) (b1 : Int32) (b2 : Int32) (b3 : Int32) (b4 : Int32), ∀ r, rf h b0 b1 b2 b3 b4 = some r → mV X m_Mod_tryWay kc [.ref (xa X 51), .int b0, .int b1, .int b2, .int b3, .int b4] h r) (h : mu_H) (a1 : Int32) (a2 : Int32) (a3 : Int32) (a4 : Int32) (a5 : Int32) : aG X m_Mod_tryWay (rmk (kc + 1)) (fun _ => ax X) (fun _ _ _ => True) 0 0 (fun r : mu_H => qV X r) (f_Mod_tryWay_B N rf h a1 a2 a3 a4 a5) 0 [(0, .ref (xa X 51)), (1, .int a1), (2, .int a2), (3, .int a3), (4, .int a4), (5, .int a5)] [] h := by
  unfold f_Mod_tryWay_B
  refine ro_iload_n (pc := 0) 1 dX12_tryWay_0 rfl rfl ?_
  refine ro_iload_n (pc := 1) 2 dX12_tryWay_1 rfl rfl ?_
  refine ro_icmp_ne (tgt := 53) (pc := 2) dX12_tryWay_2 (by decide) (fun _ => ?_) (fun _ => ?_)
  · skip
    refine ro_iconst (v := 0) (pc := 53) dX12_tryWay_53 (by decide) ?_
    refine ro_istore (pc := 54) (lv' := [(6, .int 0), (0, .ref (xa X 51)), (1, .int a1), (2, .int a2), (3, .int a3), (4, .int a4), (5, .int a5)]) dX12_tryWay_54 (by decide) rfl ?_
    refine ro_lv [1, 2, 3, 4, 5, 6, 0] rfl ?_
    refine ro_lp (pc := 56) (lvs := fun (s : Int32 × mu_H) => [(0, .ref (xa X 51)), (1, .int a1), (2, .int a2), (3, .int a3), (4, .int a4), (5, .int a5), (6, .int s.1)]) (hs := fun (s : Int32 × mu_H) => s.2) (fun rec1 hrec1 s => ?_) N (0, h)
    obtain ⟨x2, h3⟩ := s; unfold f_Mod_tryWay_L56; try dsimp only
    refine ro_iload (pc := 56) 6 dX12_tryWay_56 rfl ?_
    refine ro_aload_n (pc := 58) 0 dX12_tryWay_58 rfl rfl ?_
    refine gf_X12_25 (pc := 59) wd_1347 dX12_tryWay_59 ?_
    refine ro_icmp_ge (tgt := 152) (pc := 62) dX12_tryWay_62 (by decide) (fun _ => ?_) (fun _ => ?_)
    · skip
      exact ro_vret (pc := 152) rfl rfl dX12_tryWay_152
    · skip
      refine ro_aload_n (pc := 65) 0 dX12_tryWay_65 rfl rfl ?_
      refine ro_iload (pc := 66) 6 dX12_tryWay_66 rfl ?_
      refine ro_iconst (v := 0) (pc := 68) dX12_tryWay_68 (by decide) ?_
      refine ro_cvP (pc := 69) (kc := 1) (avs := [.int x2, .int 0]) (st := []) ok_Mod_of wd_1608 cl_51 cv_51 rfl ⟨show 1 + 1 ≤ kc + 1 by omega, show 8 + (3 + 11) + 60 * (1) ≤ 60 * (kc + 1) by omega⟩ ⟨Nat.zero_le _, Nat.zero_le _⟩ (c_Mod_of X N h3 x2 0) rfl rfl (Nat.le_of_ble_eq_true rfl) dX12_tryWay_69 (fun x4 => ?_)
      refine ro_iload_n (pc := 72) 1 dX12_tryWay_72 rfl rfl ?_
      refine ro_jn (pcj := 93) (lvs := fun (s : Int32) => [(0, .ref (xa X 51)), (1, .int a1), (2, .int a2), (3, .int a3), (4, .int a4), (5, .int a5), (6, .int x2)]) (hs := fun (s : Int32) => h3) (sts := fun (s : Int32) => [.int s]) (fun x6 => ?_) (fun j5 hj5 => ?_)
      · try dsimp only
        refine ro_istore (pc := 93) (lv' := [(7, .int x6), (0, .ref (xa X 51)), (1, .int a1), (2, .int a2), (3, .int a3), (4, .int a4), (5, .int a5), (6, .int x2)]) dX12_tryWay_93 (by decide) rfl ?_
        refine ro_aload_n (pc := 95) 1 dX12_tryWay_95 rfl rfl ?_
        refine ro_iload (pc := 96) 7 dX12_tryWay_96 rfl ?_
        refine ro_iload_n (pc := 98) 2 dX12_tryWay_98 rfl rfl ?_
        refine ro_cvP (pc := 99) (kc := 2) (avs := [.int x2, .int a1]) (st := []) ok_Mod_isAt wd_1721 cl_51 cv_51 rfl ⟨show 2 + 1 ≤ kc + 1 by omega, show 8 + (3 + 11) + 60 * (2) ≤ 60 * (kc + 1) by omega⟩ ⟨Nat.zero_le _, Nat.zero_le _⟩ (c_Mod_isAt X N h3 x2 a1) rfl rfl (Nat.le_of_ble_eq_true rfl) dX12_tryWay_99 (fun x7 => ?_)
        refine ro_jn (pcj := 146) (lvs := fun (s : mu_H) => [(0, .ref (xa X 51)), (1, .int a1), (2, .int a2), (3, .int a3), (4, .int a4), (5, .int a5), (6, .int x2)]) (hs := fun (s : mu_H) => s) (sts := fun (s : mu_H) => []) (fun h9 => ?_) (fun j8 hj8 => ?_)
        · try dsimp only
          refine ro_iinc (pc := 146) (v := x2 + 1) (lv' := [(6, .int (x2 + 1)), (0, .ref (xa X 51)), (1, .int a1), (2, .int a2), (3, .int a3), (4, .int a4), (5, .int a5)]) 6 dX12_tryWay_146 rfl rfl (by decide) rfl ?_
          refine ro_goto (tgt := 56) (pc := 149) dX12_tryWay_149 (by decide) ?_
          refine ro_lv [1, 2, 3, 4, 5, 6, 0] rfl ?_
          exact hrec1 (x2 + 1, h9)
        · skip
          refine ro_if_eq (tgt := 146) (pc := 102) dX12_tryWay_102 (by decide) (fun _ => ?_) (fun _ => ?_)
          · skip
            refine ro_lv [1, 2, 3, 4, 5, 6, 7] rfl ?_
            exact hj8 h3
          · skip
            refine ro_iload_n (pc := 105) 4 dX12_tryWay_105 rfl rfl ?_
            refine ro_iload (pc := 106) 0 dX12_tryWay_106 rfl ?_
            refine ro_csP (pc := 108) (kc := 1) (avs := [.int a3, .int x6]) (st := []) ok_Mod_has wd_1503 ⟨show 1 + 1 ≤ kc + 1 by omega, show 8 + (2 + 11) + 60 * (1) ≤ 60 * (kc + 1) by omega⟩ ⟨Nat.zero_le _, Nat.zero_le _⟩ (c_Mod_has X N h3 a3 x6) rfl rfl (Nat.le_of_ble_eq_true rfl) dX12_tryWay_108 (fun x10 => ?_)
            refine ro_if_ne (tgt := 146) (pc := 111) dX12_tryWay_111 (by decide) (fun _ => ?_) (fun _ => ?_)
            · skip
              refine ro_lv [1, 2, 3, 4, 5, 6, 7] rfl ?_
              exact hj8 h3
            · skip
              refine ro_aload_n (pc := 114) 1 dX12_tryWay_114 rfl rfl ?_
              refine ro_iload (pc := 115) 0 dX12_tryWay_115 rfl ?_
              refine ro_iload_n (pc := 117) 3 dX12_tryWay_117 rfl rfl ?_
              refine ro_iload_n (pc := 118) 4 dX12_tryWay_118 rfl rfl ?_
              refine ro_iconst (v := 1) (pc := 119) dX12_tryWay_119 (by decide) ?_
              refine ro_iload (pc := 120) 0 dX12_tryWay_120 rfl ?_
              refine ro_ishl (pc := 122) dX12_tryWay_122 ?_
              refine ro_ior (pc := 123) dX12_tryWay_123 ?_
              refine ro_iload (pc := 124) 5 dX12_tryWay_124 rfl ?_
              refine ro_iconst (v := 1) (pc := 126) dX12_tryWay_126 (by decide) ?_
              refine ro_iload (pc := 127) 7 dX12_tryWay_127 rfl ?_
              refine ro_ishl (pc := 129) dX12_tryWay_129 ?_
              refine ro_ior (pc := 130) dX12_tryWay_130 ?_
              refine ro_iload (pc := 131) 6 dX12_tryWay_131 rfl ?_
              refine ro_aload_n (pc := 133) 1 dX12_tryWay_133 rfl rfl ?_
              refine gf_X12_27 (pc := 134) wd_1349 dX12_tryWay_134 ?_
              refine ro_iconst (v := 0) (pc := 137) dX12_tryWay_137 (by decide) ?_
              refine ro_iload (pc := 138) 7 dX12_tryWay_138 rfl ?_
              refine ro_iadd (pc := 140) dX12_tryWay_140 ?_
              refine ro_iald (pc := 141) (n := 214) cl_68 cv_68 dX12_tryWay_141 ?_
              refine ro_iadd (pc := 142) dX12_tryWay_142 ?_
              refine ro_cvV (pc := 143) (kc := kc) (avs := [.int x6, .int a2, .int (a3 ||| ((1 : Int32) <<< (x6 &&& 31))), .int (a4 ||| ((1 : Int32) <<< (x2 &&& 31))), .int (a5 + (h3.1 68 (0 + x2).toNatClampNeg))]) (st := []) ok_Mod_tryWay wd_1787 cl_51 cv_51 rfl ⟨show kc + 1 ≤ kc + 1 by omega, show 8 + (8 + 11) + 60 * (kc) ≤ 60 * (kc + 1) by omega⟩ ⟨Nat.zero_le _, Nat.zero_le _⟩ (hrf h3 x6 a2 (a3 ||| ((1 : Int32) <<< (x6 &&& 31))) (a4 ||| ((1 : Int32) <<< (x2 &&& 31))) (a5 + (h3.1 68 (0 + x2).toNatClampNeg))) rfl rfl (Nat.le_of_ble_eq_true rfl) dX12_tryWay_143 (fun h11 => ?_)
              refine ro_lv [1, 2, 3, 4, 5, 6, 7] rfl ?_
              exact hj8 h11
      · skip
        refine ro_icmp_ne (tgt := 86) (pc := 73) dX12_tryWay_73 (by decide) (fun _ => ?_) (fun _ => ?_)
        · skip
          refine ro_aload_n (pc := 86) 0 dX12_tryWay_86 rfl rfl ?_
          refine ro_iload (pc := 87) 6 dX12_tryWay_87 rfl ?_
          refine ro_iconst (v := 0) (pc := 89) dX12_tryWay_89 (by decide) ?_
          refine ro_cvP (pc := 90) (kc := 1) (avs := [.int x2, .int 0]) (st := []) ok_Mod_of wd_1608 cl_51 cv_51 rfl ⟨show 1 + 1 ≤ kc + 1 by omega, show 8 + (3 + 11) + 60 * (1) ≤ 60 * (kc + 1) by omega⟩ ⟨Nat.zero_le _, Nat.zero_le _⟩ (c_Mod_of X N h3 x2 0) rfl rfl (Nat.le_of_ble_eq_true rfl) dX12_tryWay_90 (fun x12 => ?_)
          exact hj5 x12
        · skip
          refine ro_aload_n (pc := 76) 0 dX12_tryWay_76 rfl rfl ?_
          refine ro_iload (pc := 77) 6 dX12_tryWay_77 rfl ?_
          refine ro_iconst (v := 1) (pc := 79) dX12_tryWay_79 (by decide) ?_
          refine ro_cvP (pc := 80) (kc := 1) (avs := [.int x2, .int 1]) (st := []) ok_Mod_of wd_1608 cl_51 cv_51 rfl ⟨show 1 + 1 ≤ kc + 1 by omega, show 8 + (3 + 11) + 60 * (1) ≤ 60 * (kc + 1) by omega⟩ ⟨Nat.zero_le _, Nat.zero_le _⟩ (c_Mod_of X N h3 x2 1) rfl rfl (Nat.le_of_ble_eq_true rfl) dX12_tryWay_80 (fun x13 => ?_)
          refine ro_goto (tgt := 93) (pc := 83) dX12_tryWay_83 (by decide) ?_
          exact hj5 x13
  · skip
    refine ro_aload_n (pc := 5) 0 dX12_tryWay_5 rfl rfl ?_
    refine gf_X12_36 (pc := 6) wd_1358 dX12_tryWay_6 ?_
    refine ro_iconst (v := (-1)) (pc := 9) dX12_tryWay_9 (by decide) ?_
    refine ro_jn (pcj := 40) (lvs := fun (s : Unit) => [(0, .ref (xa X 51)), (4, .int a4), (5, .int a5)]) (hs := fun (s : Unit) => h) (sts := fun (s : Unit) => []) (fun s => ?_) (fun j14 hj14 => ?_)
    · try dsimp only
      refine ro_aload_n (pc := 40) 0 dX12_tryWay_40 rfl rfl ?_
      refine ro_iload (pc := 41) 1 dX12_tryWay_41 rfl ?_
      refine pf_X12_36 (pc := 43) wd_1358 dX12_tryWay_43 ?_
      refine ro_bnh (fun h15 => ?_)
      refine ro_aload_n (pc := 46) 0 dX12_tryWay_46 rfl rfl ?_
      refine ro_iload (pc := 47) 2 dX12_tryWay_47 rfl ?_
      refine pf_X12_37 (pc := 49) wd_1359 dX12_tryWay_49 ?_
      refine ro_bnh (fun h16 => ?_)
      exact ro_vret (pc := 52) rfl rfl dX12_tryWay_52
    · skip
      refine ro_icmp_eq (tgt := 40) (pc := 10) dX12_tryWay_10 (by decide) (fun _ => ?_) (fun _ => ?_)
      · skip
        refine ro_lv [0, 4, 5] rfl ?_
        exact hj14 ()
      · skip
        refine ro_iload (pc := 13) 5 dX12_tryWay_13 rfl ?_
        refine ro_aload_n (pc := 15) 0 dX12_tryWay_15 rfl rfl ?_
        refine gf_X12_37 (pc := 16) wd_1359 dX12_tryWay_16 ?_
        refine ro_icmp_lt (tgt := 40) (pc := 19) dX12_tryWay_19 (by decide) (fun _ => ?_) (fun _ => ?_)
        · skip
          refine ro_lv [0, 4, 5] rfl ?_
          exact hj14 ()
        · skip
          refine ro_iload (pc := 22) 5 dX12_tryWay_22 rfl ?_
          refine ro_aload_n (pc := 24) 0 dX12_tryWay_24 rfl rfl ?_
          refine gf_X12_37 (pc := 25) wd_1359 dX12_tryWay_25 ?_
          refine ro_icmp_ne (tgt := 52) (pc := 28) dX12_tryWay_28 (by decide) (fun _ => ?_) (fun _ => ?_)
          · skip
            exact ro_vret (pc := 52) rfl rfl dX12_tryWay_52
          · skip
            refine ro_iload (pc := 31) 4 dX12_tryWay_31 rfl ?_
            refine ro_aload_n (pc := 33) 0 dX12_tryWay_33 rfl rfl ?_
            refine gf_X12_36 (pc := 34) wd_1358 dX12_tryWay_34 ?_
            refine ro_icmp_ge (tgt := 52) (pc := 37) dX12_tryWay_37 (by decide) (fun _ => ?_) (fun _ => ?_)
            · skip
              exact ro_vret (pc := 52) rfl rfl dX12_tryWay_52
            · skip
              refine ro_lv [0, 4, 5] rfl ?_
              exact hj14 ()
theorem c_Mod_tryWay_B (X : mu_X) (N : Nat) (rf : mu_H → Int32 → Int32 → Int32 → Int32 → Int32 → Option mu_H) (kc : Nat) (hk : 2 ≤ kc) (hrf : ∀ (h : mu_H) (b0 : Int32) (b1 : Int32) (b2 : Int32) (b3 : Int32) (b4 : Int32), ∀ r, rf h b0 b1 b2 b3 b4 = some r → mV X m_Mod_tryWay kc [.ref (xa X 51), .int b0, .int b1, .int b2, .int b3, .int b4] h r) (h : mu_H) (a1 : Int32) (a2 : Int32) (a3 : Int32) (a4 : Int32) (a5 : Int32) : ∀ r, f_Mod_tryWay_B N rf h a1 a2 a3 a4 a5 = some r → mV X m_Mod_tryWay (kc + 1) [.ref (xa X 51), .int a1, .int a2, .int a3, .int a4, .int a5] h r := fun r hr => mV_of (by decide) rfl (Nat.le_of_ble_eq_true rfl) rfl (cb_Mod_tryWay_B X N rf kc hk hrf h a1 a2 a3 a4 a5 r hr)
theorem cd_Mod_tryWay (X : mu_X) (N : Nat) : ∀ (D : Nat) (h : mu_H) (a1 : Int32) (a2 : Int32) (a3 : Int32) (a4 : Int32) (a5 : Int32), ∀ r, lp (f_Mod_tryWay_R N) D (h, a1, a2, a3, a4, a5) = some r → mV X m_Mod_tryWay (2 + 1 * D) [.ref (xa X 51), .int a1, .int a2, .int a3, .int a4, .int a5] h r := by
  intro D
  induction D with
  | zero => intro h a1 a2 a3 a4 a5 r hr; cases hr
  | succ D ih => intro h a1 a2 a3 a4 a5 r hr; exact c_Mod_tryWay_B X N _ (2 + 1 * D) (by omega) (fun h a1 a2 a3 a4 a5 r hr => ih h a1 a2 a3 a4 a5 r hr) h a1 a2 a3 a4 a5 r hr
theorem c_Mod_tryWay (X : mu_X) (N : Nat) (h : mu_H) (a1 : Int32) (a2 : Int32) (a3 : Int32) (a4 : Int32) (a5 : Int32) : ∀ r, f_Mod_tryWay N h a1 a2 a3 a4 a5 = some r → mV X m_Mod_tryWay 12 [.ref (xa X 51), .int a1, .int a2, .int a3, .int a4, .int a5] h r := fun r hr => cd_Mod_tryWay X N 10 h a1 a2 a3 a4 a5 r hr
set_option maxRecDepth 20000 in
theorem cb_Mod_layWay (X : mu_X) (N : Nat) (h : mu_H) (a1 : Int32) (a2 : Int32) : aG X m_Mod_layWay (rmk 13) (fun _ => ax X) (fun _ _ _ => True) 0 0 (fun r : mu_H => qV X r) (f_Mod_layWay N h a1 a2) 0 [(0, .ref (xa X 51)), (1, .int a1), (2, .int a2)] [] h := by
  unfold f_Mod_layWay
  refine ro_aload_n (pc := 0) 0 dX12_layWay_0 rfl rfl ?_
  refine ro_iconst (v := (-1)) (pc := 1) dX12_layWay_1 (by decide) ?_
  refine pf_X12_36 (pc := 2) wd_1358 dX12_layWay_2 ?_
  refine ro_bnh (fun h1 => ?_)
  refine ro_aload_n (pc := 5) 0 dX12_layWay_5 rfl rfl ?_
  refine ro_iconst (v := 0) (pc := 6) dX12_layWay_6 (by decide) ?_
  refine pf_X12_37 (pc := 7) wd_1359 dX12_layWay_7 ?_
  refine ro_bnh (fun h2 => ?_)
  refine ro_aload_n (pc := 10) 0 dX12_layWay_10 rfl rfl ?_
  refine ro_iload_n (pc := 11) 1 dX12_layWay_11 rfl rfl ?_
  refine ro_iload_n (pc := 12) 2 dX12_layWay_12 rfl rfl ?_
  refine ro_iconst (v := 1) (pc := 13) dX12_layWay_13 (by decide) ?_
  refine ro_iload_n (pc := 14) 1 dX12_layWay_14 rfl rfl ?_
  refine ro_ishl (pc := 15) dX12_layWay_15 ?_
  refine ro_iconst (v := 0) (pc := 16) dX12_layWay_16 (by decide) ?_
  refine ro_iconst (v := 0) (pc := 17) dX12_layWay_17 (by decide) ?_
  refine ro_cvV (pc := 18) (kc := 12) (avs := [.int a1, .int a2, .int ((1 : Int32) <<< (a1 &&& 31)), .int 0, .int 0]) (st := []) ok_Mod_tryWay wd_1787 cl_51 cv_51 rfl ⟨by decide, by decide⟩ ⟨Nat.zero_le _, Nat.zero_le _⟩ (c_Mod_tryWay X N h2 a1 a2 ((1 : Int32) <<< (a1 &&& 31)) 0 0) rfl rfl (Nat.le_of_ble_eq_true rfl) dX12_layWay_18 (fun h3 => ?_)
  exact ro_vret (pc := 21) rfl rfl dX12_layWay_21
theorem c_Mod_layWay (X : mu_X) (N : Nat) (h : mu_H) (a1 : Int32) (a2 : Int32) : ∀ r, f_Mod_layWay N h a1 a2 = some r → mV X m_Mod_layWay 13 [.ref (xa X 51), .int a1, .int a2] h r := fun r hr => mV_of (by decide) rfl (Nat.le_of_ble_eq_true rfl) rfl (cb_Mod_layWay X N h a1 a2 r hr)
set_option maxRecDepth 20000 in
theorem cb_Mod_least (X : mu_X) (N : Nat) (h : mu_H) (a1 : Int32) (a2 : Int32) (a3 : Int32) : aG X m_Mod_least (rmk 17) (fun _ => ax X) (fun _ _ _ => True) 0 0 (fun r : Int32 × mu_H => qI X r.1 r.2) (f_Mod_least N h a1 a2 a3) 0 [(0, .ref (xa X 51)), (1, .int a1), (2, .int a2), (3, .int a3)] [] h := by
  unfold f_Mod_least
  refine ro_aload_n (pc := 0) 0 dX12_least_0 rfl rfl ?_
  refine ro_iload_n (pc := 1) 1 dX12_least_1 rfl rfl ?_
  refine ro_cvP (pc := 2) (kc := 2) (avs := [.int a1]) (st := []) ok_Mod_isStretch wd_1626 cl_51 cv_51 rfl ⟨by decide, by decide⟩ ⟨Nat.zero_le _, Nat.zero_le _⟩ (c_Mod_isStretch X N h a1) rfl rfl (Nat.le_of_ble_eq_true rfl) dX12_least_2 (fun x1 => ?_)
  refine ro_if_eq (tgt := 27) (pc := 5) dX12_least_5 (by decide) (fun _ => ?_) (fun _ => ?_)
  · skip
    refine ro_iconst (v := (-1)) (pc := 27) dX12_least_27 (by decide) ?_
    exact ro_iret (pc := 28) rfl rfl dX12_least_28
  · skip
    refine ro_iload_n (pc := 8) 2 dX12_least_8 rfl rfl ?_
    refine ro_iconst (v := 0) (pc := 9) dX12_least_9 (by decide) ?_
    refine ro_bipush (v := 99) (pc := 10) dX12_least_10 (by decide) ?_
    refine ro_csP (pc := 12) (kc := 1) (avs := [.int a2, .int 0, .int 99]) (st := []) ok_Mod_in wd_1523 ⟨by decide, by decide⟩ ⟨Nat.zero_le _, Nat.zero_le _⟩ (c_Mod_in X N h a2 0 99) rfl rfl (Nat.le_of_ble_eq_true rfl) dX12_least_12 (fun x2 => ?_)
    refine ro_if_eq (tgt := 27) (pc := 15) dX12_least_15 (by decide) (fun _ => ?_) (fun _ => ?_)
    · skip
      refine ro_iconst (v := (-1)) (pc := 27) dX12_least_27 (by decide) ?_
      exact ro_iret (pc := 28) rfl rfl dX12_least_28
    · skip
      refine ro_iload_n (pc := 18) 3 dX12_least_18 rfl rfl ?_
      refine ro_iconst (v := 0) (pc := 19) dX12_least_19 (by decide) ?_
      refine ro_iconst (v := 1) (pc := 20) dX12_least_20 (by decide) ?_
      refine ro_csP (pc := 21) (kc := 1) (avs := [.int a3, .int 0, .int 1]) (st := []) ok_Mod_in wd_1523 ⟨by decide, by decide⟩ ⟨Nat.zero_le _, Nat.zero_le _⟩ (c_Mod_in X N h a3 0 1) rfl rfl (Nat.le_of_ble_eq_true rfl) dX12_least_21 (fun x3 => ?_)
      refine ro_if_ne (tgt := 29) (pc := 24) dX12_least_24 (by decide) (fun _ => ?_) (fun _ => ?_)
      · skip
        refine ro_iconst (v := 0) (pc := 29) dX12_least_29 (by decide) ?_
        refine ro_istore (pc := 30) (lv' := [(4, .int 0), (0, .ref (xa X 51)), (1, .int a1), (2, .int a2), (3, .int a3)]) dX12_least_30 (by decide) rfl ?_
        refine ro_jn (pcj := 64) (lvs := fun (s : mu_H) => [(0, .ref (xa X 51)), (1, .int a1), (2, .int a2), (3, .int a3)]) (hs := fun (s : mu_H) => s) (sts := fun (s : mu_H) => []) (fun h5 => ?_) (fun k4 hk4 => ?_)
        · try dsimp only
          refine ro_iconst (v := 0) (pc := 64) dX12_least_64 (by decide) ?_
          refine ro_istore (pc := 65) (lv' := [(4, .int 0), (0, .ref (xa X 51)), (1, .int a1), (2, .int a2), (3, .int a3)]) dX12_least_65 (by decide) rfl ?_
          refine ro_jn (pcj := 94) (lvs := fun (s : Int32 × mu_H) => [(0, .ref (xa X 51)), (3, .int a3), (4, .int s.1)]) (hs := fun (s : Int32 × mu_H) => s.2) (sts := fun (s : Int32 × mu_H) => []) (fun s => ?_) (fun k6 hk6 => ?_)
          · obtain ⟨x7, h8⟩ := s; try dsimp only
            refine ro_iload_n (pc := 94) 1 dX12_least_94 rfl rfl ?_
            refine ro_if_ne (tgt := 103) (pc := 95) dX12_least_95 (by decide) (fun _ => ?_) (fun _ => ?_)
            · skip
              refine ro_aload_n (pc := 103) 0 dX12_least_103 rfl rfl ?_
              refine gf_X12_35 (pc := 104) wd_1357 dX12_least_104 ?_
              exact ro_iret (pc := 107) rfl rfl dX12_least_107
            · skip
              refine ro_iload (pc := 98) 2 dX12_least_98 rfl ?_
              refine ro_goto (tgt := 107) (pc := 100) dX12_least_100 (by decide) ?_
              exact ro_iret (pc := 107) rfl rfl dX12_least_107
          · skip
            refine ro_lv [1, 2, 3, 4, 0] rfl ?_
            refine ro_lp (pc := 67) (lvs := fun (s : Int32 × mu_H) => [(0, .ref (xa X 51)), (1, .int a1), (2, .int a2), (3, .int a3), (4, .int s.1)]) (hs := fun (s : Int32 × mu_H) => s.2) (fun rec9 hrec9 s => ?_) N (0, h5)
            obtain ⟨x10, h11⟩ := s; unfold f_Mod_least_L67; try dsimp only
            refine ro_iload (pc := 67) 4 dX12_least_67 rfl ?_
            refine ro_bipush (v := 6) (pc := 69) dX12_least_69 (by decide) ?_
            refine ro_icmp_gt (tgt := 114) (pc := 71) dX12_least_71 (by decide) (fun _ => ?_) (fun _ => ?_)
            · skip
              refine ro_iconst (v := (-1)) (pc := 114) dX12_least_114 (by decide) ?_
              exact ro_iret (pc := 115) rfl rfl dX12_least_115
            · skip
              refine ro_aload_n (pc := 74) 0 dX12_least_74 rfl rfl ?_
              refine ro_iload_n (pc := 75) 1 dX12_least_75 rfl rfl ?_
              refine ro_iload (pc := 76) 4 dX12_least_76 rfl ?_
              refine ro_aload_n (pc := 78) 0 dX12_least_78 rfl rfl ?_
              refine gf_X12_27 (pc := 79) wd_1349 dX12_least_79 ?_
              refine ro_iconst (v := 0) (pc := 82) dX12_least_82 (by decide) ?_
              refine ro_iload_n (pc := 83) 1 dX12_least_83 rfl rfl ?_
              refine ro_iadd (pc := 84) dX12_least_84 ?_
              refine ro_iald (pc := 85) (n := 214) cl_68 cv_68 dX12_least_85 ?_
              refine ro_iload_n (pc := 86) 2 dX12_least_86 rfl rfl ?_
              refine ro_iconst (v := 0) (pc := 87) dX12_least_87 (by decide) ?_
              refine ro_cvI (pc := 88) (kc := 16) (avs := [.int a1, .int x10, .int (h11.1 68 (0 + a1).toNatClampNeg), .int a2, .int 0]) (st := []) ok_Mod_canMend wd_1775 cl_51 cv_51 rfl ⟨by decide, by decide⟩ ⟨Nat.zero_le _, Nat.zero_le _⟩ (c_Mod_canMend X N h11 a1 x10 (h11.1 68 (0 + a1).toNatClampNeg) a2 0) rfl rfl (Nat.le_of_ble_eq_true rfl) dX12_least_88 (fun x12 h13 => ?_)
              refine ro_if_eq (tgt := 108) (pc := 91) dX12_least_91 (by decide) (fun _ => ?_) (fun _ => ?_)
              · skip
                refine ro_iinc (pc := 108) (v := x10 + 1) (lv' := [(4, .int (x10 + 1)), (0, .ref (xa X 51)), (1, .int a1), (2, .int a2), (3, .int a3)]) 4 dX12_least_108 rfl rfl (by decide) rfl ?_
                refine ro_goto (tgt := 67) (pc := 111) dX12_least_111 (by decide) ?_
                refine ro_lv [1, 2, 3, 4, 0] rfl ?_
                exact hrec9 (x10 + 1, h13)
              · skip
                refine ro_lv [0, 3, 4] rfl ?_
                exact hk6 (x10, h13)
        · skip
          refine ro_lv [1, 2, 3, 4, 0] rfl ?_
          refine ro_lp (pc := 32) (lvs := fun (s : Int32 × mu_H) => [(0, .ref (xa X 51)), (1, .int a1), (2, .int a2), (3, .int a3), (4, .int s.1)]) (hs := fun (s : Int32 × mu_H) => s.2) (fun rec15 hrec15 s => ?_) N (0, h)
          obtain ⟨x16, h17⟩ := s; unfold f_Mod_least_L32; try dsimp only
          refine ro_iload (pc := 32) 4 dX12_least_32 rfl ?_
          refine ro_aload_n (pc := 34) 0 dX12_least_34 rfl rfl ?_
          refine gf_X12_26 (pc := 35) wd_1348 dX12_least_35 ?_
          refine ro_icmp_ge (tgt := 64) (pc := 38) dX12_least_38 (by decide) (fun _ => ?_) (fun _ => ?_)
          · skip
            refine ro_lv [0, 1, 2, 3] rfl ?_
            exact hk4 h17
          · skip
            refine ro_aload_n (pc := 41) 0 dX12_least_41 rfl rfl ?_
            refine gf_X12_34 (pc := 42) wd_1356 dX12_least_42 ?_
            refine ro_iload (pc := 45) 4 dX12_least_45 rfl ?_
            refine ro_aload_n (pc := 47) 0 dX12_least_47 rfl rfl ?_
            refine gf_X12_27 (pc := 48) wd_1349 dX12_least_48 ?_
            refine ro_bipush (v := 18) (pc := 51) dX12_least_51 (by decide) ?_
            refine ro_iload (pc := 53) 4 dX12_least_53 rfl ?_
            refine ro_iadd (pc := 55) dX12_least_55 ?_
            refine ro_iald (pc := 56) (n := 214) cl_68 cv_68 dX12_least_56 ?_
            refine ro_iast (pc := 57) (n := 6) cl_72 cv_72 dX12_least_57 ?_
            refine ro_bnh (fun h18 => ?_)
            refine ro_iinc (pc := 58) (v := x16 + 1) (lv' := [(4, .int (x16 + 1)), (0, .ref (xa X 51)), (1, .int a1), (2, .int a2), (3, .int a3)]) 4 dX12_least_58 rfl rfl (by decide) rfl ?_
            refine ro_goto (tgt := 32) (pc := 61) dX12_least_61 (by decide) ?_
            refine ro_lv [1, 2, 3, 4, 0] rfl ?_
            exact hrec15 (x16 + 1, h18)
      · skip
        refine ro_iconst (v := (-1)) (pc := 27) dX12_least_27 (by decide) ?_
        exact ro_iret (pc := 28) rfl rfl dX12_least_28
theorem c_Mod_least (X : mu_X) (N : Nat) (h : mu_H) (a1 : Int32) (a2 : Int32) (a3 : Int32) : ∀ r, f_Mod_least N h a1 a2 a3 = some r → mI X m_Mod_least 17 [.ref (xa X 51), .int a1, .int a2, .int a3] h r.1 r.2 := fun r hr => mI_of (by decide) rfl (Nat.le_of_ble_eq_true rfl) rfl (cb_Mod_least X N h a1 a2 a3 r hr)
set_option maxRecDepth 20000 in
theorem cb_Mod_log (X : mu_X) (N : Nat) (h : mu_H) (a1 : Int32) (a2 : Int32) : aG X m_Mod_log (rmk 2) (fun _ => ax X) (fun _ _ _ => True) 0 0 (fun r : Int32 => qI X r h) (f_Mod_log N h a1 a2) 0 [(0, .ref (xa X 51)), (1, .int a1), (2, .int a2)] [] h := by
  unfold f_Mod_log
  refine ro_iload_n (pc := 0) 1 dX12_log_0 rfl rfl ?_
  refine ro_iconst (v := 0) (pc := 1) dX12_log_1 (by decide) ?_
  refine ro_aload_n (pc := 2) 0 dX12_log_2 rfl rfl ?_
  refine gf_X12_27 (pc := 3) wd_1349 dX12_log_3 ?_
  refine ro_bipush (v := 33) (pc := 6) dX12_log_6 (by decide) ?_
  refine ro_iald (pc := 8) (n := 214) cl_68 cv_68 dX12_log_8 ?_
  refine ro_iconst (v := 1) (pc := 9) dX12_log_9 (by decide) ?_
  refine ro_isub (pc := 10) dX12_log_10 ?_
  refine ro_csP (pc := 11) (kc := 1) (avs := [.int a1, .int 0, .int ((h.1 68 (33 : Int32).toNatClampNeg) - 1)]) (st := []) ok_Mod_in wd_1523 ⟨by decide, by decide⟩ ⟨Nat.zero_le _, Nat.zero_le _⟩ (c_Mod_in X N h a1 0 ((h.1 68 (33 : Int32).toNatClampNeg) - 1)) rfl rfl (Nat.le_of_ble_eq_true rfl) dX12_log_11 (fun x1 => ?_)
  refine ro_if_eq (tgt := 52) (pc := 14) dX12_log_14 (by decide) (fun _ => ?_) (fun _ => ?_)
  · skip
    refine ro_iconst (v := (-1)) (pc := 52) dX12_log_52 (by decide) ?_
    exact ro_iret (pc := 53) rfl rfl dX12_log_53
  · skip
    refine ro_iload_n (pc := 17) 2 dX12_log_17 rfl rfl ?_
    refine ro_iconst (v := 0) (pc := 18) dX12_log_18 (by decide) ?_
    refine ro_iconst (v := 2) (pc := 19) dX12_log_19 (by decide) ?_
    refine ro_csP (pc := 20) (kc := 1) (avs := [.int a2, .int 0, .int 2]) (st := []) ok_Mod_in wd_1523 ⟨by decide, by decide⟩ ⟨Nat.zero_le _, Nat.zero_le _⟩ (c_Mod_in X N h a2 0 2) rfl rfl (Nat.le_of_ble_eq_true rfl) dX12_log_20 (fun x2 => ?_)
    refine ro_if_eq (tgt := 52) (pc := 23) dX12_log_23 (by decide) (fun _ => ?_) (fun _ => ?_)
    · skip
      refine ro_iconst (v := (-1)) (pc := 52) dX12_log_52 (by decide) ?_
      exact ro_iret (pc := 53) rfl rfl dX12_log_53
    · skip
      refine ro_aload_n (pc := 26) 0 dX12_log_26 rfl rfl ?_
      refine gf_X12_27 (pc := 27) wd_1349 dX12_log_27 ?_
      refine ro_bipush (v := 34) (pc := 30) dX12_log_30 (by decide) ?_
      refine ro_iconst (v := 3) (pc := 32) dX12_log_32 (by decide) ?_
      refine ro_aload_n (pc := 33) 0 dX12_log_33 rfl rfl ?_
      refine gf_X12_27 (pc := 34) wd_1349 dX12_log_34 ?_
      refine ro_bipush (v := 33) (pc := 37) dX12_log_37 (by decide) ?_
      refine ro_iald (pc := 39) (n := 214) cl_68 cv_68 dX12_log_39 ?_
      refine ro_iconst (v := 1) (pc := 40) dX12_log_40 (by decide) ?_
      refine ro_isub (pc := 41) dX12_log_41 ?_
      refine ro_iload_n (pc := 42) 1 dX12_log_42 rfl rfl ?_
      refine ro_isub (pc := 43) dX12_log_43 ?_
      refine ro_imul (pc := 44) dX12_log_44 ?_
      refine ro_iadd (pc := 45) dX12_log_45 ?_
      refine ro_iload_n (pc := 46) 2 dX12_log_46 rfl rfl ?_
      refine ro_iadd (pc := 47) dX12_log_47 ?_
      refine ro_iald (pc := 48) (n := 214) cl_68 cv_68 dX12_log_48 ?_
      refine ro_goto (tgt := 53) (pc := 49) dX12_log_49 (by decide) ?_
      exact ro_iret (pc := 53) rfl rfl dX12_log_53
theorem c_Mod_log (X : mu_X) (N : Nat) (h : mu_H) (a1 : Int32) (a2 : Int32) : ∀ r, f_Mod_log N h a1 a2 = some r → mI X m_Mod_log 2 [.ref (xa X 51), .int a1, .int a2] h r h := fun r hr => mI_of (by decide) rfl (Nat.le_of_ble_eq_true rfl) rfl (cb_Mod_log X N h a1 a2 r hr)
set_option maxRecDepth 20000 in
theorem cb_Mod_neighbours (X : mu_X) (N : Nat) (h : mu_H) (a1 : Int32) : aG X m_Mod_neighbours (rmk 3) (fun _ => ax X) (fun _ _ _ => True) 0 0 (fun r : Int32 => qI X r h) (f_Mod_neighbours N h a1) 0 [(0, .ref (xa X 51)), (1, .int a1)] [] h := by
  unfold f_Mod_neighbours
  refine ro_aload_n (pc := 0) 0 dX12_neighbours_0 rfl rfl ?_
  refine ro_iload_n (pc := 1) 1 dX12_neighbours_1 rfl rfl ?_
  refine ro_cvP (pc := 2) (kc := 2) (avs := [.int a1]) (st := []) ok_Mod_isStretch wd_1626 cl_51 cv_51 rfl ⟨by decide, by decide⟩ ⟨Nat.zero_le _, Nat.zero_le _⟩ (c_Mod_isStretch X N h a1) rfl rfl (Nat.le_of_ble_eq_true rfl) dX12_neighbours_2 (fun x1 => ?_)
  refine ro_if_ne (tgt := 10) (pc := 5) dX12_neighbours_5 (by decide) (fun _ => ?_) (fun _ => ?_)
  · skip
    refine ro_iconst (v := 0) (pc := 10) dX12_neighbours_10 (by decide) ?_
    refine ro_istore_n (pc := 11) (lv' := [(2, .int 0), (0, .ref (xa X 51)), (1, .int a1)]) dX12_neighbours_11 rfl (by decide) rfl ?_
    refine ro_iconst (v := 0) (pc := 12) dX12_neighbours_12 (by decide) ?_
    refine ro_istore_n (pc := 13) (lv' := [(3, .int 0), (2, .int 0), (0, .ref (xa X 51)), (1, .int a1)]) dX12_neighbours_13 rfl (by decide) rfl ?_
    refine ro_lv [2, 3, 1, 0] rfl ?_
    refine ro_lp (pc := 14) (lvs := fun (s : Int32 × Int32) => [(0, .ref (xa X 51)), (1, .int a1), (2, .int s.1), (3, .int s.2)]) (hs := fun (s : Int32 × Int32) => h) (fun rec2 hrec2 s => ?_) N (0, 0)
    obtain ⟨x3, x4⟩ := s; unfold f_Mod_neighbours_L14; try dsimp only
    refine ro_iload_n (pc := 14) 3 dX12_neighbours_14 rfl rfl ?_
    refine ro_aload_n (pc := 15) 0 dX12_neighbours_15 rfl rfl ?_
    refine gf_X12_25 (pc := 16) wd_1347 dX12_neighbours_16 ?_
    refine ro_icmp_ge (tgt := 71) (pc := 19) dX12_neighbours_19 (by decide) (fun _ => ?_) (fun _ => ?_)
    · skip
      refine ro_iload_n (pc := 71) 2 dX12_neighbours_71 rfl rfl ?_
      exact ro_iret (pc := 72) rfl rfl dX12_neighbours_72
    · skip
      refine ro_iload_n (pc := 22) 2 dX12_neighbours_22 rfl rfl ?_
      refine ro_iload_n (pc := 23) 3 dX12_neighbours_23 rfl rfl ?_
      refine ro_iload_n (pc := 24) 1 dX12_neighbours_24 rfl rfl ?_
      refine ro_jn (pcj := 63) (lvs := fun (s : Int32) => [(0, .ref (xa X 51)), (1, .int a1), (3, .int x4)]) (hs := fun (s : Int32) => h) (sts := fun (s : Int32) => [.int s, .int x3]) (fun x6 => ?_) (fun j5 hj5 => ?_)
      · try dsimp only
        refine ro_ior (pc := 63) dX12_neighbours_63 ?_
        refine ro_bn (fun x7 => ?_)
        refine ro_istore_n (pc := 64) (lv' := [(2, .int x7), (0, .ref (xa X 51)), (1, .int a1), (3, .int x4)]) dX12_neighbours_64 rfl (by decide) rfl ?_
        refine ro_iinc (pc := 65) (v := x4 + 1) (lv' := [(3, .int (x4 + 1)), (2, .int x7), (0, .ref (xa X 51)), (1, .int a1)]) 3 dX12_neighbours_65 rfl rfl (by decide) rfl ?_
        refine ro_goto (tgt := 14) (pc := 68) dX12_neighbours_68 (by decide) ?_
        refine ro_lv [2, 3, 1, 0] rfl ?_
        exact hrec2 (x7, x4 + 1)
      · skip
        refine ro_jn (pcj := 62) (lvs := fun (s : Unit) => [(0, .ref (xa X 51)), (1, .int a1), (3, .int x4)]) (hs := fun (s : Unit) => h) (sts := fun (s : Unit) => [.int x3]) (fun s => ?_) (fun j8 hj8 => ?_)
        · try dsimp only
          refine ro_iconst (v := 0) (pc := 62) dX12_neighbours_62 (by decide) ?_
          exact hj5 0
        · skip
          refine ro_icmp_eq (tgt := 62) (pc := 25) dX12_neighbours_25 (by decide) (fun _ => ?_) (fun _ => ?_)
          · skip
            refine ro_lv [0, 1, 3] rfl ?_
            exact hj8 ()
          · skip
            refine ro_aload_n (pc := 28) 0 dX12_neighbours_28 rfl rfl ?_
            refine ro_iload_n (pc := 29) 3 dX12_neighbours_29 rfl rfl ?_
            refine ro_aload_n (pc := 30) 0 dX12_neighbours_30 rfl rfl ?_
            refine ro_iload_n (pc := 31) 1 dX12_neighbours_31 rfl rfl ?_
            refine ro_iconst (v := 0) (pc := 32) dX12_neighbours_32 (by decide) ?_
            refine ro_cvP (pc := 33) (kc := 1) (avs := [.int a1, .int 0]) (st := [.int x4, .ref (xa X 51), .int x3]) ok_Mod_of wd_1608 cl_51 cv_51 rfl ⟨by decide, by decide⟩ ⟨Nat.zero_le _, Nat.zero_le _⟩ (c_Mod_of X N h a1 0) rfl rfl (Nat.le_of_ble_eq_true rfl) dX12_neighbours_33 (fun x9 => ?_)
            refine ro_cvP (pc := 36) (kc := 2) (avs := [.int x4, .int x9]) (st := [.int x3]) ok_Mod_isAt wd_1721 cl_51 cv_51 rfl ⟨by decide, by decide⟩ ⟨Nat.zero_le _, Nat.zero_le _⟩ (c_Mod_isAt X N h x4 x9) rfl rfl (Nat.le_of_ble_eq_true rfl) dX12_neighbours_36 (fun x10 => ?_)
            refine ro_jn (pcj := 56) (lvs := fun (s : Unit) => [(0, .ref (xa X 51)), (1, .int a1), (3, .int x4)]) (hs := fun (s : Unit) => h) (sts := fun (s : Unit) => [.int x3]) (fun s => ?_) (fun j11 hj11 => ?_)
            · try dsimp only
              refine ro_iconst (v := 1) (pc := 56) dX12_neighbours_56 (by decide) ?_
              refine ro_iload_n (pc := 57) 2 dX12_neighbours_57 rfl rfl ?_
              refine ro_ishl (pc := 58) dX12_neighbours_58 ?_
              refine ro_goto (tgt := 63) (pc := 59) dX12_neighbours_59 (by decide) ?_
              exact hj5 ((1 : Int32) <<< (x4 &&& 31))
            · skip
              refine ro_if_ne (tgt := 56) (pc := 39) dX12_neighbours_39 (by decide) (fun _ => ?_) (fun _ => ?_)
              · skip
                refine ro_lv [0, 1, 3] rfl ?_
                exact hj11 ()
              · skip
                refine ro_aload_n (pc := 42) 0 dX12_neighbours_42 rfl rfl ?_
                refine ro_iload_n (pc := 43) 3 dX12_neighbours_43 rfl rfl ?_
                refine ro_aload_n (pc := 44) 0 dX12_neighbours_44 rfl rfl ?_
                refine ro_iload_n (pc := 45) 1 dX12_neighbours_45 rfl rfl ?_
                refine ro_iconst (v := 1) (pc := 46) dX12_neighbours_46 (by decide) ?_
                refine ro_cvP (pc := 47) (kc := 1) (avs := [.int a1, .int 1]) (st := [.int x4, .ref (xa X 51), .int x3]) ok_Mod_of wd_1608 cl_51 cv_51 rfl ⟨by decide, by decide⟩ ⟨Nat.zero_le _, Nat.zero_le _⟩ (c_Mod_of X N h a1 1) rfl rfl (Nat.le_of_ble_eq_true rfl) dX12_neighbours_47 (fun x12 => ?_)
                refine ro_cvP (pc := 50) (kc := 2) (avs := [.int x4, .int x12]) (st := [.int x3]) ok_Mod_isAt wd_1721 cl_51 cv_51 rfl ⟨by decide, by decide⟩ ⟨Nat.zero_le _, Nat.zero_le _⟩ (c_Mod_isAt X N h x4 x12) rfl rfl (Nat.le_of_ble_eq_true rfl) dX12_neighbours_50 (fun x13 => ?_)
                refine ro_if_eq (tgt := 62) (pc := 53) dX12_neighbours_53 (by decide) (fun _ => ?_) (fun _ => ?_)
                · skip
                  refine ro_lv [0, 1, 3] rfl ?_
                  exact hj8 ()
                · skip
                  refine ro_lv [0, 1, 3] rfl ?_
                  exact hj11 ()
  · skip
    refine ro_iconst (v := (-1)) (pc := 8) dX12_neighbours_8 (by decide) ?_
    exact ro_iret (pc := 9) rfl rfl dX12_neighbours_9
theorem c_Mod_neighbours (X : mu_X) (N : Nat) (h : mu_H) (a1 : Int32) : ∀ r, f_Mod_neighbours N h a1 = some r → mI X m_Mod_neighbours 3 [.ref (xa X 51), .int a1] h r h := fun r hr => mI_of (by decide) rfl (Nat.le_of_ble_eq_true rfl) rfl (cb_Mod_neighbours X N h a1 r hr)
set_option maxRecDepth 20000 in
theorem cb_Mod_odds (X : mu_X) (N : Nat) (h : mu_H) (a1 : Int32) (a2 : Int32) (a3 : Int32) : aG X m_Mod_odds (rmk 3) (fun _ => ax X) (fun _ _ _ => True) 0 0 (fun r : Int32 × mu_H => qI X r.1 r.2) (f_Mod_odds N h a1 a2 a3) 0 [(0, .ref (xa X 51)), (1, .int a1), (2, .int a2), (3, .int a3)] [] h := by
  unfold f_Mod_odds
  refine ro_aload_n (pc := 0) 0 dX12_odds_0 rfl rfl ?_
  refine ro_iload_n (pc := 1) 1 dX12_odds_1 rfl rfl ?_
  refine ro_cvP (pc := 2) (kc := 2) (avs := [.int a1]) (st := []) ok_Mod_isStretch wd_1626 cl_51 cv_51 rfl ⟨by decide, by decide⟩ ⟨Nat.zero_le _, Nat.zero_le _⟩ (c_Mod_isStretch X N h a1) rfl rfl (Nat.le_of_ble_eq_true rfl) dX12_odds_2 (fun x1 => ?_)
  refine ro_if_eq (tgt := 28) (pc := 5) dX12_odds_5 (by decide) (fun _ => ?_) (fun _ => ?_)
  · skip
    refine ro_iconst (v := (-1)) (pc := 28) dX12_odds_28 (by decide) ?_
    exact ro_iret (pc := 29) rfl rfl dX12_odds_29
  · skip
    refine ro_iload_n (pc := 8) 2 dX12_odds_8 rfl rfl ?_
    refine ro_iconst (v := 0) (pc := 9) dX12_odds_9 (by decide) ?_
    refine ro_bipush (v := 40) (pc := 10) dX12_odds_10 (by decide) ?_
    refine ro_csP (pc := 12) (kc := 1) (avs := [.int a2, .int 0, .int 40]) (st := []) ok_Mod_in wd_1523 ⟨by decide, by decide⟩ ⟨Nat.zero_le _, Nat.zero_le _⟩ (c_Mod_in X N h a2 0 40) rfl rfl (Nat.le_of_ble_eq_true rfl) dX12_odds_12 (fun x2 => ?_)
    refine ro_if_eq (tgt := 28) (pc := 15) dX12_odds_15 (by decide) (fun _ => ?_) (fun _ => ?_)
    · skip
      refine ro_iconst (v := (-1)) (pc := 28) dX12_odds_28 (by decide) ?_
      exact ro_iret (pc := 29) rfl rfl dX12_odds_29
    · skip
      refine ro_iload_n (pc := 18) 3 dX12_odds_18 rfl rfl ?_
      refine ro_iconst (v := 0) (pc := 19) dX12_odds_19 (by decide) ?_
      refine ro_bipush (v := 100) (pc := 20) dX12_odds_20 (by decide) ?_
      refine ro_csP (pc := 22) (kc := 1) (avs := [.int a3, .int 0, .int 100]) (st := []) ok_Mod_in wd_1523 ⟨by decide, by decide⟩ ⟨Nat.zero_le _, Nat.zero_le _⟩ (c_Mod_in X N h a3 0 100) rfl rfl (Nat.le_of_ble_eq_true rfl) dX12_odds_22 (fun x3 => ?_)
      refine ro_if_ne (tgt := 30) (pc := 25) dX12_odds_25 (by decide) (fun _ => ?_) (fun _ => ?_)
      · skip
        refine ro_iconst (v := 0) (pc := 30) dX12_odds_30 (by decide) ?_
        refine ro_istore (pc := 31) (lv' := [(4, .int 0), (0, .ref (xa X 51)), (1, .int a1), (2, .int a2), (3, .int a3)]) dX12_odds_31 (by decide) rfl ?_
        refine ro_jn (pcj := 73) (lvs := fun (s : mu_H) => [(0, .ref (xa X 51)), (1, .int a1), (2, .int a2), (3, .int a3)]) (hs := fun (s : mu_H) => s) (sts := fun (s : mu_H) => []) (fun h5 => ?_) (fun k4 hk4 => ?_)
        · try dsimp only
          refine ro_iconst (v := 0) (pc := 73) dX12_odds_73 (by decide) ?_
          refine ro_istore (pc := 74) (lv' := [(4, .int 0), (0, .ref (xa X 51)), (1, .int a1), (2, .int a2), (3, .int a3)]) dX12_odds_74 (by decide) rfl ?_
          refine ro_jn (pcj := 244) (lvs := fun (s : mu_H) => [(0, .ref (xa X 51))]) (hs := fun (s : mu_H) => s) (sts := fun (s : mu_H) => []) (fun h7 => ?_) (fun k6 hk6 => ?_)
          · try dsimp only
            refine ro_lconst (v := 0) (pc := 244) dX12_odds_244 (by decide) ?_
            refine ro_lstore (pc := 245) (lv' := [(4, .long 0), (0, .ref (xa X 51))]) dX12_odds_245 (by decide) rfl ?_
            refine ro_bipush (v := 60) (pc := 247) dX12_odds_247 (by decide) ?_
            refine ro_istore (pc := 249) (lv' := [(6, .int 60), (4, .long 0), (0, .ref (xa X 51))]) dX12_odds_249 (by decide) rfl ?_
            refine ro_jn (pcj := 276) (lvs := fun (s : Int64) => [(4, .long s)]) (hs := fun (s : Int64) => h7) (sts := fun (s : Int64) => []) (fun z9 => ?_) (fun k8 hk8 => ?_)
            · try dsimp only
              refine ro_lload (pc := 276) 0 dX12_odds_276 rfl ?_
              refine ro_l2i (pc := 278) dX12_odds_278 ?_
              exact ro_iret (pc := 279) rfl rfl dX12_odds_279
            · skip
              refine ro_lv [2, 1, 0] rfl ?_
              refine ro_lp (pc := 251) (lvs := fun (s : Int64 × Int32) => [(0, .ref (xa X 51)), (4, .long s.1), (6, .int s.2)]) (hs := fun (s : Int64 × Int32) => h7) (fun rec10 hrec10 s => ?_) N (0, 60)
              obtain ⟨z11, x12⟩ := s; unfold f_Mod_odds_L251; try dsimp only
              refine ro_iload (pc := 251) 2 dX12_odds_251 rfl ?_
              refine ro_bipush (v := 99) (pc := 253) dX12_odds_253 (by decide) ?_
              refine ro_icmp_gt (tgt := 276) (pc := 255) dX12_odds_255 (by decide) (fun _ => ?_) (fun _ => ?_)
              · skip
                refine ro_lv [1] rfl ?_
                exact hk8 z11
              · skip
                refine ro_lload (pc := 258) 1 dX12_odds_258 rfl ?_
                refine ro_aload_n (pc := 260) 0 dX12_odds_260 rfl rfl ?_
                refine gf_X12_42 (pc := 261) wd_1364 dX12_odds_261 ?_
                refine ro_iload (pc := 264) 2 dX12_odds_264 rfl ?_
                refine ro_lald (pc := 266) (n := 100) cl_76 cv_76 dX12_odds_266 ?_
                refine ro_ladd (pc := 267) dX12_odds_267 ?_
                refine ro_bnl (fun z13 => ?_)
                refine ro_lstore (pc := 268) (lv' := [(4, .long z13), (0, .ref (xa X 51)), (6, .int x12)]) dX12_odds_268 (by decide) rfl ?_
                refine ro_iinc (pc := 270) (v := x12 + 1) (lv' := [(6, .int (x12 + 1)), (4, .long z13), (0, .ref (xa X 51))]) 2 dX12_odds_270 rfl rfl (by decide) rfl ?_
                refine ro_goto (tgt := 251) (pc := 273) dX12_odds_273 (by decide) ?_
                refine ro_lv [2, 1, 0] rfl ?_
                exact hrec10 (z13, x12 + 1)
          · skip
            refine ro_lv [1, 2, 3, 4, 0] rfl ?_
            refine ro_lp (pc := 76) (lvs := fun (s : Int32 × mu_H) => [(0, .ref (xa X 51)), (1, .int a1), (2, .int a2), (3, .int a3), (4, .int s.1)]) (hs := fun (s : Int32 × mu_H) => s.2) (fun rec14 hrec14 s => ?_) N (0, h5)
            obtain ⟨x15, h16⟩ := s; unfold f_Mod_odds_L76; try dsimp only
            refine ro_iload (pc := 76) 4 dX12_odds_76 rfl ?_
            refine ro_iload_n (pc := 78) 2 dX12_odds_78 rfl rfl ?_
            refine ro_icmp_ge (tgt := 244) (pc := 79) dX12_odds_79 (by decide) (fun _ => ?_) (fun _ => ?_)
            · skip
              refine ro_lv [0] rfl ?_
              exact hk6 h16
            · skip
              refine ro_iconst (v := 0) (pc := 82) dX12_odds_82 (by decide) ?_
              refine ro_istore (pc := 83) (lv' := [(5, .int 0), (0, .ref (xa X 51)), (1, .int a1), (2, .int a2), (3, .int a3), (4, .int x15)]) dX12_odds_83 (by decide) rfl ?_
              refine ro_jn (pcj := 106) (lvs := fun (s : mu_H) => [(0, .ref (xa X 51)), (1, .int a1), (2, .int a2), (3, .int a3), (4, .int x15)]) (hs := fun (s : mu_H) => s) (sts := fun (s : mu_H) => []) (fun h18 => ?_) (fun k17 hk17 => ?_)
              · try dsimp only
                refine ro_iconst (v := 0) (pc := 106) dX12_odds_106 (by decide) ?_
                refine ro_istore (pc := 107) (lv' := [(5, .int 0), (0, .ref (xa X 51)), (1, .int a1), (2, .int a2), (3, .int a3), (4, .int x15)]) dX12_odds_107 (by decide) rfl ?_
                refine ro_jn (pcj := 208) (lvs := fun (s : mu_H) => [(0, .ref (xa X 51)), (1, .int a1), (2, .int a2), (3, .int a3), (4, .int x15)]) (hs := fun (s : mu_H) => s) (sts := fun (s : mu_H) => []) (fun h20 => ?_) (fun k19 hk19 => ?_)
                · try dsimp only
                  refine ro_iconst (v := 0) (pc := 208) dX12_odds_208 (by decide) ?_
                  refine ro_istore (pc := 209) (lv' := [(5, .int 0), (0, .ref (xa X 51)), (1, .int a1), (2, .int a2), (3, .int a3), (4, .int x15)]) dX12_odds_209 (by decide) rfl ?_
                  refine ro_jn (pcj := 238) (lvs := fun (s : mu_H) => [(0, .ref (xa X 51)), (1, .int a1), (2, .int a2), (3, .int a3), (4, .int x15)]) (hs := fun (s : mu_H) => s) (sts := fun (s : mu_H) => []) (fun h22 => ?_) (fun k21 hk21 => ?_)
                  · try dsimp only
                    refine ro_iinc (pc := 238) (v := x15 + 1) (lv' := [(4, .int (x15 + 1)), (0, .ref (xa X 51)), (1, .int a1), (2, .int a2), (3, .int a3)]) 4 dX12_odds_238 rfl rfl (by decide) rfl ?_
                    refine ro_goto (tgt := 76) (pc := 241) dX12_odds_241 (by decide) ?_
                    refine ro_lv [1, 2, 3, 4, 0] rfl ?_
                    exact hrec14 (x15 + 1, h22)
                  · skip
                    refine ro_lv [1, 2, 3, 4, 5, 0] rfl ?_
                    refine ro_lp (pc := 211) (lvs := fun (s : Int32 × mu_H) => [(0, .ref (xa X 51)), (1, .int a1), (2, .int a2), (3, .int a3), (4, .int x15), (5, .int s.1)]) (hs := fun (s : Int32 × mu_H) => s.2) (fun rec23 hrec23 s => ?_) N (0, h20)
                    obtain ⟨x24, h25⟩ := s; unfold f_Mod_odds_L211; try dsimp only
                    refine ro_iload (pc := 211) 5 dX12_odds_211 rfl ?_
                    refine ro_bipush (v := 99) (pc := 213) dX12_odds_213 (by decide) ?_
                    refine ro_icmp_gt (tgt := 238) (pc := 215) dX12_odds_215 (by decide) (fun _ => ?_) (fun _ => ?_)
                    · skip
                      refine ro_lv [0, 1, 2, 3, 4] rfl ?_
                      exact hk21 h25
                    · skip
                      refine ro_aload_n (pc := 218) 0 dX12_odds_218 rfl rfl ?_
                      refine gf_X12_42 (pc := 219) wd_1364 dX12_odds_219 ?_
                      refine ro_iload (pc := 222) 5 dX12_odds_222 rfl ?_
                      refine ro_aload_n (pc := 224) 0 dX12_odds_224 rfl rfl ?_
                      refine gf_X12_43 (pc := 225) wd_1365 dX12_odds_225 ?_
                      refine ro_iload (pc := 228) 5 dX12_odds_228 rfl ?_
                      refine ro_lald (pc := 230) (n := 100) cl_77 cv_77 dX12_odds_230 ?_
                      refine ro_last (pc := 231) (n := 100) cl_76 cv_76 dX12_odds_231 ?_
                      refine ro_bnh (fun h26 => ?_)
                      refine ro_iinc (pc := 232) (v := x24 + 1) (lv' := [(5, .int (x24 + 1)), (0, .ref (xa X 51)), (1, .int a1), (2, .int a2), (3, .int a3), (4, .int x15)]) 5 dX12_odds_232 rfl rfl (by decide) rfl ?_
                      refine ro_goto (tgt := 211) (pc := 235) dX12_odds_235 (by decide) ?_
                      refine ro_lv [1, 2, 3, 4, 5, 0] rfl ?_
                      exact hrec23 (x24 + 1, h26)
                · skip
                  refine ro_lv [1, 2, 3, 4, 5, 0] rfl ?_
                  refine ro_lp (pc := 109) (lvs := fun (s : Int32 × mu_H) => [(0, .ref (xa X 51)), (1, .int a1), (2, .int a2), (3, .int a3), (4, .int x15), (5, .int s.1)]) (hs := fun (s : Int32 × mu_H) => s.2) (fun rec27 hrec27 s => ?_) N (0, h18)
                  obtain ⟨x28, h29⟩ := s; unfold f_Mod_odds_L109; try dsimp only
                  refine ro_iload (pc := 109) 5 dX12_odds_109 rfl ?_
                  refine ro_bipush (v := 99) (pc := 111) dX12_odds_111 (by decide) ?_
                  refine ro_icmp_gt (tgt := 208) (pc := 113) dX12_odds_113 (by decide) (fun _ => ?_) (fun _ => ?_)
                  · skip
                    refine ro_lv [0, 1, 2, 3, 4] rfl ?_
                    exact hk19 h29
                  · skip
                    refine ro_aload_n (pc := 116) 0 dX12_odds_116 rfl rfl ?_
                    refine gf_X12_42 (pc := 117) wd_1364 dX12_odds_117 ?_
                    refine ro_iload (pc := 120) 5 dX12_odds_120 rfl ?_
                    refine ro_lald (pc := 122) (n := 100) cl_76 cv_76 dX12_odds_122 ?_
                    refine ro_iload_n (pc := 123) 3 dX12_odds_123 rfl rfl ?_
                    refine ro_i2l (pc := 124) dX12_odds_124 ?_
                    refine ro_lmul (pc := 125) dX12_odds_125 ?_
                    refine ro_ldc2 (v := 100) (pc := 126) dX12_odds_126 wd_1891 ?_
                    refine ro_ldiv (pc := 129) dX12_odds_129 (by decide) ?_
                    refine ro_bnl (fun z30 => ?_)
                    refine ro_lstore (pc := 130) (lv' := [(6, .long z30), (0, .ref (xa X 51)), (1, .int a1), (2, .int a2), (3, .int a3), (4, .int x15), (5, .int x28)]) dX12_odds_130 (by decide) rfl ?_
                    refine ro_iload (pc := 132) 6 dX12_odds_132 rfl ?_
                    refine ro_aload_n (pc := 134) 1 dX12_odds_134 rfl rfl ?_
                    refine ro_iload_n (pc := 135) 2 dX12_odds_135 rfl rfl ?_
                    refine ro_iconst (v := 4) (pc := 136) dX12_odds_136 (by decide) ?_
                    refine ro_cvP (pc := 137) (kc := 1) (avs := [.int a1, .int 4]) (st := [.int x28]) ok_Mod_of wd_1608 cl_51 cv_51 rfl ⟨by decide, by decide⟩ ⟨Nat.zero_le _, Nat.zero_le _⟩ (c_Mod_of X N h29 a1 4) rfl rfl (Nat.le_of_ble_eq_true rfl) dX12_odds_137 (fun x31 => ?_)
                    refine ro_iadd (pc := 140) dX12_odds_140 ?_
                    refine ro_bn (fun x32 => ?_)
                    refine ro_istore (pc := 141) (lv' := [(8, .int x32), (6, .long z30), (0, .ref (xa X 51)), (1, .int a1), (2, .int a2), (3, .int a3), (4, .int x15), (5, .int x28)]) dX12_odds_141 (by decide) rfl ?_
                    refine ro_aload_n (pc := 143) 2 dX12_odds_143 rfl rfl ?_
                    refine gf_X12_43 (pc := 144) wd_1365 dX12_odds_144 ?_
                    refine ro_bipush (v := 99) (pc := 147) dX12_odds_147 (by decide) ?_
                    refine ro_iload (pc := 149) 0 dX12_odds_149 rfl ?_
                    refine ro_aload_n (pc := 151) 2 dX12_odds_151 rfl rfl ?_
                    refine gf_X12_22 (pc := 152) wd_1344 dX12_odds_152 ?_
                    refine ro_iconst (v := 1) (pc := 155) dX12_odds_155 (by decide) ?_
                    refine ro_iald (pc := 156) (n := 3) cl_65 cv_65 dX12_odds_156 ?_
                    refine ro_iadd (pc := 157) dX12_odds_157 ?_
                    refine ro_aload_n (pc := 158) 2 dX12_odds_158 rfl rfl ?_
                    refine gf_X12_27 (pc := 159) wd_1349 dX12_odds_159 ?_
                    refine ro_bipush (v := 9) (pc := 162) dX12_odds_162 (by decide) ?_
                    refine ro_iload_n (pc := 164) 3 dX12_odds_164 rfl rfl ?_
                    refine ro_iadd (pc := 165) dX12_odds_165 ?_
                    refine ro_iald (pc := 166) (n := 214) cl_68 cv_68 dX12_odds_166 ?_
                    refine ro_iadd (pc := 167) dX12_odds_167 ?_
                    refine ro_mmin (pc := 168) (st := [.ref (xa X 77)]) wd_1617 (by decide) (Nat.le_of_ble_eq_true rfl) ⟨Nat.zero_le _, Nat.zero_le _⟩ dX12_odds_168 ?_
                    refine ro_dup2_11 (pc := 171) dX12_odds_171 rfl rfl ?_
                    refine ro_lald (pc := 172) (n := 100) cl_77 cv_77 dX12_odds_172 ?_
                    refine ro_lload (pc := 173) 1 dX12_odds_173 rfl ?_
                    refine ro_ladd (pc := 175) dX12_odds_175 ?_
                    refine ro_last (pc := 176) (n := 100) cl_77 cv_77 dX12_odds_176 ?_
                    refine ro_bnh (fun h33 => ?_)
                    refine ro_aload_n (pc := 177) 2 dX12_odds_177 rfl rfl ?_
                    refine gf_X12_43 (pc := 178) wd_1365 dX12_odds_178 ?_
                    refine ro_bipush (v := 99) (pc := 181) dX12_odds_181 (by decide) ?_
                    refine ro_iload (pc := 183) 0 dX12_odds_183 rfl ?_
                    refine ro_mmin (pc := 185) (st := [.ref (xa X 77)]) wd_1617 (by decide) (Nat.le_of_ble_eq_true rfl) ⟨Nat.zero_le _, Nat.zero_le _⟩ dX12_odds_185 ?_
                    refine ro_dup2_11 (pc := 188) dX12_odds_188 rfl rfl ?_
                    refine ro_lald (pc := 189) (n := 100) cl_77 cv_77 dX12_odds_189 ?_
                    refine ro_aload_n (pc := 190) 2 dX12_odds_190 rfl rfl ?_
                    refine gf_X12_42 (pc := 191) wd_1364 dX12_odds_191 ?_
                    refine ro_iload (pc := 194) 7 dX12_odds_194 rfl ?_
                    refine ro_lald (pc := 196) (n := 100) cl_76 cv_76 dX12_odds_196 ?_
                    refine ro_lload (pc := 197) 1 dX12_odds_197 rfl ?_
                    refine ro_lsub (pc := 199) dX12_odds_199 ?_
                    refine ro_ladd (pc := 200) dX12_odds_200 ?_
                    refine ro_last (pc := 201) (n := 100) cl_77 cv_77 dX12_odds_201 ?_
                    refine ro_bnh (fun h34 => ?_)
                    refine ro_iinc (pc := 202) (v := x28 + 1) (lv' := [(5, .int (x28 + 1)), (8, .int x32), (6, .long z30), (0, .ref (xa X 51)), (1, .int a1), (2, .int a2), (3, .int a3), (4, .int x15)]) 7 dX12_odds_202 rfl rfl (by decide) rfl ?_
                    refine ro_goto (tgt := 109) (pc := 205) dX12_odds_205 (by decide) ?_
                    refine ro_lv [3, 4, 5, 6, 7, 0] rfl ?_
                    exact hrec27 (x28 + 1, h34)
              · skip
                refine ro_lv [1, 2, 3, 4, 5, 0] rfl ?_
                refine ro_lp (pc := 85) (lvs := fun (s : Int32 × mu_H) => [(0, .ref (xa X 51)), (1, .int a1), (2, .int a2), (3, .int a3), (4, .int x15), (5, .int s.1)]) (hs := fun (s : Int32 × mu_H) => s.2) (fun rec35 hrec35 s => ?_) N (0, h16)
                obtain ⟨x36, h37⟩ := s; unfold f_Mod_odds_L85; try dsimp only
                refine ro_iload (pc := 85) 5 dX12_odds_85 rfl ?_
                refine ro_bipush (v := 99) (pc := 87) dX12_odds_87 (by decide) ?_
                refine ro_icmp_gt (tgt := 106) (pc := 89) dX12_odds_89 (by decide) (fun _ => ?_) (fun _ => ?_)
                · skip
                  refine ro_lv [0, 1, 2, 3, 4] rfl ?_
                  exact hk17 h37
                · skip
                  refine ro_aload_n (pc := 92) 0 dX12_odds_92 rfl rfl ?_
                  refine gf_X12_43 (pc := 93) wd_1365 dX12_odds_93 ?_
                  refine ro_iload (pc := 96) 5 dX12_odds_96 rfl ?_
                  refine ro_lconst (v := 0) (pc := 98) dX12_odds_98 (by decide) ?_
                  refine ro_last (pc := 99) (n := 100) cl_77 cv_77 dX12_odds_99 ?_
                  refine ro_bnh (fun h38 => ?_)
                  refine ro_iinc (pc := 100) (v := x36 + 1) (lv' := [(5, .int (x36 + 1)), (0, .ref (xa X 51)), (1, .int a1), (2, .int a2), (3, .int a3), (4, .int x15)]) 5 dX12_odds_100 rfl rfl (by decide) rfl ?_
                  refine ro_goto (tgt := 85) (pc := 103) dX12_odds_103 (by decide) ?_
                  refine ro_lv [1, 2, 3, 4, 5, 0] rfl ?_
                  exact hrec35 (x36 + 1, h38)
        · skip
          refine ro_lv [1, 2, 3, 4, 0] rfl ?_
          refine ro_lp (pc := 33) (lvs := fun (s : Int32 × mu_H) => [(0, .ref (xa X 51)), (1, .int a1), (2, .int a2), (3, .int a3), (4, .int s.1)]) (hs := fun (s : Int32 × mu_H) => s.2) (fun rec39 hrec39 s => ?_) N (0, h)
          obtain ⟨x40, h41⟩ := s; unfold f_Mod_odds_L33; try dsimp only
          refine ro_iload (pc := 33) 4 dX12_odds_33 rfl ?_
          refine ro_bipush (v := 99) (pc := 35) dX12_odds_35 (by decide) ?_
          refine ro_icmp_gt (tgt := 73) (pc := 37) dX12_odds_37 (by decide) (fun _ => ?_) (fun _ => ?_)
          · skip
            refine ro_lv [0, 1, 2, 3] rfl ?_
            exact hk4 h41
          · skip
            refine ro_aload_n (pc := 40) 0 dX12_odds_40 rfl rfl ?_
            refine gf_X12_42 (pc := 41) wd_1364 dX12_odds_41 ?_
            refine ro_iload (pc := 44) 4 dX12_odds_44 rfl ?_
            refine ro_iload (pc := 46) 4 dX12_odds_46 rfl ?_
            refine ro_aload_n (pc := 48) 0 dX12_odds_48 rfl rfl ?_
            refine gf_X12_27 (pc := 49) wd_1349 dX12_odds_49 ?_
            refine ro_iconst (v := 0) (pc := 52) dX12_odds_52 (by decide) ?_
            refine ro_iload_n (pc := 53) 1 dX12_odds_53 rfl rfl ?_
            refine ro_iadd (pc := 54) dX12_odds_54 ?_
            refine ro_iald (pc := 55) (n := 214) cl_68 cv_68 dX12_odds_55 ?_
            refine ro_jn (pcj := 66) (lvs := fun (s : Int64) => [(0, .ref (xa X 51)), (1, .int a1), (2, .int a2), (3, .int a3), (4, .int x40)]) (hs := fun (s : Int64) => h41) (sts := fun (s : Int64) => [.long s, .int x40, .ref (xa X 76)]) (fun z43 => ?_) (fun j42 hj42 => ?_)
            · try dsimp only
              refine ro_last (pc := 66) (n := 100) cl_76 cv_76 dX12_odds_66 ?_
              refine ro_bnh (fun h44 => ?_)
              refine ro_iinc (pc := 67) (v := x40 + 1) (lv' := [(4, .int (x40 + 1)), (0, .ref (xa X 51)), (1, .int a1), (2, .int a2), (3, .int a3)]) 4 dX12_odds_67 rfl rfl (by decide) rfl ?_
              refine ro_goto (tgt := 33) (pc := 70) dX12_odds_70 (by decide) ?_
              refine ro_lv [1, 2, 3, 4, 0] rfl ?_
              exact hrec39 (x40 + 1, h44)
            · skip
              refine ro_icmp_ne (tgt := 65) (pc := 56) dX12_odds_56 (by decide) (fun _ => ?_) (fun _ => ?_)
              · skip
                refine ro_lconst (v := 0) (pc := 65) dX12_odds_65 (by decide) ?_
                exact hj42 0
              · skip
                refine ro_ldc2 (v := 1000000000) (pc := 59) dX12_odds_59 wd_1890 ?_
                refine ro_goto (tgt := 66) (pc := 62) dX12_odds_62 (by decide) ?_
                exact hj42 1000000000
      · skip
        refine ro_iconst (v := (-1)) (pc := 28) dX12_odds_28 (by decide) ?_
        exact ro_iret (pc := 29) rfl rfl dX12_odds_29
theorem c_Mod_odds (X : mu_X) (N : Nat) (h : mu_H) (a1 : Int32) (a2 : Int32) (a3 : Int32) : ∀ r, f_Mod_odds N h a1 a2 a3 = some r → mI X m_Mod_odds 3 [.ref (xa X 51), .int a1, .int a2, .int a3] h r.1 r.2 := fun r hr => mI_of (by decide) rfl (Nat.le_of_ble_eq_true rfl) rfl (cb_Mod_odds X N h a1 a2 a3 r hr)
set_option maxRecDepth 20000 in
theorem cb_Mod_passSeason (X : mu_X) (N : Nat) (h : mu_H) : aG X m_Mod_passSeason (rmk 3) (fun _ => ax X) (fun _ _ _ => True) 0 0 (fun r : mu_H => qV X r) (f_Mod_passSeason N h) 0 [(0, .ref (xa X 51))] [] h := by
  unfold f_Mod_passSeason
  refine ro_aload_n (pc := 0) 0 dX12_passSeason_0 rfl rfl ?_
  refine ro_aload_n (pc := 1) 0 dX12_passSeason_1 rfl rfl ?_
  refine gf_X12_27 (pc := 2) wd_1349 dX12_passSeason_2 ?_
  refine ro_bipush (v := 32) (pc := 5) dX12_passSeason_5 (by decide) ?_
  refine ro_iald (pc := 7) (n := 214) cl_68 cv_68 dX12_passSeason_7 ?_
  refine ro_cvV (pc := 8) (kc := 2) (avs := [.int (h.1 68 (32 : Int32).toNatClampNeg)]) (st := []) ok_Mod_wearOn wd_1737 cl_51 cv_51 rfl ⟨by decide, by decide⟩ ⟨Nat.zero_le _, Nat.zero_le _⟩ (c_Mod_wearOn X N h (h.1 68 (32 : Int32).toNatClampNeg)) rfl rfl (Nat.le_of_ble_eq_true rfl) dX12_passSeason_8 (fun h1 => ?_)
  refine ro_aload_n (pc := 11) 0 dX12_passSeason_11 rfl rfl ?_
  refine gf_X12_27 (pc := 12) wd_1349 dX12_passSeason_12 ?_
  refine ro_bipush (v := 32) (pc := 15) dX12_passSeason_15 (by decide) ?_
  refine ro_dup2_11 (pc := 17) dX12_passSeason_17 rfl rfl ?_
  refine ro_iald (pc := 18) (n := 214) cl_68 cv_68 dX12_passSeason_18 ?_
  refine ro_iconst (v := 1) (pc := 19) dX12_passSeason_19 (by decide) ?_
  refine ro_iadd (pc := 20) dX12_passSeason_20 ?_
  refine ro_iast (pc := 21) (n := 214) cl_68 cv_68 dX12_passSeason_21 ?_
  refine ro_bnh (fun h2 => ?_)
  refine ro_iconst (v := 0) (pc := 22) dX12_passSeason_22 (by decide) ?_
  refine ro_istore_n (pc := 23) (lv' := [(1, .int 0), (0, .ref (xa X 51))]) dX12_passSeason_23 rfl (by decide) rfl ?_
  refine ro_jn (pcj := 99) (lvs := fun (s : mu_H) => [(0, .ref (xa X 51))]) (hs := fun (s : mu_H) => s) (sts := fun (s : mu_H) => []) (fun h4 => ?_) (fun k3 hk3 => ?_)
  · try dsimp only
    refine ro_iconst (v := 0) (pc := 99) dX12_passSeason_99 (by decide) ?_
    refine ro_istore_n (pc := 100) (lv' := [(1, .int 0), (0, .ref (xa X 51))]) dX12_passSeason_100 rfl (by decide) rfl ?_
    refine ro_iconst (v := 0) (pc := 101) dX12_passSeason_101 (by decide) ?_
    refine ro_istore_n (pc := 102) (lv' := [(2, .int 0), (1, .int 0), (0, .ref (xa X 51))]) dX12_passSeason_102 rfl (by decide) rfl ?_
    refine ro_jn (pcj := 138) (lvs := fun (s : Int32) => [(0, .ref (xa X 51)), (1, .int s)]) (hs := fun (s : Int32) => h4) (sts := fun (s : Int32) => []) (fun x6 => ?_) (fun k5 hk5 => ?_)
    · try dsimp only
      refine ro_aload_n (pc := 138) 0 dX12_passSeason_138 rfl rfl ?_
      refine gf_X12_27 (pc := 139) wd_1349 dX12_passSeason_139 ?_
      refine ro_bipush (v := 33) (pc := 142) dX12_passSeason_142 (by decide) ?_
      refine ro_iald (pc := 144) (n := 214) cl_68 cv_68 dX12_passSeason_144 ?_
      refine ro_bipush (v := 60) (pc := 145) dX12_passSeason_145 (by decide) ?_
      refine ro_jn (pcj := 196) (lvs := fun (s : mu_H) => [(0, .ref (xa X 51)), (1, .int x6)]) (hs := fun (s : mu_H) => s) (sts := fun (s : mu_H) => []) (fun h8 => ?_) (fun j7 hj7 => ?_)
      · try dsimp only
        refine ro_bipush (v := 34) (pc := 196) dX12_passSeason_196 (by decide) ?_
        refine ro_iconst (v := 3) (pc := 198) dX12_passSeason_198 (by decide) ?_
        refine ro_aload_n (pc := 199) 0 dX12_passSeason_199 rfl rfl ?_
        refine gf_X12_27 (pc := 200) wd_1349 dX12_passSeason_200 ?_
        refine ro_bipush (v := 33) (pc := 203) dX12_passSeason_203 (by decide) ?_
        refine ro_iald (pc := 205) (n := 214) cl_68 cv_68 dX12_passSeason_205 ?_
        refine ro_imul (pc := 206) dX12_passSeason_206 ?_
        refine ro_iadd (pc := 207) dX12_passSeason_207 ?_
        refine ro_bn (fun x9 => ?_)
        refine ro_istore_n (pc := 208) (lv' := [(2, .int x9), (0, .ref (xa X 51)), (1, .int x6)]) dX12_passSeason_208 rfl (by decide) rfl ?_
        refine ro_aload_n (pc := 209) 1 dX12_passSeason_209 rfl rfl ?_
        refine gf_X12_27 (pc := 210) wd_1349 dX12_passSeason_210 ?_
        refine ro_iload_n (pc := 213) 0 dX12_passSeason_213 rfl rfl ?_
        refine ro_aload_n (pc := 214) 1 dX12_passSeason_214 rfl rfl ?_
        refine ro_iconst (v := 0) (pc := 215) dX12_passSeason_215 (by decide) ?_
        refine ro_aload_n (pc := 216) 1 dX12_passSeason_216 rfl rfl ?_
        refine gf_X12_25 (pc := 217) wd_1347 dX12_passSeason_217 ?_
        refine ro_cvP (pc := 220) (kc := 1) (avs := [.int 0, .int (h8.1 51 25)]) (st := [.int x9, .ref (xa X 68)]) ok_Mod_sumOf wd_1741 cl_51 cv_51 rfl ⟨by decide, by decide⟩ ⟨Nat.zero_le _, Nat.zero_le _⟩ (c_Mod_sumOf X N h8 0 (h8.1 51 25)) rfl rfl (Nat.le_of_ble_eq_true rfl) dX12_passSeason_220 (fun x10 => ?_)
        refine ro_iast (pc := 223) (n := 214) cl_68 cv_68 dX12_passSeason_223 ?_
        refine ro_bnh (fun h11 => ?_)
        refine ro_aload_n (pc := 224) 1 dX12_passSeason_224 rfl rfl ?_
        refine gf_X12_27 (pc := 225) wd_1349 dX12_passSeason_225 ?_
        refine ro_iload_n (pc := 228) 0 dX12_passSeason_228 rfl rfl ?_
        refine ro_iconst (v := 1) (pc := 229) dX12_passSeason_229 (by decide) ?_
        refine ro_iadd (pc := 230) dX12_passSeason_230 ?_
        refine ro_iload_n (pc := 231) 2 dX12_passSeason_231 rfl rfl ?_
        refine ro_iast (pc := 232) (n := 214) cl_68 cv_68 dX12_passSeason_232 ?_
        refine ro_bnh (fun h12 => ?_)
        refine ro_aload_n (pc := 233) 1 dX12_passSeason_233 rfl rfl ?_
        refine gf_X12_27 (pc := 234) wd_1349 dX12_passSeason_234 ?_
        refine ro_iload_n (pc := 237) 0 dX12_passSeason_237 rfl rfl ?_
        refine ro_iconst (v := 2) (pc := 238) dX12_passSeason_238 (by decide) ?_
        refine ro_iadd (pc := 239) dX12_passSeason_239 ?_
        refine ro_aload_n (pc := 240) 1 dX12_passSeason_240 rfl rfl ?_
        refine gf_X12_27 (pc := 241) wd_1349 dX12_passSeason_241 ?_
        refine ro_bipush (v := 31) (pc := 244) dX12_passSeason_244 (by decide) ?_
        refine ro_iald (pc := 246) (n := 214) cl_68 cv_68 dX12_passSeason_246 ?_
        refine ro_iast (pc := 247) (n := 214) cl_68 cv_68 dX12_passSeason_247 ?_
        refine ro_bnh (fun h13 => ?_)
        refine ro_aload_n (pc := 248) 1 dX12_passSeason_248 rfl rfl ?_
        refine gf_X12_27 (pc := 249) wd_1349 dX12_passSeason_249 ?_
        refine ro_bipush (v := 33) (pc := 252) dX12_passSeason_252 (by decide) ?_
        refine ro_dup2_11 (pc := 254) dX12_passSeason_254 rfl rfl ?_
        refine ro_iald (pc := 255) (n := 214) cl_68 cv_68 dX12_passSeason_255 ?_
        refine ro_iconst (v := 1) (pc := 256) dX12_passSeason_256 (by decide) ?_
        refine ro_iadd (pc := 257) dX12_passSeason_257 ?_
        refine ro_iast (pc := 258) (n := 214) cl_68 cv_68 dX12_passSeason_258 ?_
        refine ro_bnh (fun h14 => ?_)
        refine ro_aload_n (pc := 259) 1 dX12_passSeason_259 rfl rfl ?_
        refine gf_X12_27 (pc := 260) wd_1349 dX12_passSeason_260 ?_
        refine ro_bipush (v := 31) (pc := 263) dX12_passSeason_263 (by decide) ?_
        refine ro_iconst (v := 0) (pc := 265) dX12_passSeason_265 (by decide) ?_
        refine ro_iast (pc := 266) (n := 214) cl_68 cv_68 dX12_passSeason_266 ?_
        refine ro_bnh (fun h15 => ?_)
        exact ro_vret (pc := 267) rfl rfl dX12_passSeason_267
      · skip
        refine ro_icmp_ne (tgt := 196) (pc := 147) dX12_passSeason_147 (by decide) (fun _ => ?_) (fun _ => ?_)
        · skip
          exact hj7 h4
        · skip
          refine ro_iconst (v := 3) (pc := 150) dX12_passSeason_150 (by decide) ?_
          refine ro_istore_n (pc := 151) (lv' := [(2, .int 3), (0, .ref (xa X 51)), (1, .int x6)]) dX12_passSeason_151 rfl (by decide) rfl ?_
          refine ro_jn (pcj := 185) (lvs := fun (s : mu_H) => [(0, .ref (xa X 51)), (1, .int x6)]) (hs := fun (s : mu_H) => s) (sts := fun (s : mu_H) => []) (fun h17 => ?_) (fun k16 hk16 => ?_)
          · try dsimp only
            refine ro_aload_n (pc := 185) 0 dX12_passSeason_185 rfl rfl ?_
            refine gf_X12_27 (pc := 186) wd_1349 dX12_passSeason_186 ?_
            refine ro_bipush (v := 33) (pc := 189) dX12_passSeason_189 (by decide) ?_
            refine ro_dup2_11 (pc := 191) dX12_passSeason_191 rfl rfl ?_
            refine ro_iald (pc := 192) (n := 214) cl_68 cv_68 dX12_passSeason_192 ?_
            refine ro_iconst (v := 1) (pc := 193) dX12_passSeason_193 (by decide) ?_
            refine ro_isub (pc := 194) dX12_passSeason_194 ?_
            refine ro_iast (pc := 195) (n := 214) cl_68 cv_68 dX12_passSeason_195 ?_
            refine ro_bnh (fun h18 => ?_)
            exact hj7 h18
          · skip
            refine ro_lv [1, 2, 0] rfl ?_
            refine ro_lp (pc := 152) (lvs := fun (s : Int32 × mu_H) => [(0, .ref (xa X 51)), (1, .int x6), (2, .int s.1)]) (hs := fun (s : Int32 × mu_H) => s.2) (fun rec19 hrec19 s => ?_) N (3, h4)
            obtain ⟨x20, h21⟩ := s; unfold f_Mod_passSeason_L152; try dsimp only
            refine ro_iload_n (pc := 152) 2 dX12_passSeason_152 rfl rfl ?_
            refine ro_sipush (v := 180) (pc := 153) dX12_passSeason_153 (by decide) ?_
            refine ro_icmp_ge (tgt := 185) (pc := 156) dX12_passSeason_156 (by decide) (fun _ => ?_) (fun _ => ?_)
            · skip
              refine ro_lv [0, 1] rfl ?_
              exact hk16 h21
            · skip
              refine ro_aload_n (pc := 159) 0 dX12_passSeason_159 rfl rfl ?_
              refine gf_X12_27 (pc := 160) wd_1349 dX12_passSeason_160 ?_
              refine ro_bipush (v := 34) (pc := 163) dX12_passSeason_163 (by decide) ?_
              refine ro_iload_n (pc := 165) 2 dX12_passSeason_165 rfl rfl ?_
              refine ro_iadd (pc := 166) dX12_passSeason_166 ?_
              refine ro_iconst (v := 3) (pc := 167) dX12_passSeason_167 (by decide) ?_
              refine ro_isub (pc := 168) dX12_passSeason_168 ?_
              refine ro_aload_n (pc := 169) 0 dX12_passSeason_169 rfl rfl ?_
              refine gf_X12_27 (pc := 170) wd_1349 dX12_passSeason_170 ?_
              refine ro_bipush (v := 34) (pc := 173) dX12_passSeason_173 (by decide) ?_
              refine ro_iload_n (pc := 175) 2 dX12_passSeason_175 rfl rfl ?_
              refine ro_iadd (pc := 176) dX12_passSeason_176 ?_
              refine ro_iald (pc := 177) (n := 214) cl_68 cv_68 dX12_passSeason_177 ?_
              refine ro_iast (pc := 178) (n := 214) cl_68 cv_68 dX12_passSeason_178 ?_
              refine ro_bnh (fun h22 => ?_)
              refine ro_iinc (pc := 179) (v := x20 + 1) (lv' := [(2, .int (x20 + 1)), (0, .ref (xa X 51)), (1, .int x6)]) 2 dX12_passSeason_179 rfl rfl (by decide) rfl ?_
              refine ro_goto (tgt := 152) (pc := 182) dX12_passSeason_182 (by decide) ?_
              refine ro_lv [1, 2, 0] rfl ?_
              exact hrec19 (x20 + 1, h22)
    · skip
      refine ro_lv [2, 1, 0] rfl ?_
      refine ro_lp (pc := 103) (lvs := fun (s : Int32 × Int32) => [(0, .ref (xa X 51)), (1, .int s.1), (2, .int s.2)]) (hs := fun (s : Int32 × Int32) => h4) (fun rec23 hrec23 s => ?_) N (0, 0)
      obtain ⟨x24, x25⟩ := s; unfold f_Mod_passSeason_L103; try dsimp only
      refine ro_iload_n (pc := 103) 2 dX12_passSeason_103 rfl rfl ?_
      refine ro_aload_n (pc := 104) 0 dX12_passSeason_104 rfl rfl ?_
      refine gf_X12_25 (pc := 105) wd_1347 dX12_passSeason_105 ?_
      refine ro_icmp_ge (tgt := 138) (pc := 108) dX12_passSeason_108 (by decide) (fun _ => ?_) (fun _ => ?_)
      · skip
        refine ro_lv [0, 1] rfl ?_
        exact hk5 x24
      · skip
        refine ro_iload_n (pc := 111) 1 dX12_passSeason_111 rfl rfl ?_
        refine ro_aload_n (pc := 112) 0 dX12_passSeason_112 rfl rfl ?_
        refine gf_X12_27 (pc := 113) wd_1349 dX12_passSeason_113 ?_
        refine ro_iconst (v := 0) (pc := 116) dX12_passSeason_116 (by decide) ?_
        refine ro_iload_n (pc := 117) 2 dX12_passSeason_117 rfl rfl ?_
        refine ro_iadd (pc := 118) dX12_passSeason_118 ?_
        refine ro_iald (pc := 119) (n := 214) cl_68 cv_68 dX12_passSeason_119 ?_
        refine ro_bipush (v := 60) (pc := 120) dX12_passSeason_120 (by decide) ?_
        refine ro_jn (pcj := 130) (lvs := fun (s : Int32) => [(0, .ref (xa X 51)), (2, .int x25)]) (hs := fun (s : Int32) => h4) (sts := fun (s : Int32) => [.int s, .int x24]) (fun x27 => ?_) (fun j26 hj26 => ?_)
        · try dsimp only
          refine ro_iadd (pc := 130) dX12_passSeason_130 ?_
          refine ro_bn (fun x28 => ?_)
          refine ro_istore_n (pc := 131) (lv' := [(1, .int x28), (0, .ref (xa X 51)), (2, .int x25)]) dX12_passSeason_131 rfl (by decide) rfl ?_
          refine ro_iinc (pc := 132) (v := x25 + 1) (lv' := [(2, .int (x25 + 1)), (1, .int x28), (0, .ref (xa X 51))]) 2 dX12_passSeason_132 rfl rfl (by decide) rfl ?_
          refine ro_goto (tgt := 103) (pc := 135) dX12_passSeason_135 (by decide) ?_
          refine ro_lv [2, 1, 0] rfl ?_
          exact hrec23 (x28, x25 + 1)
        · skip
          refine ro_icmp_lt (tgt := 129) (pc := 122) dX12_passSeason_122 (by decide) (fun _ => ?_) (fun _ => ?_)
          · skip
            refine ro_iconst (v := 0) (pc := 129) dX12_passSeason_129 (by decide) ?_
            refine ro_lv [0, 2] rfl ?_
            exact hj26 0
          · skip
            refine ro_iconst (v := 1) (pc := 125) dX12_passSeason_125 (by decide) ?_
            refine ro_goto (tgt := 130) (pc := 126) dX12_passSeason_126 (by decide) ?_
            refine ro_lv [0, 2] rfl ?_
            exact hj26 1
  · skip
    refine ro_lv [1, 0] rfl ?_
    refine ro_lp (pc := 24) (lvs := fun (s : Int32 × mu_H) => [(0, .ref (xa X 51)), (1, .int s.1)]) (hs := fun (s : Int32 × mu_H) => s.2) (fun rec29 hrec29 s => ?_) N (0, h2)
    obtain ⟨x30, h31⟩ := s; unfold f_Mod_passSeason_L24; try dsimp only
    refine ro_iload_n (pc := 24) 1 dX12_passSeason_24 rfl rfl ?_
    refine ro_aload_n (pc := 25) 0 dX12_passSeason_25 rfl rfl ?_
    refine gf_X12_26 (pc := 26) wd_1348 dX12_passSeason_26 ?_
    refine ro_icmp_ge (tgt := 99) (pc := 29) dX12_passSeason_29 (by decide) (fun _ => ?_) (fun _ => ?_)
    · skip
      refine ro_lv [0] rfl ?_
      exact hk3 h31
    · skip
      refine ro_aload_n (pc := 32) 0 dX12_passSeason_32 rfl rfl ?_
      refine gf_X12_27 (pc := 33) wd_1349 dX12_passSeason_33 ?_
      refine ro_bipush (v := 32) (pc := 36) dX12_passSeason_36 (by decide) ?_
      refine ro_iald (pc := 38) (n := 214) cl_68 cv_68 dX12_passSeason_38 ?_
      refine ro_iconst (v := 4) (pc := 39) dX12_passSeason_39 (by decide) ?_
      refine ro_irem (pc := 40) dX12_passSeason_40 (by decide) ?_
      refine ro_if_ne (tgt := 99) (pc := 41) dX12_passSeason_41 (by decide) (fun _ => ?_) (fun _ => ?_)
      · skip
        refine ro_lv [0] rfl ?_
        exact hk3 h31
      · skip
        refine ro_aload_n (pc := 44) 0 dX12_passSeason_44 rfl rfl ?_
        refine gf_X12_27 (pc := 45) wd_1349 dX12_passSeason_45 ?_
        refine ro_bipush (v := 24) (pc := 48) dX12_passSeason_48 (by decide) ?_
        refine ro_iload_n (pc := 50) 1 dX12_passSeason_50 rfl rfl ?_
        refine ro_iadd (pc := 51) dX12_passSeason_51 ?_
        refine ro_sipush (v := 999) (pc := 52) dX12_passSeason_52 (by decide) ?_
        refine ro_aload_n (pc := 55) 0 dX12_passSeason_55 rfl rfl ?_
        refine gf_X12_27 (pc := 56) wd_1349 dX12_passSeason_56 ?_
        refine ro_bipush (v := 24) (pc := 59) dX12_passSeason_59 (by decide) ?_
        refine ro_iload_n (pc := 61) 1 dX12_passSeason_61 rfl rfl ?_
        refine ro_iadd (pc := 62) dX12_passSeason_62 ?_
        refine ro_iald (pc := 63) (n := 214) cl_68 cv_68 dX12_passSeason_63 ?_
        refine ro_aload_n (pc := 64) 0 dX12_passSeason_64 rfl rfl ?_
        refine gf_X12_27 (pc := 65) wd_1349 dX12_passSeason_65 ?_
        refine ro_bipush (v := 18) (pc := 68) dX12_passSeason_68 (by decide) ?_
        refine ro_iload_n (pc := 70) 1 dX12_passSeason_70 rfl rfl ?_
        refine ro_iadd (pc := 71) dX12_passSeason_71 ?_
        refine ro_iald (pc := 72) (n := 214) cl_68 cv_68 dX12_passSeason_72 ?_
        refine ro_iadd (pc := 73) dX12_passSeason_73 ?_
        refine ro_mmin (pc := 74) (st := [.int (24 + x30), .ref (xa X 68)]) wd_1617 (by decide) (Nat.le_of_ble_eq_true rfl) ⟨Nat.zero_le _, Nat.zero_le _⟩ dX12_passSeason_74 ?_
        refine ro_iast (pc := 77) (n := 214) cl_68 cv_68 dX12_passSeason_77 ?_
        refine ro_bnh (fun h32 => ?_)
        refine ro_aload_n (pc := 78) 0 dX12_passSeason_78 rfl rfl ?_
        refine gf_X12_27 (pc := 79) wd_1349 dX12_passSeason_79 ?_
        refine ro_bipush (v := 18) (pc := 82) dX12_passSeason_82 (by decide) ?_
        refine ro_iload_n (pc := 84) 1 dX12_passSeason_84 rfl rfl ?_
        refine ro_iadd (pc := 85) dX12_passSeason_85 ?_
        refine ro_aload_n (pc := 86) 0 dX12_passSeason_86 rfl rfl ?_
        refine gf_X12_22 (pc := 87) wd_1344 dX12_passSeason_87 ?_
        refine ro_iconst (v := 0) (pc := 90) dX12_passSeason_90 (by decide) ?_
        refine ro_iald (pc := 91) (n := 3) cl_65 cv_65 dX12_passSeason_91 ?_
        refine ro_iast (pc := 92) (n := 214) cl_68 cv_68 dX12_passSeason_92 ?_
        refine ro_bnh (fun h33 => ?_)
        refine ro_iinc (pc := 93) (v := x30 + 1) (lv' := [(1, .int (x30 + 1)), (0, .ref (xa X 51))]) 1 dX12_passSeason_93 rfl rfl (by decide) rfl ?_
        refine ro_goto (tgt := 24) (pc := 96) dX12_passSeason_96 (by decide) ?_
        refine ro_lv [1, 0] rfl ?_
        exact hrec29 (x30 + 1, h33)
theorem c_Mod_passSeason (X : mu_X) (N : Nat) (h : mu_H) : ∀ r, f_Mod_passSeason N h = some r → mV X m_Mod_passSeason 3 [.ref (xa X 51)] h r := fun r hr => mV_of (by decide) rfl (Nat.le_of_ble_eq_true rfl) rfl (cb_Mod_passSeason X N h r hr)
set_option maxRecDepth 20000 in
theorem cb_Mod_pay (X : mu_X) (N : Nat) (h : mu_H) (a1 : Int32) (a2 : Int32) : aG X m_Mod_pay (rmk 3) (fun _ => ax X) (fun _ _ _ => True) 0 0 (fun r : Int32 × mu_H => qI X r.1 r.2) (f_Mod_pay N h a1 a2) 0 [(0, .ref (xa X 51)), (1, .int a1), (2, .int a2)] [] h := by
  unfold f_Mod_pay
  refine ro_aload_n (pc := 0) 0 dX12_pay_0 rfl rfl ?_
  refine ro_aload_n (pc := 1) 0 dX12_pay_1 rfl rfl ?_
  refine ro_iload_n (pc := 2) 1 dX12_pay_2 rfl rfl ?_
  refine ro_cvP (pc := 3) (kc := 2) (avs := [.int a1]) (st := [.ref (xa X 51)]) ok_Mod_isHouse wd_1634 cl_51 cv_51 rfl ⟨by decide, by decide⟩ ⟨Nat.zero_le _, Nat.zero_le _⟩ (c_Mod_isHouse X N h a1) rfl rfl (Nat.le_of_ble_eq_true rfl) dX12_pay_3 (fun x1 => ?_)
  refine ro_jn (pcj := 45) (lvs := fun (s : Int32) => [(0, .ref (xa X 51)), (1, .int a1), (2, .int a2)]) (hs := fun (s : Int32) => h) (sts := fun (s : Int32) => [.int s, .ref (xa X 51)]) (fun x3 => ?_) (fun j2 hj2 => ?_)
  · try dsimp only
    refine ro_cvI (pc := 45) (kc := 1) (avs := [.int x3]) (st := []) ok_Mod_isRefused wd_1701 cl_51 cv_51 rfl ⟨by decide, by decide⟩ ⟨Nat.zero_le _, Nat.zero_le _⟩ (c_Mod_isRefused X N h x3) rfl rfl (Nat.le_of_ble_eq_true rfl) dX12_pay_45 (fun x4 h5 => ?_)
    refine ro_if_eq (tgt := 53) (pc := 48) dX12_pay_48 (by decide) (fun _ => ?_) (fun _ => ?_)
    · skip
      refine ro_aload_n (pc := 53) 0 dX12_pay_53 rfl rfl ?_
      refine ro_cvV (pc := 54) (kc := 1) (avs := []) (st := []) ok_Mod_keep wd_1705 cl_51 cv_51 rfl ⟨by decide, by decide⟩ ⟨Nat.zero_le _, Nat.zero_le _⟩ (c_Mod_keep X N h5) rfl rfl (Nat.le_of_ble_eq_true rfl) dX12_pay_54 (fun h7 => ?_)
      refine ro_aload_n (pc := 57) 0 dX12_pay_57 rfl rfl ?_
      refine gf_X12_27 (pc := 58) wd_1349 dX12_pay_58 ?_
      refine ro_bipush (v := 18) (pc := 61) dX12_pay_61 (by decide) ?_
      refine ro_iload_n (pc := 63) 1 dX12_pay_63 rfl rfl ?_
      refine ro_iadd (pc := 64) dX12_pay_64 ?_
      refine ro_dup2_11 (pc := 65) dX12_pay_65 rfl rfl ?_
      refine ro_iald (pc := 66) (n := 214) cl_68 cv_68 dX12_pay_66 ?_
      refine ro_iload_n (pc := 67) 2 dX12_pay_67 rfl rfl ?_
      refine ro_isub (pc := 68) dX12_pay_68 ?_
      refine ro_iast (pc := 69) (n := 214) cl_68 cv_68 dX12_pay_69 ?_
      refine ro_bnh (fun h8 => ?_)
      refine ro_aload_n (pc := 70) 0 dX12_pay_70 rfl rfl ?_
      refine gf_X12_27 (pc := 71) wd_1349 dX12_pay_71 ?_
      refine ro_bipush (v := 30) (pc := 74) dX12_pay_74 (by decide) ?_
      refine ro_dup2_11 (pc := 76) dX12_pay_76 rfl rfl ?_
      refine ro_iald (pc := 77) (n := 214) cl_68 cv_68 dX12_pay_77 ?_
      refine ro_iload_n (pc := 78) 2 dX12_pay_78 rfl rfl ?_
      refine ro_aload_n (pc := 79) 0 dX12_pay_79 rfl rfl ?_
      refine gf_X12_22 (pc := 80) wd_1344 dX12_pay_80 ?_
      refine ro_iconst (v := 2) (pc := 83) dX12_pay_83 (by decide) ?_
      refine ro_iald (pc := 84) (n := 3) cl_65 cv_65 dX12_pay_84 ?_
      refine ro_imul (pc := 85) dX12_pay_85 ?_
      refine ro_iadd (pc := 86) dX12_pay_86 ?_
      refine ro_iast (pc := 87) (n := 214) cl_68 cv_68 dX12_pay_87 ?_
      refine ro_bnh (fun h9 => ?_)
      refine ro_aload_n (pc := 88) 0 dX12_pay_88 rfl rfl ?_
      refine gf_X12_27 (pc := 89) wd_1349 dX12_pay_89 ?_
      refine ro_bipush (v := 30) (pc := 92) dX12_pay_92 (by decide) ?_
      refine ro_iald (pc := 94) (n := 214) cl_68 cv_68 dX12_pay_94 ?_
      exact ro_iret (pc := 95) rfl rfl dX12_pay_95
    · skip
      refine ro_iconst (v := (-1)) (pc := 51) dX12_pay_51 (by decide) ?_
      exact ro_iret (pc := 52) rfl rfl dX12_pay_52
  · skip
    refine ro_if_ne (tgt := 13) (pc := 6) dX12_pay_6 (by decide) (fun _ => ?_) (fun _ => ?_)
    · skip
      refine ro_iload_n (pc := 13) 2 dX12_pay_13 rfl rfl ?_
      refine ro_iconst (v := 1) (pc := 14) dX12_pay_14 (by decide) ?_
      refine ro_bipush (v := 9) (pc := 15) dX12_pay_15 (by decide) ?_
      refine ro_csP (pc := 17) (kc := 1) (avs := [.int a2, .int 1, .int 9]) (st := [.ref (xa X 51)]) ok_Mod_in wd_1523 ⟨by decide, by decide⟩ ⟨Nat.zero_le _, Nat.zero_le _⟩ (c_Mod_in X N h a2 1 9) rfl rfl (Nat.le_of_ble_eq_true rfl) dX12_pay_17 (fun x10 => ?_)
      refine ro_if_ne (tgt := 27) (pc := 20) dX12_pay_20 (by decide) (fun _ => ?_) (fun _ => ?_)
      · skip
        refine ro_aload_n (pc := 27) 0 dX12_pay_27 rfl rfl ?_
        refine gf_X12_27 (pc := 28) wd_1349 dX12_pay_28 ?_
        refine ro_bipush (v := 18) (pc := 31) dX12_pay_31 (by decide) ?_
        refine ro_iload_n (pc := 33) 1 dX12_pay_33 rfl rfl ?_
        refine ro_iadd (pc := 34) dX12_pay_34 ?_
        refine ro_iald (pc := 35) (n := 214) cl_68 cv_68 dX12_pay_35 ?_
        refine ro_iload_n (pc := 36) 2 dX12_pay_36 rfl rfl ?_
        refine ro_icmp_ge (tgt := 44) (pc := 37) dX12_pay_37 (by decide) (fun _ => ?_) (fun _ => ?_)
        · skip
          refine ro_iconst (v := (-1)) (pc := 44) dX12_pay_44 (by decide) ?_
          exact hj2 (-1)
        · skip
          refine ro_iconst (v := 2) (pc := 40) dX12_pay_40 (by decide) ?_
          refine ro_goto (tgt := 45) (pc := 41) dX12_pay_41 (by decide) ?_
          exact hj2 2
      · skip
        refine ro_iconst (v := 1) (pc := 23) dX12_pay_23 (by decide) ?_
        refine ro_goto (tgt := 45) (pc := 24) dX12_pay_24 (by decide) ?_
        exact hj2 1
    · skip
      refine ro_iconst (v := 0) (pc := 9) dX12_pay_9 (by decide) ?_
      refine ro_goto (tgt := 45) (pc := 10) dX12_pay_10 (by decide) ?_
      exact hj2 0
theorem c_Mod_pay (X : mu_X) (N : Nat) (h : mu_H) (a1 : Int32) (a2 : Int32) : ∀ r, f_Mod_pay N h a1 a2 = some r → mI X m_Mod_pay 3 [.ref (xa X 51), .int a1, .int a2] h r.1 r.2 := fun r hr => mI_of (by decide) rfl (Nat.le_of_ble_eq_true rfl) rfl (cb_Mod_pay X N h a1 a2 r hr)
set_option maxRecDepth 20000 in
theorem cb_Mod_rests (X : mu_X) (N : Nat) (h : mu_H) (a1 : Int32) (a2 : Int32) (a3 : Int32) (a4 : Int32) : aG X m_Mod_rests (rmk 10) (fun _ => ax X) (fun _ _ _ => True) 0 0 (fun r : Int32 × mu_H => qI X r.1 r.2) (f_Mod_rests N h a1 a2 a3 a4) 0 [(0, .ref (xa X 51)), (1, .int a1), (2, .int a2), (3, .int a3), (4, .int a4)] [] h := by
  unfold f_Mod_rests
  refine ro_aload_n (pc := 0) 0 dX12_rests_0 rfl rfl ?_
  refine ro_iload_n (pc := 1) 1 dX12_rests_1 rfl rfl ?_
  refine ro_iload_n (pc := 2) 2 dX12_rests_2 rfl rfl ?_
  refine ro_iload_n (pc := 3) 3 dX12_rests_3 rfl rfl ?_
  refine ro_cvP (pc := 4) (kc := 4) (avs := [.int a1, .int a2, .int a3]) (st := []) ok_Mod_areTwo wd_1803 cl_51 cv_51 rfl ⟨by decide, by decide⟩ ⟨Nat.zero_le _, Nat.zero_le _⟩ (c_Mod_areTwo X N h a1 a2 a3) rfl rfl (Nat.le_of_ble_eq_true rfl) dX12_rests_4 (fun x1 => ?_)
  refine ro_if_eq (tgt := 16) (pc := 7) dX12_rests_7 (by decide) (fun _ => ?_) (fun _ => ?_)
  · skip
    refine ro_iconst (v := (-1)) (pc := 16) dX12_rests_16 (by decide) ?_
    exact ro_iret (pc := 17) rfl rfl dX12_rests_17
  · skip
    refine ro_iload (pc := 10) 4 dX12_rests_10 rfl ?_
    refine ro_iconst (v := (-1)) (pc := 12) dX12_rests_12 (by decide) ?_
    refine ro_icmp_ge (tgt := 18) (pc := 13) dX12_rests_13 (by decide) (fun _ => ?_) (fun _ => ?_)
    · skip
      refine ro_iconst (v := 0) (pc := 18) dX12_rests_18 (by decide) ?_
      refine ro_istore (pc := 19) (lv' := [(5, .int 0), (0, .ref (xa X 51)), (1, .int a1), (2, .int a2), (3, .int a3), (4, .int a4)]) dX12_rests_19 (by decide) rfl ?_
      refine ro_iconst (v := 0) (pc := 21) dX12_rests_21 (by decide) ?_
      refine ro_istore (pc := 22) (lv' := [(6, .int 0), (5, .int 0), (0, .ref (xa X 51)), (1, .int a1), (2, .int a2), (3, .int a3), (4, .int a4)]) dX12_rests_22 (by decide) rfl ?_
      refine ro_jn (pcj := 76) (lvs := fun (s : Int32 × Int32 × mu_H) => [(6, .int s.1), (7, .int s.2.1)]) (hs := fun (s : Int32 × Int32 × mu_H) => s.2.2) (sts := fun (s : Int32 × Int32 × mu_H) => []) (fun s => ?_) (fun k2 hk2 => ?_)
      · obtain ⟨x3, x4, h5⟩ := s; try dsimp only
        refine ro_bipush (v := 10) (pc := 76) dX12_rests_76 (by decide) ?_
        refine ro_iload (pc := 78) 0 dX12_rests_78 rfl ?_
        refine ro_imul (pc := 80) dX12_rests_80 ?_
        refine ro_iload (pc := 81) 1 dX12_rests_81 rfl ?_
        refine ro_iadd (pc := 83) dX12_rests_83 ?_
        exact ro_iret (pc := 84) rfl rfl dX12_rests_84
      · skip
        refine ro_jn (pcj := 100) (lvs := fun (s : Int32 × mu_H) => [(4, .int a4), (5, .int s.1)]) (hs := fun (s : Int32 × mu_H) => s.2) (sts := fun (s : Int32 × mu_H) => []) (fun s => ?_) (fun k6 hk6 => ?_)
        · obtain ⟨x7, h8⟩ := s; try dsimp only
          refine ro_iload (pc := 100) 0 dX12_rests_100 rfl ?_
          refine ro_iconst (v := (-1)) (pc := 102) dX12_rests_102 (by decide) ?_
          refine ro_icmp_ne (tgt := 111) (pc := 103) dX12_rests_103 (by decide) (fun _ => ?_) (fun _ => ?_)
          · skip
            refine ro_iconst (v := (-1)) (pc := 111) dX12_rests_111 (by decide) ?_
            exact ro_iret (pc := 112) rfl rfl dX12_rests_112
          · skip
            refine ro_iload (pc := 106) 1 dX12_rests_106 rfl ?_
            refine ro_goto (tgt := 112) (pc := 108) dX12_rests_108 (by decide) ?_
            exact ro_iret (pc := 112) rfl rfl dX12_rests_112
        · skip
          refine ro_lv [2, 3, 4, 5, 6, 1, 0] rfl ?_
          refine ro_lp (pc := 24) (lvs := fun (s : Int32 × Int32 × mu_H) => [(0, .ref (xa X 51)), (1, .int a1), (2, .int a2), (3, .int a3), (4, .int a4), (5, .int s.1), (6, .int s.2.1)]) (hs := fun (s : Int32 × Int32 × mu_H) => s.2.2) (fun rec9 hrec9 s => ?_) N (0, 0, h)
          obtain ⟨x10, x11, h12⟩ := s; unfold f_Mod_rests_L24; try dsimp only
          refine ro_iload (pc := 24) 6 dX12_rests_24 rfl ?_
          refine ro_iconst (v := 3) (pc := 26) dX12_rests_26 (by decide) ?_
          refine ro_icmp_gt (tgt := 100) (pc := 27) dX12_rests_27 (by decide) (fun _ => ?_) (fun _ => ?_)
          · skip
            refine ro_lv [4, 5] rfl ?_
            exact hk6 (x10, h12)
          · skip
            refine ro_iconst (v := 0) (pc := 30) dX12_rests_30 (by decide) ?_
            refine ro_istore (pc := 31) (lv' := [(7, .int 0), (0, .ref (xa X 51)), (1, .int a1), (2, .int a2), (3, .int a3), (4, .int a4), (5, .int x10), (6, .int x11)]) dX12_rests_31 (by decide) rfl ?_
            refine ro_jn (pcj := 94) (lvs := fun (s : Int32 × mu_H) => [(0, .ref (xa X 51)), (1, .int a1), (2, .int a2), (3, .int a3), (4, .int a4), (5, .int s.1), (6, .int x11)]) (hs := fun (s : Int32 × mu_H) => s.2) (sts := fun (s : Int32 × mu_H) => []) (fun s => ?_) (fun k13 hk13 => ?_)
            · obtain ⟨x14, h15⟩ := s; try dsimp only
              refine ro_iinc (pc := 94) (v := x11 + 1) (lv' := [(6, .int (x11 + 1)), (0, .ref (xa X 51)), (1, .int a1), (2, .int a2), (3, .int a3), (4, .int a4), (5, .int x14)]) 6 dX12_rests_94 rfl rfl (by decide) rfl ?_
              refine ro_goto (tgt := 24) (pc := 97) dX12_rests_97 (by decide) ?_
              refine ro_lv [1, 2, 3, 4, 5, 6, 0] rfl ?_
              exact hrec9 (x14, x11 + 1, h15)
            · skip
              refine ro_lv [1, 2, 3, 4, 5, 6, 7, 0] rfl ?_
              refine ro_lp (pc := 33) (lvs := fun (s : Int32 × Int32 × mu_H) => [(0, .ref (xa X 51)), (1, .int a1), (2, .int a2), (3, .int a3), (4, .int a4), (5, .int s.1), (6, .int x11), (7, .int s.2.1)]) (hs := fun (s : Int32 × Int32 × mu_H) => s.2.2) (fun rec16 hrec16 s => ?_) N (x10, 0, h12)
              obtain ⟨x17, x18, h19⟩ := s; unfold f_Mod_rests_L33; try dsimp only
              refine ro_iload (pc := 33) 7 dX12_rests_33 rfl ?_
              refine ro_iconst (v := 3) (pc := 35) dX12_rests_35 (by decide) ?_
              refine ro_icmp_gt (tgt := 94) (pc := 36) dX12_rests_36 (by decide) (fun _ => ?_) (fun _ => ?_)
              · skip
                refine ro_lv [0, 1, 2, 3, 4, 5, 6] rfl ?_
                exact hk13 (x17, h19)
              · skip
                refine ro_iload (pc := 39) 6 dX12_rests_39 rfl ?_
                refine ro_csP (pc := 41) (kc := 1) (avs := [.int x11]) (st := []) ok_Mod_isGameKind wd_1807 ⟨by decide, by decide⟩ ⟨Nat.zero_le _, Nat.zero_le _⟩ (c_Mod_isGameKind X N h19 x11) rfl rfl (Nat.le_of_ble_eq_true rfl) dX12_rests_41 (fun x20 => ?_)
                refine ro_jn (pcj := 88) (lvs := fun (s : Int32 × mu_H) => [(0, .ref (xa X 51)), (1, .int a1), (2, .int a2), (3, .int a3), (4, .int a4), (5, .int s.1), (6, .int x11), (7, .int x18)]) (hs := fun (s : Int32 × mu_H) => s.2) (sts := fun (s : Int32 × mu_H) => []) (fun s => ?_) (fun j21 hj21 => ?_)
                · obtain ⟨x22, h23⟩ := s; try dsimp only
                  refine ro_iinc (pc := 88) (v := x18 + 1) (lv' := [(7, .int (x18 + 1)), (0, .ref (xa X 51)), (1, .int a1), (2, .int a2), (3, .int a3), (4, .int a4), (5, .int x22), (6, .int x11)]) 7 dX12_rests_88 rfl rfl (by decide) rfl ?_
                  refine ro_goto (tgt := 33) (pc := 91) dX12_rests_91 (by decide) ?_
                  refine ro_lv [1, 2, 3, 4, 5, 6, 7, 0] rfl ?_
                  exact hrec16 (x22, x18 + 1, h23)
                · skip
                  refine ro_if_eq (tgt := 88) (pc := 44) dX12_rests_44 (by decide) (fun _ => ?_) (fun _ => ?_)
                  · skip
                    exact hj21 (x17, h19)
                  · skip
                    refine ro_iload (pc := 47) 7 dX12_rests_47 rfl ?_
                    refine ro_csP (pc := 49) (kc := 1) (avs := [.int x18]) (st := []) ok_Mod_isGameKind wd_1807 ⟨by decide, by decide⟩ ⟨Nat.zero_le _, Nat.zero_le _⟩ (c_Mod_isGameKind X N h19 x18) rfl rfl (Nat.le_of_ble_eq_true rfl) dX12_rests_49 (fun x24 => ?_)
                    refine ro_if_eq (tgt := 88) (pc := 52) dX12_rests_52 (by decide) (fun _ => ?_) (fun _ => ?_)
                    · skip
                      exact hj21 (x17, h19)
                    · skip
                      refine ro_aload_n (pc := 55) 0 dX12_rests_55 rfl rfl ?_
                      refine ro_iload_n (pc := 56) 1 dX12_rests_56 rfl rfl ?_
                      refine ro_iload_n (pc := 57) 2 dX12_rests_57 rfl rfl ?_
                      refine ro_iload_n (pc := 58) 3 dX12_rests_58 rfl rfl ?_
                      refine ro_iload (pc := 59) 6 dX12_rests_59 rfl ?_
                      refine ro_iload (pc := 61) 7 dX12_rests_61 rfl ?_
                      refine ro_cvI (pc := 63) (kc := 9) (avs := [.int a1, .int a2, .int a3, .int x11, .int x18]) (st := []) ok_Mod_isRest wd_1819 cl_51 cv_51 rfl ⟨by decide, by decide⟩ ⟨Nat.zero_le _, Nat.zero_le _⟩ (c_Mod_isRest X N h19 a1 a2 a3 x11 x18) rfl rfl (Nat.le_of_ble_eq_true rfl) dX12_rests_63 (fun x25 h26 => ?_)
                      refine ro_if_eq (tgt := 88) (pc := 66) dX12_rests_66 (by decide) (fun _ => ?_) (fun _ => ?_)
                      · skip
                        exact hj21 (x17, h26)
                      · skip
                        refine ro_iload (pc := 69) 5 dX12_rests_69 rfl ?_
                        refine ro_iload (pc := 71) 4 dX12_rests_71 rfl ?_
                        refine ro_icmp_ne (tgt := 85) (pc := 73) dX12_rests_73 (by decide) (fun _ => ?_) (fun _ => ?_)
                        · skip
                          refine ro_iinc (pc := 85) (v := x17 + 1) (lv' := [(5, .int (x17 + 1)), (0, .ref (xa X 51)), (1, .int a1), (2, .int a2), (3, .int a3), (4, .int a4), (6, .int x11), (7, .int x18)]) 5 dX12_rests_85 rfl rfl (by decide) rfl ?_
                          refine ro_lv [1, 2, 3, 4, 5, 0, 6, 7] rfl ?_
                          exact hj21 (x17 + 1, h26)
                        · skip
                          refine ro_lv [6, 7] rfl ?_
                          exact hk2 (x11, x18, h26)
    · skip
      refine ro_iconst (v := (-1)) (pc := 16) dX12_rests_16 (by decide) ?_
      exact ro_iret (pc := 17) rfl rfl dX12_rests_17
theorem c_Mod_rests (X : mu_X) (N : Nat) (h : mu_H) (a1 : Int32) (a2 : Int32) (a3 : Int32) (a4 : Int32) : ∀ r, f_Mod_rests N h a1 a2 a3 a4 = some r → mI X m_Mod_rests 10 [.ref (xa X 51), .int a1, .int a2, .int a3, .int a4] h r.1 r.2 := fun r hr => mI_of (by decide) rfl (Nat.le_of_ble_eq_true rfl) rfl (cb_Mod_rests X N h a1 a2 a3 a4 r hr)
set_option maxRecDepth 20000 in
theorem cb_Mod_roadOf (X : mu_X) (N : Nat) (h : mu_H) (a1 : Int32) : aG X m_Mod_roadOf (rmk 14) (fun _ => ax X) (fun _ _ _ => True) 0 0 (fun r : Int32 × mu_H => qI X r.1 r.2) (f_Mod_roadOf N h a1) 0 [(0, .ref (xa X 51)), (1, .int a1)] [] h := by
  unfold f_Mod_roadOf
  refine ro_aload_n (pc := 0) 0 dX12_roadOf_0 rfl rfl ?_
  refine ro_aload_n (pc := 1) 0 dX12_roadOf_1 rfl rfl ?_
  refine ro_iload_n (pc := 2) 1 dX12_roadOf_2 rfl rfl ?_
  refine ro_iconst (v := 0) (pc := 3) dX12_roadOf_3 (by decide) ?_
  refine ro_cvP (pc := 4) (kc := 1) (avs := [.int a1, .int 0]) (st := [.ref (xa X 51)]) ok_Mod_ofHouse wd_1638 cl_51 cv_51 rfl ⟨by decide, by decide⟩ ⟨Nat.zero_le _, Nat.zero_le _⟩ (c_Mod_ofHouse X N h a1 0) rfl rfl (Nat.le_of_ble_eq_true rfl) dX12_roadOf_4 (fun x1 => ?_)
  refine ro_iconst (v := 0) (pc := 7) dX12_roadOf_7 (by decide) ?_
  refine ro_cvV (pc := 8) (kc := 13) (avs := [.int x1, .int 0]) (st := []) ok_Mod_layWay wd_1783 cl_51 cv_51 rfl ⟨by decide, by decide⟩ ⟨Nat.zero_le _, Nat.zero_le _⟩ (c_Mod_layWay X N h x1 0) rfl rfl (Nat.le_of_ble_eq_true rfl) dX12_roadOf_8 (fun h2 => ?_)
  refine ro_aload_n (pc := 11) 0 dX12_roadOf_11 rfl rfl ?_
  refine gf_X12_36 (pc := 12) wd_1358 dX12_roadOf_12 ?_
  refine ro_iconst (v := (-1)) (pc := 15) dX12_roadOf_15 (by decide) ?_
  refine ro_icmp_ne (tgt := 23) (pc := 16) dX12_roadOf_16 (by decide) (fun _ => ?_) (fun _ => ?_)
  · skip
    refine ro_aload_n (pc := 23) 0 dX12_roadOf_23 rfl rfl ?_
    refine gf_X12_36 (pc := 24) wd_1358 dX12_roadOf_24 ?_
    exact ro_iret (pc := 27) rfl rfl dX12_roadOf_27
  · skip
    refine ro_iconst (v := 0) (pc := 19) dX12_roadOf_19 (by decide) ?_
    refine ro_goto (tgt := 27) (pc := 20) dX12_roadOf_20 (by decide) ?_
    exact ro_iret (pc := 27) rfl rfl dX12_roadOf_27
theorem c_Mod_roadOf (X : mu_X) (N : Nat) (h : mu_H) (a1 : Int32) : ∀ r, f_Mod_roadOf N h a1 = some r → mI X m_Mod_roadOf 14 [.ref (xa X 51), .int a1] h r.1 r.2 := fun r hr => mI_of (by decide) rfl (Nat.le_of_ble_eq_true rfl) rfl (cb_Mod_roadOf X N h a1 r hr)
set_option maxRecDepth 20000 in
theorem cb_Mod_road (X : mu_X) (N : Nat) (h : mu_H) (a1 : Int32) : aG X m_Mod_road (rmk 15) (fun _ => ax X) (fun _ _ _ => True) 0 0 (fun r : Int32 × mu_H => qI X r.1 r.2) (f_Mod_road N h a1) 0 [(0, .ref (xa X 51)), (1, .int a1)] [] h := by
  unfold f_Mod_road
  refine ro_aload_n (pc := 0) 0 dX12_road_0 rfl rfl ?_
  refine ro_iload_n (pc := 1) 1 dX12_road_1 rfl rfl ?_
  refine ro_cvP (pc := 2) (kc := 2) (avs := [.int a1]) (st := []) ok_Mod_isHouse wd_1634 cl_51 cv_51 rfl ⟨by decide, by decide⟩ ⟨Nat.zero_le _, Nat.zero_le _⟩ (c_Mod_isHouse X N h a1) rfl rfl (Nat.le_of_ble_eq_true rfl) dX12_road_2 (fun x1 => ?_)
  refine ro_if_eq (tgt := 16) (pc := 5) dX12_road_5 (by decide) (fun _ => ?_) (fun _ => ?_)
  · skip
    refine ro_iconst (v := (-1)) (pc := 16) dX12_road_16 (by decide) ?_
    exact ro_iret (pc := 17) rfl rfl dX12_road_17
  · skip
    refine ro_aload_n (pc := 8) 0 dX12_road_8 rfl rfl ?_
    refine ro_iload_n (pc := 9) 1 dX12_road_9 rfl rfl ?_
    refine ro_cvI (pc := 10) (kc := 14) (avs := [.int a1]) (st := []) ok_Mod_roadOf wd_1827 cl_51 cv_51 rfl ⟨by decide, by decide⟩ ⟨Nat.zero_le _, Nat.zero_le _⟩ (c_Mod_roadOf X N h a1) rfl rfl (Nat.le_of_ble_eq_true rfl) dX12_road_10 (fun x2 h3 => ?_)
    refine ro_goto (tgt := 17) (pc := 13) dX12_road_13 (by decide) ?_
    exact ro_iret (pc := 17) rfl rfl dX12_road_17
theorem c_Mod_road (X : mu_X) (N : Nat) (h : mu_H) (a1 : Int32) : ∀ r, f_Mod_road N h a1 = some r → mI X m_Mod_road 15 [.ref (xa X 51), .int a1] h r.1 r.2 := fun r hr => mI_of (by decide) rfl (Nat.le_of_ble_eq_true rfl) rfl (cb_Mod_road X N h a1 r hr)
set_option maxRecDepth 20000 in
theorem cb_Mod_rule (X : mu_X) (N : Nat) (h : mu_H) (a1 : Int32) : aG X m_Mod_rule (rmk 2) (fun _ => ax X) (fun _ _ _ => True) 0 0 (fun r : Int32 => qI X r h) (f_Mod_rule N h a1) 0 [(0, .ref (xa X 51)), (1, .int a1)] [] h := by
  unfold f_Mod_rule
  refine ro_aload_n (pc := 0) 0 dX12_rule_0 rfl rfl ?_
  refine gf_X12_25 (pc := 1) wd_1347 dX12_rule_1 ?_
  refine ro_if_le (tgt := 25) (pc := 4) dX12_rule_4 (by decide) (fun _ => ?_) (fun _ => ?_)
  · skip
    refine ro_iconst (v := (-1)) (pc := 25) dX12_rule_25 (by decide) ?_
    exact ro_iret (pc := 26) rfl rfl dX12_rule_26
  · skip
    refine ro_iload_n (pc := 7) 1 dX12_rule_7 rfl rfl ?_
    refine ro_iconst (v := 0) (pc := 8) dX12_rule_8 (by decide) ?_
    refine ro_iconst (v := 2) (pc := 9) dX12_rule_9 (by decide) ?_
    refine ro_csP (pc := 10) (kc := 1) (avs := [.int a1, .int 0, .int 2]) (st := []) ok_Mod_in wd_1523 ⟨by decide, by decide⟩ ⟨Nat.zero_le _, Nat.zero_le _⟩ (c_Mod_in X N h a1 0 2) rfl rfl (Nat.le_of_ble_eq_true rfl) dX12_rule_10 (fun x1 => ?_)
    refine ro_if_eq (tgt := 25) (pc := 13) dX12_rule_13 (by decide) (fun _ => ?_) (fun _ => ?_)
    · skip
      refine ro_iconst (v := (-1)) (pc := 25) dX12_rule_25 (by decide) ?_
      exact ro_iret (pc := 26) rfl rfl dX12_rule_26
    · skip
      refine ro_aload_n (pc := 16) 0 dX12_rule_16 rfl rfl ?_
      refine gf_X12_22 (pc := 17) wd_1344 dX12_rule_17 ?_
      refine ro_iload_n (pc := 20) 1 dX12_rule_20 rfl rfl ?_
      refine ro_iald (pc := 21) (n := 3) cl_65 cv_65 dX12_rule_21 ?_
      refine ro_goto (tgt := 26) (pc := 22) dX12_rule_22 (by decide) ?_
      exact ro_iret (pc := 26) rfl rfl dX12_rule_26
theorem c_Mod_rule (X : mu_X) (N : Nat) (h : mu_H) (a1 : Int32) : ∀ r, f_Mod_rule N h a1 = some r → mI X m_Mod_rule 2 [.ref (xa X 51), .int a1] h r h := fun r hr => mI_of (by decide) rfl (Nat.le_of_ble_eq_true rfl) rfl (cb_Mod_rule X N h a1 r hr)
set_option maxRecDepth 20000 in
theorem cb_Mod_seasons (X : mu_X) (N : Nat) (h : mu_H) (a1 : Int32) : aG X m_Mod_seasons (rmk 4) (fun _ => ax X) (fun _ _ _ => True) 0 0 (fun r : Int32 × mu_H => qI X r.1 r.2) (f_Mod_seasons N h a1) 0 [(0, .ref (xa X 51)), (1, .int a1)] [] h := by
  unfold f_Mod_seasons
  refine ro_aload_n (pc := 0) 0 dX12_seasons_0 rfl rfl ?_
  refine ro_aload_n (pc := 1) 0 dX12_seasons_1 rfl rfl ?_
  refine gf_X12_25 (pc := 2) wd_1347 dX12_seasons_2 ?_
  refine ro_jn (pcj := 39) (lvs := fun (s : Int32) => [(0, .ref (xa X 51)), (1, .int a1)]) (hs := fun (s : Int32) => h) (sts := fun (s : Int32) => [.int s, .ref (xa X 51)]) (fun x2 => ?_) (fun j1 hj1 => ?_)
  · try dsimp only
    refine ro_cvI (pc := 39) (kc := 1) (avs := [.int x2]) (st := []) ok_Mod_isRefused wd_1701 cl_51 cv_51 rfl ⟨by decide, by decide⟩ ⟨Nat.zero_le _, Nat.zero_le _⟩ (c_Mod_isRefused X N h x2) rfl rfl (Nat.le_of_ble_eq_true rfl) dX12_seasons_39 (fun x3 h4 => ?_)
    refine ro_if_eq (tgt := 47) (pc := 42) dX12_seasons_42 (by decide) (fun _ => ?_) (fun _ => ?_)
    · skip
      refine ro_iconst (v := 0) (pc := 47) dX12_seasons_47 (by decide) ?_
      refine ro_istore_n (pc := 48) (lv' := [(2, .int 0), (0, .ref (xa X 51)), (1, .int a1)]) dX12_seasons_48 rfl (by decide) rfl ?_
      refine ro_jn (pcj := 68) (lvs := fun (s : mu_H) => [(0, .ref (xa X 51))]) (hs := fun (s : mu_H) => s) (sts := fun (s : mu_H) => []) (fun h7 => ?_) (fun k6 hk6 => ?_)
      · try dsimp only
        refine ro_aload_n (pc := 68) 0 dX12_seasons_68 rfl rfl ?_
        refine gf_X12_27 (pc := 69) wd_1349 dX12_seasons_69 ?_
        refine ro_bipush (v := 32) (pc := 72) dX12_seasons_72 (by decide) ?_
        refine ro_iald (pc := 74) (n := 214) cl_68 cv_68 dX12_seasons_74 ?_
        exact ro_iret (pc := 75) rfl rfl dX12_seasons_75
      · skip
        refine ro_lv [1, 2, 0] rfl ?_
        refine ro_lp (pc := 49) (lvs := fun (s : Int32 × mu_H) => [(0, .ref (xa X 51)), (1, .int a1), (2, .int s.1)]) (hs := fun (s : Int32 × mu_H) => s.2) (fun rec8 hrec8 s => ?_) N (0, h4)
        obtain ⟨x9, h10⟩ := s; unfold f_Mod_seasons_L49; try dsimp only
        refine ro_iload_n (pc := 49) 2 dX12_seasons_49 rfl rfl ?_
        refine ro_iload_n (pc := 50) 1 dX12_seasons_50 rfl rfl ?_
        refine ro_icmp_ge (tgt := 68) (pc := 51) dX12_seasons_51 (by decide) (fun _ => ?_) (fun _ => ?_)
        · skip
          refine ro_lv [0] rfl ?_
          exact hk6 h10
        · skip
          refine ro_aload_n (pc := 54) 0 dX12_seasons_54 rfl rfl ?_
          refine ro_cvV (pc := 55) (kc := 1) (avs := []) (st := []) ok_Mod_keep wd_1705 cl_51 cv_51 rfl ⟨by decide, by decide⟩ ⟨Nat.zero_le _, Nat.zero_le _⟩ (c_Mod_keep X N h10) rfl rfl (Nat.le_of_ble_eq_true rfl) dX12_seasons_55 (fun h11 => ?_)
          refine ro_aload_n (pc := 58) 0 dX12_seasons_58 rfl rfl ?_
          refine ro_cvV (pc := 59) (kc := 3) (avs := []) (st := []) ok_Mod_passSeason wd_1733 cl_51 cv_51 rfl ⟨by decide, by decide⟩ ⟨Nat.zero_le _, Nat.zero_le _⟩ (c_Mod_passSeason X N h11) rfl rfl (Nat.le_of_ble_eq_true rfl) dX12_seasons_59 (fun h12 => ?_)
          refine ro_iinc (pc := 62) (v := x9 + 1) (lv' := [(2, .int (x9 + 1)), (0, .ref (xa X 51)), (1, .int a1)]) 2 dX12_seasons_62 rfl rfl (by decide) rfl ?_
          refine ro_goto (tgt := 49) (pc := 65) dX12_seasons_65 (by decide) ?_
          refine ro_lv [1, 2, 0] rfl ?_
          exact hrec8 (x9 + 1, h12)
    · skip
      refine ro_iconst (v := (-1)) (pc := 45) dX12_seasons_45 (by decide) ?_
      exact ro_iret (pc := 46) rfl rfl dX12_seasons_46
  · skip
    refine ro_if_ne (tgt := 12) (pc := 5) dX12_seasons_5 (by decide) (fun _ => ?_) (fun _ => ?_)
    · skip
      refine ro_iload_n (pc := 12) 1 dX12_seasons_12 rfl rfl ?_
      refine ro_iconst (v := 1) (pc := 13) dX12_seasons_13 (by decide) ?_
      refine ro_bipush (v := 60) (pc := 14) dX12_seasons_14 (by decide) ?_
      refine ro_csP (pc := 16) (kc := 1) (avs := [.int a1, .int 1, .int 60]) (st := [.ref (xa X 51)]) ok_Mod_in wd_1523 ⟨by decide, by decide⟩ ⟨Nat.zero_le _, Nat.zero_le _⟩ (c_Mod_in X N h a1 1 60) rfl rfl (Nat.le_of_ble_eq_true rfl) dX12_seasons_16 (fun x13 => ?_)
      refine ro_if_ne (tgt := 26) (pc := 19) dX12_seasons_19 (by decide) (fun _ => ?_) (fun _ => ?_)
      · skip
        refine ro_aload_n (pc := 26) 0 dX12_seasons_26 rfl rfl ?_
        refine ro_iload_n (pc := 27) 1 dX12_seasons_27 rfl rfl ?_
        refine ro_cvP (pc := 28) (kc := 2) (avs := [.int a1]) (st := [.ref (xa X 51)]) ok_Mod_areSeasons wd_1729 cl_51 cv_51 rfl ⟨by decide, by decide⟩ ⟨Nat.zero_le _, Nat.zero_le _⟩ (c_Mod_areSeasons X N h a1) rfl rfl (Nat.le_of_ble_eq_true rfl) dX12_seasons_28 (fun x14 => ?_)
        refine ro_if_ne (tgt := 38) (pc := 31) dX12_seasons_31 (by decide) (fun _ => ?_) (fun _ => ?_)
        · skip
          refine ro_iconst (v := (-1)) (pc := 38) dX12_seasons_38 (by decide) ?_
          exact hj1 (-1)
        · skip
          refine ro_iconst (v := 4) (pc := 34) dX12_seasons_34 (by decide) ?_
          refine ro_goto (tgt := 39) (pc := 35) dX12_seasons_35 (by decide) ?_
          exact hj1 4
      · skip
        refine ro_iconst (v := 1) (pc := 22) dX12_seasons_22 (by decide) ?_
        refine ro_goto (tgt := 39) (pc := 23) dX12_seasons_23 (by decide) ?_
        exact hj1 1
    · skip
      refine ro_iconst (v := 0) (pc := 8) dX12_seasons_8 (by decide) ?_
      refine ro_goto (tgt := 39) (pc := 9) dX12_seasons_9 (by decide) ?_
      exact hj1 0
theorem c_Mod_seasons (X : mu_X) (N : Nat) (h : mu_H) (a1 : Int32) : ∀ r, f_Mod_seasons N h a1 = some r → mI X m_Mod_seasons 4 [.ref (xa X 51), .int a1] h r.1 r.2 := fun r hr => mI_of (by decide) rfl (Nat.le_of_ble_eq_true rfl) rfl (cb_Mod_seasons X N h a1 r hr)
set_option maxRecDepth 20000 in
theorem cb_Mod_seen (X : mu_X) (N : Nat) (h : mu_H) (a1 : Int32) (a2 : Int32) : aG X m_Mod_seen (rmk 2) (fun _ => ax X) (fun _ _ _ => True) 0 0 (fun r : Int32 × mu_H => qI X r.1 r.2) (f_Mod_seen N h a1 a2) 0 [(0, .ref (xa X 51)), (1, .int a1), (2, .int a2)] [] h := by
  unfold f_Mod_seen
  refine ro_aload_n (pc := 0) 0 dX12_seen_0 rfl rfl ?_
  refine gf_X12_25 (pc := 1) wd_1347 dX12_seen_1 ?_
  refine ro_if_eq (tgt := 32) (pc := 4) dX12_seen_4 (by decide) (fun _ => ?_) (fun _ => ?_)
  · skip
    refine ro_iconst (v := (-1)) (pc := 32) dX12_seen_32 (by decide) ?_
    exact ro_iret (pc := 33) rfl rfl dX12_seen_33
  · skip
    refine ro_iload_n (pc := 7) 1 dX12_seen_7 rfl rfl ?_
    refine ro_iconst (v := 1) (pc := 8) dX12_seen_8 (by decide) ?_
    refine ro_iconst (v := 1) (pc := 9) dX12_seen_9 (by decide) ?_
    refine ro_aload_n (pc := 10) 0 dX12_seen_10 rfl rfl ?_
    refine gf_X12_26 (pc := 11) wd_1348 dX12_seen_11 ?_
    refine ro_ishl (pc := 14) dX12_seen_14 ?_
    refine ro_iconst (v := 1) (pc := 15) dX12_seen_15 (by decide) ?_
    refine ro_isub (pc := 16) dX12_seen_16 ?_
    refine ro_csP (pc := 17) (kc := 1) (avs := [.int a1, .int 1, .int (((1 : Int32) <<< ((h.1 51 26) &&& 31)) - 1)]) (st := []) ok_Mod_in wd_1523 ⟨by decide, by decide⟩ ⟨Nat.zero_le _, Nat.zero_le _⟩ (c_Mod_in X N h a1 1 (((1 : Int32) <<< ((h.1 51 26) &&& 31)) - 1)) rfl rfl (Nat.le_of_ble_eq_true rfl) dX12_seen_17 (fun x1 => ?_)
    refine ro_if_eq (tgt := 32) (pc := 20) dX12_seen_20 (by decide) (fun _ => ?_) (fun _ => ?_)
    · skip
      refine ro_iconst (v := (-1)) (pc := 32) dX12_seen_32 (by decide) ?_
      exact ro_iret (pc := 33) rfl rfl dX12_seen_33
    · skip
      refine ro_aload_n (pc := 23) 0 dX12_seen_23 rfl rfl ?_
      refine gf_X12_40 (pc := 24) wd_1362 dX12_seen_24 ?_
      refine ro_bipush (v := 10) (pc := 27) dX12_seen_27 (by decide) ?_
      refine ro_icmp_ne (tgt := 34) (pc := 29) dX12_seen_29 (by decide) (fun _ => ?_) (fun _ => ?_)
      · skip
        refine ro_aload_n (pc := 34) 0 dX12_seen_34 rfl rfl ?_
        refine gf_X12_38 (pc := 35) wd_1360 dX12_seen_35 ?_
        refine ro_aload_n (pc := 38) 0 dX12_seen_38 rfl rfl ?_
        refine gf_X12_40 (pc := 39) wd_1362 dX12_seen_39 ?_
        refine ro_iload_n (pc := 42) 1 dX12_seen_42 rfl rfl ?_
        refine ro_iast (pc := 43) (n := 10) cl_73 cv_73 dX12_seen_43 ?_
        refine ro_bnh (fun h2 => ?_)
        refine ro_aload_n (pc := 44) 0 dX12_seen_44 rfl rfl ?_
        refine gf_X12_39 (pc := 45) wd_1361 dX12_seen_45 ?_
        refine ro_aload_n (pc := 48) 0 dX12_seen_48 rfl rfl ?_
        refine gf_X12_40 (pc := 49) wd_1362 dX12_seen_49 ?_
        refine ro_iload_n (pc := 52) 2 dX12_seen_52 rfl rfl ?_
        refine ro_zast (pc := 53) (n := 10) cl_74 cv_74 dX12_seen_53 ?_
        refine ro_bnh (fun h3 => ?_)
        refine ro_aload_n (pc := 54) 0 dX12_seen_54 rfl rfl ?_
        refine ro_dup (pc := 55) dX12_seen_55 rfl ?_
        refine gf_X12_40 (pc := 56) wd_1362 dX12_seen_56 ?_
        refine ro_iconst (v := 1) (pc := 59) dX12_seen_59 (by decide) ?_
        refine ro_iadd (pc := 60) dX12_seen_60 ?_
        refine pf_X12_40 (pc := 61) wd_1362 dX12_seen_61 ?_
        refine ro_bnh (fun h4 => ?_)
        refine ro_aload_n (pc := 64) 0 dX12_seen_64 rfl rfl ?_
        refine gf_X12_40 (pc := 65) wd_1362 dX12_seen_65 ?_
        exact ro_iret (pc := 68) rfl rfl dX12_seen_68
      · skip
        refine ro_iconst (v := (-1)) (pc := 32) dX12_seen_32 (by decide) ?_
        exact ro_iret (pc := 33) rfl rfl dX12_seen_33
theorem c_Mod_seen (X : mu_X) (N : Nat) (h : mu_H) (a1 : Int32) (a2 : Int32) : ∀ r, f_Mod_seen N h a1 a2 = some r → mI X m_Mod_seen 2 [.ref (xa X 51), .int a1, .int a2] h r.1 r.2 := fun r hr => mI_of (by decide) rfl (Nat.le_of_ble_eq_true rfl) rfl (cb_Mod_seen X N h a1 a2 r hr)
set_option maxRecDepth 20000 in
theorem cb_Mod_useOf (X : mu_X) (N : Nat) (h : mu_H) (a1 : Int32) : aG X m_Mod_useOf (rmk 2) (fun _ => ax X) (fun _ _ _ => True) 0 0 (fun r : Int32 => qI X r h) (f_Mod_useOf N h a1) 0 [(0, .ref (xa X 51)), (1, .int a1)] [] h := by
  unfold f_Mod_useOf
  refine ro_iconst (v := 0) (pc := 0) dX12_useOf_0 (by decide) ?_
  refine ro_istore_n (pc := 1) (lv' := [(2, .int 0), (0, .ref (xa X 51)), (1, .int a1)]) dX12_useOf_1 rfl (by decide) rfl ?_
  refine ro_iconst (v := 0) (pc := 2) dX12_useOf_2 (by decide) ?_
  refine ro_istore_n (pc := 3) (lv' := [(3, .int 0), (2, .int 0), (0, .ref (xa X 51)), (1, .int a1)]) dX12_useOf_3 rfl (by decide) rfl ?_
  refine ro_lv [2, 3, 1, 0] rfl ?_
  refine ro_lp (pc := 4) (lvs := fun (s : Int32 × Int32) => [(0, .ref (xa X 51)), (1, .int a1), (2, .int s.1), (3, .int s.2)]) (hs := fun (s : Int32 × Int32) => h) (fun rec1 hrec1 s => ?_) N (0, 0)
  obtain ⟨x2, x3⟩ := s; unfold f_Mod_useOf_L4; try dsimp only
  refine ro_iload_n (pc := 4) 3 dX12_useOf_4 rfl rfl ?_
  refine ro_aload_n (pc := 5) 0 dX12_useOf_5 rfl rfl ?_
  refine gf_X12_25 (pc := 6) wd_1347 dX12_useOf_6 ?_
  refine ro_icmp_ge (tgt := 39) (pc := 9) dX12_useOf_9 (by decide) (fun _ => ?_) (fun _ => ?_)
  · skip
    refine ro_iload_n (pc := 39) 2 dX12_useOf_39 rfl rfl ?_
    exact ro_iret (pc := 40) rfl rfl dX12_useOf_40
  · skip
    refine ro_iload_n (pc := 12) 2 dX12_useOf_12 rfl rfl ?_
    refine ro_iload_n (pc := 13) 1 dX12_useOf_13 rfl rfl ?_
    refine ro_iload_n (pc := 14) 3 dX12_useOf_14 rfl rfl ?_
    refine ro_csP (pc := 15) (kc := 1) (avs := [.int a1, .int x3]) (st := [.int x2]) ok_Mod_has wd_1503 ⟨by decide, by decide⟩ ⟨Nat.zero_le _, Nat.zero_le _⟩ (c_Mod_has X N h a1 x3) rfl rfl (Nat.le_of_ble_eq_true rfl) dX12_useOf_15 (fun x4 => ?_)
    refine ro_jn (pcj := 31) (lvs := fun (s : Int32) => [(0, .ref (xa X 51)), (1, .int a1), (3, .int x3)]) (hs := fun (s : Int32) => h) (sts := fun (s : Int32) => [.int s, .int x2]) (fun x6 => ?_) (fun j5 hj5 => ?_)
    · try dsimp only
      refine ro_iadd (pc := 31) dX12_useOf_31 ?_
      refine ro_bn (fun x7 => ?_)
      refine ro_istore_n (pc := 32) (lv' := [(2, .int x7), (0, .ref (xa X 51)), (1, .int a1), (3, .int x3)]) dX12_useOf_32 rfl (by decide) rfl ?_
      refine ro_iinc (pc := 33) (v := x3 + 1) (lv' := [(3, .int (x3 + 1)), (2, .int x7), (0, .ref (xa X 51)), (1, .int a1)]) 3 dX12_useOf_33 rfl rfl (by decide) rfl ?_
      refine ro_goto (tgt := 4) (pc := 36) dX12_useOf_36 (by decide) ?_
      refine ro_lv [2, 3, 1, 0] rfl ?_
      exact hrec1 (x7, x3 + 1)
    · skip
      refine ro_if_eq (tgt := 30) (pc := 18) dX12_useOf_18 (by decide) (fun _ => ?_) (fun _ => ?_)
      · skip
        refine ro_iconst (v := 0) (pc := 30) dX12_useOf_30 (by decide) ?_
        refine ro_lv [0, 1, 3] rfl ?_
        exact hj5 0
      · skip
        refine ro_aload_n (pc := 21) 0 dX12_useOf_21 rfl rfl ?_
        refine ro_iload_n (pc := 22) 3 dX12_useOf_22 rfl rfl ?_
        refine ro_iconst (v := 4) (pc := 23) dX12_useOf_23 (by decide) ?_
        refine ro_cvP (pc := 24) (kc := 1) (avs := [.int x3, .int 4]) (st := [.int x2]) ok_Mod_of wd_1608 cl_51 cv_51 rfl ⟨by decide, by decide⟩ ⟨Nat.zero_le _, Nat.zero_le _⟩ (c_Mod_of X N h x3 4) rfl rfl (Nat.le_of_ble_eq_true rfl) dX12_useOf_24 (fun x8 => ?_)
        refine ro_goto (tgt := 31) (pc := 27) dX12_useOf_27 (by decide) ?_
        refine ro_lv [0, 1, 3] rfl ?_
        exact hj5 x8
theorem c_Mod_useOf (X : mu_X) (N : Nat) (h : mu_H) (a1 : Int32) : ∀ r, f_Mod_useOf N h a1 = some r → mI X m_Mod_useOf 2 [.ref (xa X 51), .int a1] h r h := fun r hr => mI_of (by decide) rfl (Nat.le_of_ble_eq_true rfl) rfl (cb_Mod_useOf X N h a1 r hr)
set_option maxRecDepth 20000 in
theorem cb_Mod_useOfAll (X : mu_X) (N : Nat) (h : mu_H) : aG X m_Mod_useOfAll (rmk 15) (fun _ => ax X) (fun _ _ _ => True) 0 0 (fun r : Int32 × mu_H => qI X r.1 r.2) (f_Mod_useOfAll N h) 0 [(0, .ref (xa X 51))] [] h := by
  unfold f_Mod_useOfAll
  refine ro_iconst (v := 0) (pc := 0) dX12_useOfAll_0 (by decide) ?_
  refine ro_istore_n (pc := 1) (lv' := [(1, .int 0), (0, .ref (xa X 51))]) dX12_useOfAll_1 rfl (by decide) rfl ?_
  refine ro_iconst (v := 0) (pc := 2) dX12_useOfAll_2 (by decide) ?_
  refine ro_istore_n (pc := 3) (lv' := [(2, .int 0), (1, .int 0), (0, .ref (xa X 51))]) dX12_useOfAll_3 rfl (by decide) rfl ?_
  refine ro_lv [2, 1, 0] rfl ?_
  refine ro_lp (pc := 4) (lvs := fun (s : Int32 × Int32 × mu_H) => [(0, .ref (xa X 51)), (1, .int s.1), (2, .int s.2.1)]) (hs := fun (s : Int32 × Int32 × mu_H) => s.2.2) (fun rec1 hrec1 s => ?_) N (0, 0, h)
  obtain ⟨x2, x3, h4⟩ := s; unfold f_Mod_useOfAll_L4; try dsimp only
  refine ro_iload_n (pc := 4) 2 dX12_useOfAll_4 rfl rfl ?_
  refine ro_aload_n (pc := 5) 0 dX12_useOfAll_5 rfl rfl ?_
  refine gf_X12_26 (pc := 6) wd_1348 dX12_useOfAll_6 ?_
  refine ro_icmp_ge (tgt := 30) (pc := 9) dX12_useOfAll_9 (by decide) (fun _ => ?_) (fun _ => ?_)
  · skip
    refine ro_iload_n (pc := 30) 1 dX12_useOfAll_30 rfl rfl ?_
    exact ro_iret (pc := 31) rfl rfl dX12_useOfAll_31
  · skip
    refine ro_iload_n (pc := 12) 1 dX12_useOfAll_12 rfl rfl ?_
    refine ro_aload_n (pc := 13) 0 dX12_useOfAll_13 rfl rfl ?_
    refine ro_aload_n (pc := 14) 0 dX12_useOfAll_14 rfl rfl ?_
    refine ro_iload_n (pc := 15) 2 dX12_useOfAll_15 rfl rfl ?_
    refine ro_cvI (pc := 16) (kc := 14) (avs := [.int x3]) (st := [.ref (xa X 51), .int x2]) ok_Mod_roadOf wd_1827 cl_51 cv_51 rfl ⟨by decide, by decide⟩ ⟨Nat.zero_le _, Nat.zero_le _⟩ (c_Mod_roadOf X N h4 x3) rfl rfl (Nat.le_of_ble_eq_true rfl) dX12_useOfAll_16 (fun x5 h6 => ?_)
    refine ro_cvP (pc := 19) (kc := 2) (avs := [.int x5]) (st := [.int x2]) ok_Mod_useOf wd_1839 cl_51 cv_51 rfl ⟨by decide, by decide⟩ ⟨Nat.zero_le _, Nat.zero_le _⟩ (c_Mod_useOf X N h6 x5) rfl rfl (Nat.le_of_ble_eq_true rfl) dX12_useOfAll_19 (fun x8 => ?_)
    refine ro_iadd (pc := 22) dX12_useOfAll_22 ?_
    refine ro_bn (fun x9 => ?_)
    refine ro_istore_n (pc := 23) (lv' := [(1, .int x9), (0, .ref (xa X 51)), (2, .int x3)]) dX12_useOfAll_23 rfl (by decide) rfl ?_
    refine ro_iinc (pc := 24) (v := x3 + 1) (lv' := [(2, .int (x3 + 1)), (1, .int x9), (0, .ref (xa X 51))]) 2 dX12_useOfAll_24 rfl rfl (by decide) rfl ?_
    refine ro_goto (tgt := 4) (pc := 27) dX12_useOfAll_27 (by decide) ?_
    refine ro_lv [2, 1, 0] rfl ?_
    exact hrec1 (x9, x3 + 1, h6)
theorem c_Mod_useOfAll (X : mu_X) (N : Nat) (h : mu_H) : ∀ r, f_Mod_useOfAll N h = some r → mI X m_Mod_useOfAll 15 [.ref (xa X 51)] h r.1 r.2 := fun r hr => mI_of (by decide) rfl (Nat.le_of_ble_eq_true rfl) rfl (cb_Mod_useOfAll X N h r hr)
set_option maxRecDepth 20000 in
theorem cb_Mod_shares (X : mu_X) (N : Nat) (h : mu_H) (a1 : Int32) (a2 : Int32) : aG X m_Mod_shares (rmk 16) (fun _ => ax X) (fun _ _ _ => True) 0 0 (fun r : Int32 × mu_H => qI X r.1 r.2) (f_Mod_shares N h a1 a2) 0 [(0, .ref (xa X 51)), (1, .int a1), (2, .int a2)] [] h := by
  unfold f_Mod_shares
  refine ro_aload_n (pc := 0) 0 dX12_shares_0 rfl rfl ?_
  refine ro_iload_n (pc := 1) 1 dX12_shares_1 rfl rfl ?_
  refine ro_cvP (pc := 2) (kc := 2) (avs := [.int a1]) (st := []) ok_Mod_isHouse wd_1634 cl_51 cv_51 rfl ⟨by decide, by decide⟩ ⟨Nat.zero_le _, Nat.zero_le _⟩ (c_Mod_isHouse X N h a1) rfl rfl (Nat.le_of_ble_eq_true rfl) dX12_shares_2 (fun x1 => ?_)
  refine ro_if_eq (tgt := 19) (pc := 5) dX12_shares_5 (by decide) (fun _ => ?_) (fun _ => ?_)
  · skip
    refine ro_iconst (v := (-1)) (pc := 19) dX12_shares_19 (by decide) ?_
    exact ro_iret (pc := 20) rfl rfl dX12_shares_20
  · skip
    refine ro_iload_n (pc := 8) 2 dX12_shares_8 rfl rfl ?_
    refine ro_iconst (v := 0) (pc := 9) dX12_shares_9 (by decide) ?_
    refine ro_sipush (v := 999) (pc := 10) dX12_shares_10 (by decide) ?_
    refine ro_csP (pc := 13) (kc := 1) (avs := [.int a2, .int 0, .int 999]) (st := []) ok_Mod_in wd_1523 ⟨by decide, by decide⟩ ⟨Nat.zero_le _, Nat.zero_le _⟩ (c_Mod_in X N h a2 0 999) rfl rfl (Nat.le_of_ble_eq_true rfl) dX12_shares_13 (fun x2 => ?_)
    refine ro_if_ne (tgt := 21) (pc := 16) dX12_shares_16 (by decide) (fun _ => ?_) (fun _ => ?_)
    · skip
      refine ro_aload_n (pc := 21) 0 dX12_shares_21 rfl rfl ?_
      refine ro_cvI (pc := 22) (kc := 15) (avs := []) (st := []) ok_Mod_useOfAll wd_1835 cl_51 cv_51 rfl ⟨by decide, by decide⟩ ⟨Nat.zero_le _, Nat.zero_le _⟩ (c_Mod_useOfAll X N h) rfl rfl (Nat.le_of_ble_eq_true rfl) dX12_shares_22 (fun x3 h4 => ?_)
      refine ro_istore_n (pc := 25) (lv' := [(3, .int x3), (0, .ref (xa X 51)), (1, .int a1), (2, .int a2)]) dX12_shares_25 rfl (by decide) rfl ?_
      refine ro_iload_n (pc := 26) 0 dX12_shares_26 rfl rfl ?_
      refine ro_if_ne (tgt := 34) (pc := 27) dX12_shares_27 (by decide) (fun _ => ?_) (fun _ => ?_)
      · skip
        refine ro_iload_n (pc := 34) 3 dX12_shares_34 rfl rfl ?_
        refine ro_aload_n (pc := 35) 1 dX12_shares_35 rfl rfl ?_
        refine ro_aload_n (pc := 36) 1 dX12_shares_36 rfl rfl ?_
        refine ro_iload_n (pc := 37) 2 dX12_shares_37 rfl rfl ?_
        refine ro_cvI (pc := 38) (kc := 14) (avs := [.int a1]) (st := [.ref (xa X 51), .int a2]) ok_Mod_roadOf wd_1827 cl_51 cv_51 rfl ⟨by decide, by decide⟩ ⟨Nat.zero_le _, Nat.zero_le _⟩ (c_Mod_roadOf X N h4 a1) rfl rfl (Nat.le_of_ble_eq_true rfl) dX12_shares_38 (fun x6 h7 => ?_)
        refine ro_cvP (pc := 41) (kc := 2) (avs := [.int x6]) (st := [.int a2]) ok_Mod_useOf wd_1839 cl_51 cv_51 rfl ⟨by decide, by decide⟩ ⟨Nat.zero_le _, Nat.zero_le _⟩ (c_Mod_useOf X N h7 x6) rfl rfl (Nat.le_of_ble_eq_true rfl) dX12_shares_41 (fun x9 => ?_)
        refine ro_imul (pc := 44) dX12_shares_44 ?_
        refine ro_iload_n (pc := 45) 0 dX12_shares_45 rfl rfl ?_
        refine ro_idivg (pc := 46) dX12_shares_46 ?_
        exact ro_iret (pc := 47) rfl rfl dX12_shares_47
      · skip
        refine ro_iconst (v := 0) (pc := 30) dX12_shares_30 (by decide) ?_
        refine ro_goto (tgt := 47) (pc := 31) dX12_shares_31 (by decide) ?_
        exact ro_iret (pc := 47) rfl rfl dX12_shares_47
    · skip
      refine ro_iconst (v := (-1)) (pc := 19) dX12_shares_19 (by decide) ?_
      exact ro_iret (pc := 20) rfl rfl dX12_shares_20
theorem c_Mod_shares (X : mu_X) (N : Nat) (h : mu_H) (a1 : Int32) (a2 : Int32) : ∀ r, f_Mod_shares N h a1 a2 = some r → mI X m_Mod_shares 16 [.ref (xa X 51), .int a1, .int a2] h r.1 r.2 := fun r hr => mI_of (by decide) rfl (Nat.le_of_ble_eq_true rfl) rfl (cb_Mod_shares X N h a1 a2 r hr)
set_option maxRecDepth 20000 in
theorem cb_Mod_status (X : mu_X) (N : Nat) (h : mu_H) (a1 : Int32) : aG X m_Mod_status (rmk 2) (fun _ => ax X) (fun _ _ _ => True) 0 0 (fun r : Int32 => qI X r h) (f_Mod_status N h a1) 0 [(0, .ref (xa X 51)), (1, .int a1)] [] h := by
  unfold f_Mod_status
  refine ro_iload_n (pc := 0) 1 dX12_status_0 rfl rfl ?_
  refine ro_iconst (v := 0) (pc := 1) dX12_status_1 (by decide) ?_
  refine ro_iconst (v := 4) (pc := 2) dX12_status_2 (by decide) ?_
  refine ro_csP (pc := 3) (kc := 1) (avs := [.int a1, .int 0, .int 4]) (st := []) ok_Mod_in wd_1523 ⟨by decide, by decide⟩ ⟨Nat.zero_le _, Nat.zero_le _⟩ (c_Mod_in X N h a1 0 4) rfl rfl (Nat.le_of_ble_eq_true rfl) dX12_status_3 (fun x1 => ?_)
  refine ro_if_eq (tgt := 18) (pc := 6) dX12_status_6 (by decide) (fun _ => ?_) (fun _ => ?_)
  · skip
    refine ro_iconst (v := (-1)) (pc := 18) dX12_status_18 (by decide) ?_
    exact ro_iret (pc := 19) rfl rfl dX12_status_19
  · skip
    refine ro_aload_n (pc := 9) 0 dX12_status_9 rfl rfl ?_
    refine gf_X12_28 (pc := 10) wd_1350 dX12_status_10 ?_
    refine ro_iload_n (pc := 13) 1 dX12_status_13 rfl rfl ?_
    refine ro_iald (pc := 14) (n := 5) cl_69 cv_69 dX12_status_14 ?_
    refine ro_goto (tgt := 19) (pc := 15) dX12_status_15 (by decide) ?_
    exact ro_iret (pc := 19) rfl rfl dX12_status_19
theorem c_Mod_status (X : mu_X) (N : Nat) (h : mu_H) (a1 : Int32) : ∀ r, f_Mod_status N h a1 = some r → mI X m_Mod_status 2 [.ref (xa X 51), .int a1] h r h := fun r hr => mI_of (by decide) rfl (Nat.le_of_ble_eq_true rfl) rfl (cb_Mod_status X N h a1 r hr)
set_option maxRecDepth 20000 in
theorem cb_Mod_stretch (X : mu_X) (N : Nat) (h : mu_H) (a1 : Int32) (a2 : Int32) : aG X m_Mod_stretch (rmk 3) (fun _ => ax X) (fun _ _ _ => True) 0 0 (fun r : Int32 => qI X r h) (f_Mod_stretch N h a1 a2) 0 [(0, .ref (xa X 51)), (1, .int a1), (2, .int a2)] [] h := by
  unfold f_Mod_stretch
  refine ro_aload_n (pc := 0) 0 dX12_stretch_0 rfl rfl ?_
  refine ro_iload_n (pc := 1) 1 dX12_stretch_1 rfl rfl ?_
  refine ro_cvP (pc := 2) (kc := 2) (avs := [.int a1]) (st := []) ok_Mod_isStretch wd_1626 cl_51 cv_51 rfl ⟨by decide, by decide⟩ ⟨Nat.zero_le _, Nat.zero_le _⟩ (c_Mod_isStretch X N h a1) rfl rfl (Nat.le_of_ble_eq_true rfl) dX12_stretch_2 (fun x1 => ?_)
  refine ro_if_eq (tgt := 17) (pc := 5) dX12_stretch_5 (by decide) (fun _ => ?_) (fun _ => ?_)
  · skip
    refine ro_iconst (v := (-1)) (pc := 17) dX12_stretch_17 (by decide) ?_
    exact ro_iret (pc := 18) rfl rfl dX12_stretch_18
  · skip
    refine ro_iload_n (pc := 8) 2 dX12_stretch_8 rfl rfl ?_
    refine ro_iconst (v := 0) (pc := 9) dX12_stretch_9 (by decide) ?_
    refine ro_iconst (v := 4) (pc := 10) dX12_stretch_10 (by decide) ?_
    refine ro_csP (pc := 11) (kc := 1) (avs := [.int a2, .int 0, .int 4]) (st := []) ok_Mod_in wd_1523 ⟨by decide, by decide⟩ ⟨Nat.zero_le _, Nat.zero_le _⟩ (c_Mod_in X N h a2 0 4) rfl rfl (Nat.le_of_ble_eq_true rfl) dX12_stretch_11 (fun x2 => ?_)
    refine ro_if_ne (tgt := 19) (pc := 14) dX12_stretch_14 (by decide) (fun _ => ?_) (fun _ => ?_)
    · skip
      refine ro_iload_n (pc := 19) 2 dX12_stretch_19 rfl rfl ?_
      refine ro_iconst (v := 2) (pc := 20) dX12_stretch_20 (by decide) ?_
      refine ro_icmp_ne (tgt := 35) (pc := 21) dX12_stretch_21 (by decide) (fun _ => ?_) (fun _ => ?_)
      · skip
        refine ro_iload_n (pc := 35) 2 dX12_stretch_35 rfl rfl ?_
        refine ro_iconst (v := 3) (pc := 36) dX12_stretch_36 (by decide) ?_
        refine ro_icmp_ne (tgt := 52) (pc := 37) dX12_stretch_37 (by decide) (fun _ => ?_) (fun _ => ?_)
        · skip
          refine ro_aload_n (pc := 52) 0 dX12_stretch_52 rfl rfl ?_
          refine ro_iload_n (pc := 53) 1 dX12_stretch_53 rfl rfl ?_
          refine ro_iload_n (pc := 54) 2 dX12_stretch_54 rfl rfl ?_
          refine ro_cvP (pc := 55) (kc := 1) (avs := [.int a1, .int a2]) (st := []) ok_Mod_of wd_1608 cl_51 cv_51 rfl ⟨by decide, by decide⟩ ⟨Nat.zero_le _, Nat.zero_le _⟩ (c_Mod_of X N h a1 a2) rfl rfl (Nat.le_of_ble_eq_true rfl) dX12_stretch_55 (fun x3 => ?_)
          exact ro_iret (pc := 58) rfl rfl dX12_stretch_58
        · skip
          refine ro_aload_n (pc := 40) 0 dX12_stretch_40 rfl rfl ?_
          refine gf_X12_27 (pc := 41) wd_1349 dX12_stretch_41 ?_
          refine ro_bipush (v := 9) (pc := 44) dX12_stretch_44 (by decide) ?_
          refine ro_iload_n (pc := 46) 1 dX12_stretch_46 rfl rfl ?_
          refine ro_iadd (pc := 47) dX12_stretch_47 ?_
          refine ro_iald (pc := 48) (n := 214) cl_68 cv_68 dX12_stretch_48 ?_
          refine ro_goto (tgt := 58) (pc := 49) dX12_stretch_49 (by decide) ?_
          exact ro_iret (pc := 58) rfl rfl dX12_stretch_58
      · skip
        refine ro_aload_n (pc := 24) 0 dX12_stretch_24 rfl rfl ?_
        refine gf_X12_27 (pc := 25) wd_1349 dX12_stretch_25 ?_
        refine ro_iconst (v := 0) (pc := 28) dX12_stretch_28 (by decide) ?_
        refine ro_iload_n (pc := 29) 1 dX12_stretch_29 rfl rfl ?_
        refine ro_iadd (pc := 30) dX12_stretch_30 ?_
        refine ro_iald (pc := 31) (n := 214) cl_68 cv_68 dX12_stretch_31 ?_
        refine ro_goto (tgt := 58) (pc := 32) dX12_stretch_32 (by decide) ?_
        exact ro_iret (pc := 58) rfl rfl dX12_stretch_58
    · skip
      refine ro_iconst (v := (-1)) (pc := 17) dX12_stretch_17 (by decide) ?_
      exact ro_iret (pc := 18) rfl rfl dX12_stretch_18
theorem c_Mod_stretch (X : mu_X) (N : Nat) (h : mu_H) (a1 : Int32) (a2 : Int32) : ∀ r, f_Mod_stretch N h a1 a2 = some r → mI X m_Mod_stretch 3 [.ref (xa X 51), .int a1, .int a2] h r h := fun r hr => mI_of (by decide) rfl (Nat.le_of_ble_eq_true rfl) rfl (cb_Mod_stretch X N h a1 a2 r hr)
set_option maxRecDepth 20000 in
theorem cb_Mod_takeParish (X : mu_X) (N : Nat) (h : mu_H) : aG X m_Mod_takeParish (rmk 3) (fun _ => ax X) (fun _ _ _ => True) 0 0 (fun r : Int32 × mu_H => qI X r.1 r.2) (f_Mod_takeParish N h) 0 [(0, .ref (xa X 51))] [] h := by
  unfold f_Mod_takeParish
  refine ro_aload_n (pc := 0) 0 dX12_takeParish_0 rfl rfl ?_
  refine ro_aload_n (pc := 1) 0 dX12_takeParish_1 rfl rfl ?_
  refine gf_X12_20 (pc := 2) wd_1342 dX12_takeParish_2 ?_
  refine pf_X12_25 (pc := 5) wd_1347 dX12_takeParish_5 ?_
  refine ro_bnh (fun h1 => ?_)
  refine ro_aload_n (pc := 8) 0 dX12_takeParish_8 rfl rfl ?_
  refine ro_aload_n (pc := 9) 0 dX12_takeParish_9 rfl rfl ?_
  refine gf_X12_21 (pc := 10) wd_1343 dX12_takeParish_10 ?_
  refine pf_X12_26 (pc := 13) wd_1348 dX12_takeParish_13 ?_
  refine ro_bnh (fun h2 => ?_)
  refine ro_iconst (v := 0) (pc := 16) dX12_takeParish_16 (by decide) ?_
  refine ro_istore_n (pc := 17) (lv' := [(1, .int 0), (0, .ref (xa X 51))]) dX12_takeParish_17 rfl (by decide) rfl ?_
  refine ro_jn (pcj := 41) (lvs := fun (s : mu_H) => [(0, .ref (xa X 51))]) (hs := fun (s : mu_H) => s) (sts := fun (s : mu_H) => []) (fun h4 => ?_) (fun k3 hk3 => ?_)
  · try dsimp only
    refine ro_iconst (v := 0) (pc := 41) dX12_takeParish_41 (by decide) ?_
    refine ro_istore_n (pc := 42) (lv' := [(1, .int 0), (0, .ref (xa X 51))]) dX12_takeParish_42 rfl (by decide) rfl ?_
    refine ro_jn (pcj := 67) (lvs := fun (s : mu_H) => [(0, .ref (xa X 51))]) (hs := fun (s : mu_H) => s) (sts := fun (s : mu_H) => []) (fun h6 => ?_) (fun k5 hk5 => ?_)
    · try dsimp only
      refine ro_iconst (v := 0) (pc := 67) dX12_takeParish_67 (by decide) ?_
      refine ro_istore_n (pc := 68) (lv' := [(1, .int 0), (0, .ref (xa X 51))]) dX12_takeParish_68 rfl (by decide) rfl ?_
      refine ro_jn (pcj := 93) (lvs := fun (s : mu_H) => [(0, .ref (xa X 51))]) (hs := fun (s : mu_H) => s) (sts := fun (s : mu_H) => []) (fun h8 => ?_) (fun k7 hk7 => ?_)
      · try dsimp only
        refine ro_iconst (v := 0) (pc := 93) dX12_takeParish_93 (by decide) ?_
        refine ro_istore_n (pc := 94) (lv' := [(1, .int 0), (0, .ref (xa X 51))]) dX12_takeParish_94 rfl (by decide) rfl ?_
        refine ro_jn (pcj := 115) (lvs := fun (s : mu_H) => [(0, .ref (xa X 51))]) (hs := fun (s : mu_H) => s) (sts := fun (s : mu_H) => []) (fun h10 => ?_) (fun k9 hk9 => ?_)
        · try dsimp only
          refine ro_iconst (v := 0) (pc := 115) dX12_takeParish_115 (by decide) ?_
          refine ro_istore_n (pc := 116) (lv' := [(1, .int 0), (0, .ref (xa X 51))]) dX12_takeParish_116 rfl (by decide) rfl ?_
          refine ro_jn (pcj := 160) (lvs := fun (s : mu_H) => [(0, .ref (xa X 51))]) (hs := fun (s : mu_H) => s) (sts := fun (s : mu_H) => []) (fun h12 => ?_) (fun k11 hk11 => ?_)
          · try dsimp only
            refine ro_iconst (v := 0) (pc := 160) dX12_takeParish_160 (by decide) ?_
            refine ro_istore_n (pc := 161) (lv' := [(1, .int 0), (0, .ref (xa X 51))]) dX12_takeParish_161 rfl (by decide) rfl ?_
            refine ro_jn (pcj := 191) (lvs := fun (s : mu_H) => [(0, .ref (xa X 51))]) (hs := fun (s : mu_H) => s) (sts := fun (s : mu_H) => []) (fun h14 => ?_) (fun k13 hk13 => ?_)
            · try dsimp only
              refine ro_aload_n (pc := 191) 0 dX12_takeParish_191 rfl rfl ?_
              refine ro_cvV (pc := 192) (kc := 2) (avs := []) (st := []) ok_Mod_laySteps wd_1612 cl_51 cv_51 rfl ⟨by decide, by decide⟩ ⟨Nat.zero_le _, Nat.zero_le _⟩ (c_Mod_laySteps X N h14) rfl rfl (Nat.le_of_ble_eq_true rfl) dX12_takeParish_192 (fun h15 => ?_)
              refine ro_aload_n (pc := 195) 0 dX12_takeParish_195 rfl rfl ?_
              refine ro_iconst (v := 0) (pc := 196) dX12_takeParish_196 (by decide) ?_
              refine pf_X12_40 (pc := 197) wd_1362 dX12_takeParish_197 ?_
              refine ro_bnh (fun h16 => ?_)
              refine ro_aload_n (pc := 200) 0 dX12_takeParish_200 rfl rfl ?_
              refine ro_iconst (v := 0) (pc := 201) dX12_takeParish_201 (by decide) ?_
              refine pf_X12_32 (pc := 202) wd_1354 dX12_takeParish_202 ?_
              refine ro_bnh (fun h17 => ?_)
              refine ro_aload_n (pc := 205) 0 dX12_takeParish_205 rfl rfl ?_
              refine ro_iconst (v := 0) (pc := 206) dX12_takeParish_206 (by decide) ?_
              refine pf_X12_45 (pc := 207) rfl rfl wd_1367 dX12_takeParish_207 ?_
              refine ro_bnh (fun h18 => ?_)
              refine ro_aload_n (pc := 210) 0 dX12_takeParish_210 rfl rfl ?_
              refine gf_X12_25 (pc := 211) wd_1347 dX12_takeParish_211 ?_
              exact ro_iret (pc := 214) rfl rfl dX12_takeParish_214
            · skip
              refine ro_lv [1, 0] rfl ?_
              refine ro_lp (pc := 162) (lvs := fun (s : Int32 × mu_H) => [(0, .ref (xa X 51)), (1, .int s.1)]) (hs := fun (s : Int32 × mu_H) => s.2) (fun rec19 hrec19 s => ?_) N (0, h12)
              obtain ⟨x20, h21⟩ := s; unfold f_Mod_takeParish_L162; try dsimp only
              refine ro_iload_n (pc := 162) 1 dX12_takeParish_162 rfl rfl ?_
              refine ro_aload_n (pc := 163) 0 dX12_takeParish_163 rfl rfl ?_
              refine gf_X12_26 (pc := 164) wd_1348 dX12_takeParish_164 ?_
              refine ro_icmp_ge (tgt := 191) (pc := 167) dX12_takeParish_167 (by decide) (fun _ => ?_) (fun _ => ?_)
              · skip
                refine ro_lv [0] rfl ?_
                exact hk13 h21
              · skip
                refine ro_aload_n (pc := 170) 0 dX12_takeParish_170 rfl rfl ?_
                refine gf_X12_27 (pc := 171) wd_1349 dX12_takeParish_171 ?_
                refine ro_bipush (v := 18) (pc := 174) dX12_takeParish_174 (by decide) ?_
                refine ro_iload_n (pc := 176) 1 dX12_takeParish_176 rfl rfl ?_
                refine ro_iadd (pc := 177) dX12_takeParish_177 ?_
                refine ro_aload_n (pc := 178) 0 dX12_takeParish_178 rfl rfl ?_
                refine gf_X12_22 (pc := 179) wd_1344 dX12_takeParish_179 ?_
                refine ro_iconst (v := 0) (pc := 182) dX12_takeParish_182 (by decide) ?_
                refine ro_iald (pc := 183) (n := 3) cl_65 cv_65 dX12_takeParish_183 ?_
                refine ro_iast (pc := 184) (n := 214) cl_68 cv_68 dX12_takeParish_184 ?_
                refine ro_bnh (fun h22 => ?_)
                refine ro_iinc (pc := 185) (v := x20 + 1) (lv' := [(1, .int (x20 + 1)), (0, .ref (xa X 51))]) 1 dX12_takeParish_185 rfl rfl (by decide) rfl ?_
                refine ro_goto (tgt := 162) (pc := 188) dX12_takeParish_188 (by decide) ?_
                refine ro_lv [1, 0] rfl ?_
                exact hrec19 (x20 + 1, h22)
          · skip
            refine ro_lv [1, 0] rfl ?_
            refine ro_lp (pc := 117) (lvs := fun (s : Int32 × mu_H) => [(0, .ref (xa X 51)), (1, .int s.1)]) (hs := fun (s : Int32 × mu_H) => s.2) (fun rec23 hrec23 s => ?_) N (0, h10)
            obtain ⟨x24, h25⟩ := s; unfold f_Mod_takeParish_L117; try dsimp only
            refine ro_iload_n (pc := 117) 1 dX12_takeParish_117 rfl rfl ?_
            refine ro_aload_n (pc := 118) 0 dX12_takeParish_118 rfl rfl ?_
            refine gf_X12_25 (pc := 119) wd_1347 dX12_takeParish_119 ?_
            refine ro_icmp_ge (tgt := 160) (pc := 122) dX12_takeParish_122 (by decide) (fun _ => ?_) (fun _ => ?_)
            · skip
              refine ro_lv [0] rfl ?_
              exact hk11 h25
            · skip
              refine ro_aload_n (pc := 125) 0 dX12_takeParish_125 rfl rfl ?_
              refine gf_X12_27 (pc := 126) wd_1349 dX12_takeParish_126 ?_
              refine ro_iconst (v := 0) (pc := 129) dX12_takeParish_129 (by decide) ?_
              refine ro_iload_n (pc := 130) 1 dX12_takeParish_130 rfl rfl ?_
              refine ro_iadd (pc := 131) dX12_takeParish_131 ?_
              refine ro_aload_n (pc := 132) 0 dX12_takeParish_132 rfl rfl ?_
              refine ro_iload_n (pc := 133) 1 dX12_takeParish_133 rfl rfl ?_
              refine ro_iconst (v := 2) (pc := 134) dX12_takeParish_134 (by decide) ?_
              refine ro_cvP (pc := 135) (kc := 1) (avs := [.int x24, .int 2]) (st := [.int (0 + x24), .ref (xa X 68)]) ok_Mod_of wd_1608 cl_51 cv_51 rfl ⟨by decide, by decide⟩ ⟨Nat.zero_le _, Nat.zero_le _⟩ (c_Mod_of X N h25 x24 2) rfl rfl (Nat.le_of_ble_eq_true rfl) dX12_takeParish_135 (fun x26 => ?_)
              refine ro_iast (pc := 138) (n := 214) cl_68 cv_68 dX12_takeParish_138 ?_
              refine ro_bnh (fun h27 => ?_)
              refine ro_aload_n (pc := 139) 0 dX12_takeParish_139 rfl rfl ?_
              refine gf_X12_27 (pc := 140) wd_1349 dX12_takeParish_140 ?_
              refine ro_bipush (v := 9) (pc := 143) dX12_takeParish_143 (by decide) ?_
              refine ro_iload_n (pc := 145) 1 dX12_takeParish_145 rfl rfl ?_
              refine ro_iadd (pc := 146) dX12_takeParish_146 ?_
              refine ro_aload_n (pc := 147) 0 dX12_takeParish_147 rfl rfl ?_
              refine ro_iload_n (pc := 148) 1 dX12_takeParish_148 rfl rfl ?_
              refine ro_iconst (v := 3) (pc := 149) dX12_takeParish_149 (by decide) ?_
              refine ro_cvP (pc := 150) (kc := 1) (avs := [.int x24, .int 3]) (st := [.int (9 + x24), .ref (xa X 68)]) ok_Mod_of wd_1608 cl_51 cv_51 rfl ⟨by decide, by decide⟩ ⟨Nat.zero_le _, Nat.zero_le _⟩ (c_Mod_of X N h27 x24 3) rfl rfl (Nat.le_of_ble_eq_true rfl) dX12_takeParish_150 (fun x28 => ?_)
              refine ro_iast (pc := 153) (n := 214) cl_68 cv_68 dX12_takeParish_153 ?_
              refine ro_bnh (fun h29 => ?_)
              refine ro_iinc (pc := 154) (v := x24 + 1) (lv' := [(1, .int (x24 + 1)), (0, .ref (xa X 51))]) 1 dX12_takeParish_154 rfl rfl (by decide) rfl ?_
              refine ro_goto (tgt := 117) (pc := 157) dX12_takeParish_157 (by decide) ?_
              refine ro_lv [1, 0] rfl ?_
              exact hrec23 (x24 + 1, h29)
        · skip
          refine ro_lv [1, 0] rfl ?_
          refine ro_lp (pc := 95) (lvs := fun (s : Int32 × mu_H) => [(0, .ref (xa X 51)), (1, .int s.1)]) (hs := fun (s : Int32 × mu_H) => s.2) (fun rec30 hrec30 s => ?_) N (0, h8)
          obtain ⟨x31, h32⟩ := s; unfold f_Mod_takeParish_L95; try dsimp only
          refine ro_iload_n (pc := 95) 1 dX12_takeParish_95 rfl rfl ?_
          refine ro_sipush (v := 214) (pc := 96) dX12_takeParish_96 (by decide) ?_
          refine ro_icmp_ge (tgt := 115) (pc := 99) dX12_takeParish_99 (by decide) (fun _ => ?_) (fun _ => ?_)
          · skip
            refine ro_lv [0] rfl ?_
            exact hk9 h32
          · skip
            refine ro_aload_n (pc := 102) 0 dX12_takeParish_102 rfl rfl ?_
            refine gf_X12_27 (pc := 103) wd_1349 dX12_takeParish_103 ?_
            refine ro_iload_n (pc := 106) 1 dX12_takeParish_106 rfl rfl ?_
            refine ro_iconst (v := 0) (pc := 107) dX12_takeParish_107 (by decide) ?_
            refine ro_iast (pc := 108) (n := 214) cl_68 cv_68 dX12_takeParish_108 ?_
            refine ro_bnh (fun h33 => ?_)
            refine ro_iinc (pc := 109) (v := x31 + 1) (lv' := [(1, .int (x31 + 1)), (0, .ref (xa X 51))]) 1 dX12_takeParish_109 rfl rfl (by decide) rfl ?_
            refine ro_goto (tgt := 95) (pc := 112) dX12_takeParish_112 (by decide) ?_
            refine ro_lv [1, 0] rfl ?_
            exact hrec30 (x31 + 1, h33)
      · skip
        refine ro_lv [1, 0] rfl ?_
        refine ro_lp (pc := 69) (lvs := fun (s : Int32 × mu_H) => [(0, .ref (xa X 51)), (1, .int s.1)]) (hs := fun (s : Int32 × mu_H) => s.2) (fun rec34 hrec34 s => ?_) N (0, h6)
        obtain ⟨x35, h36⟩ := s; unfold f_Mod_takeParish_L69; try dsimp only
        refine ro_iload_n (pc := 69) 1 dX12_takeParish_69 rfl rfl ?_
        refine ro_bipush (v := 18) (pc := 70) dX12_takeParish_70 (by decide) ?_
        refine ro_icmp_ge (tgt := 93) (pc := 72) dX12_takeParish_72 (by decide) (fun _ => ?_) (fun _ => ?_)
        · skip
          refine ro_lv [0] rfl ?_
          exact hk7 h36
        · skip
          refine ro_aload_n (pc := 75) 0 dX12_takeParish_75 rfl rfl ?_
          refine gf_X12_24 (pc := 76) wd_1346 dX12_takeParish_76 ?_
          refine ro_iload_n (pc := 79) 1 dX12_takeParish_79 rfl rfl ?_
          refine ro_aload_n (pc := 80) 0 dX12_takeParish_80 rfl rfl ?_
          refine gf_X12_19 (pc := 81) wd_1341 dX12_takeParish_81 ?_
          refine ro_iload_n (pc := 84) 1 dX12_takeParish_84 rfl rfl ?_
          refine ro_iald (pc := 85) (n := 18) cl_64 cv_64 dX12_takeParish_85 ?_
          refine ro_iast (pc := 86) (n := 18) cl_67 cv_67 dX12_takeParish_86 ?_
          refine ro_bnh (fun h37 => ?_)
          refine ro_iinc (pc := 87) (v := x35 + 1) (lv' := [(1, .int (x35 + 1)), (0, .ref (xa X 51))]) 1 dX12_takeParish_87 rfl rfl (by decide) rfl ?_
          refine ro_goto (tgt := 69) (pc := 90) dX12_takeParish_90 (by decide) ?_
          refine ro_lv [1, 0] rfl ?_
          exact hrec34 (x35 + 1, h37)
    · skip
      refine ro_lv [1, 0] rfl ?_
      refine ro_lp (pc := 43) (lvs := fun (s : Int32 × mu_H) => [(0, .ref (xa X 51)), (1, .int s.1)]) (hs := fun (s : Int32 × mu_H) => s.2) (fun rec38 hrec38 s => ?_) N (0, h4)
      obtain ⟨x39, h40⟩ := s; unfold f_Mod_takeParish_L43; try dsimp only
      refine ro_iload_n (pc := 43) 1 dX12_takeParish_43 rfl rfl ?_
      refine ro_bipush (v := 45) (pc := 44) dX12_takeParish_44 (by decide) ?_
      refine ro_icmp_ge (tgt := 67) (pc := 46) dX12_takeParish_46 (by decide) (fun _ => ?_) (fun _ => ?_)
      · skip
        refine ro_lv [0] rfl ?_
        exact hk5 h40
      · skip
        refine ro_aload_n (pc := 49) 0 dX12_takeParish_49 rfl rfl ?_
        refine gf_X12_23 (pc := 50) wd_1345 dX12_takeParish_50 ?_
        refine ro_iload_n (pc := 53) 1 dX12_takeParish_53 rfl rfl ?_
        refine ro_aload_n (pc := 54) 0 dX12_takeParish_54 rfl rfl ?_
        refine gf_X12_18 (pc := 55) wd_1340 dX12_takeParish_55 ?_
        refine ro_iload_n (pc := 58) 1 dX12_takeParish_58 rfl rfl ?_
        refine ro_iald (pc := 59) (n := 45) cl_63 cv_63 dX12_takeParish_59 ?_
        refine ro_iast (pc := 60) (n := 45) cl_66 cv_66 dX12_takeParish_60 ?_
        refine ro_bnh (fun h41 => ?_)
        refine ro_iinc (pc := 61) (v := x39 + 1) (lv' := [(1, .int (x39 + 1)), (0, .ref (xa X 51))]) 1 dX12_takeParish_61 rfl rfl (by decide) rfl ?_
        refine ro_goto (tgt := 43) (pc := 64) dX12_takeParish_64 (by decide) ?_
        refine ro_lv [1, 0] rfl ?_
        exact hrec38 (x39 + 1, h41)
  · skip
    refine ro_lv [1, 0] rfl ?_
    refine ro_lp (pc := 18) (lvs := fun (s : Int32 × mu_H) => [(0, .ref (xa X 51)), (1, .int s.1)]) (hs := fun (s : Int32 × mu_H) => s.2) (fun rec42 hrec42 s => ?_) N (0, h2)
    obtain ⟨x43, h44⟩ := s; unfold f_Mod_takeParish_L18; try dsimp only
    refine ro_iload_n (pc := 18) 1 dX12_takeParish_18 rfl rfl ?_
    refine ro_iconst (v := 3) (pc := 19) dX12_takeParish_19 (by decide) ?_
    refine ro_icmp_ge (tgt := 41) (pc := 20) dX12_takeParish_20 (by decide) (fun _ => ?_) (fun _ => ?_)
    · skip
      refine ro_lv [0] rfl ?_
      exact hk3 h44
    · skip
      refine ro_aload_n (pc := 23) 0 dX12_takeParish_23 rfl rfl ?_
      refine gf_X12_22 (pc := 24) wd_1344 dX12_takeParish_24 ?_
      refine ro_iload_n (pc := 27) 1 dX12_takeParish_27 rfl rfl ?_
      refine ro_aload_n (pc := 28) 0 dX12_takeParish_28 rfl rfl ?_
      refine gf_X12_17 (pc := 29) wd_1339 dX12_takeParish_29 ?_
      refine ro_iload_n (pc := 32) 1 dX12_takeParish_32 rfl rfl ?_
      refine ro_iald (pc := 33) (n := 3) cl_62 cv_62 dX12_takeParish_33 ?_
      refine ro_iast (pc := 34) (n := 3) cl_65 cv_65 dX12_takeParish_34 ?_
      refine ro_bnh (fun h45 => ?_)
      refine ro_iinc (pc := 35) (v := x43 + 1) (lv' := [(1, .int (x43 + 1)), (0, .ref (xa X 51))]) 1 dX12_takeParish_35 rfl rfl (by decide) rfl ?_
      refine ro_goto (tgt := 18) (pc := 38) dX12_takeParish_38 (by decide) ?_
      refine ro_lv [1, 0] rfl ?_
      exact hrec42 (x43 + 1, h45)
theorem c_Mod_takeParish (X : mu_X) (N : Nat) (h : mu_H) : ∀ r, f_Mod_takeParish N h = some r → mI X m_Mod_takeParish 3 [.ref (xa X 51)] h r.1 r.2 := fun r hr => mI_of (by decide) rfl (Nat.le_of_ble_eq_true rfl) rfl (cb_Mod_takeParish X N h r hr)
set_option maxRecDepth 20000 in
theorem cb_Mod_text (X : mu_X) (N : Nat) (h : mu_H) (a1 : Int32) : aG X m_Mod_text (rmk 80) (fun _ => ax X) (fun _ _ _ => True) 0 0 (fun r : Int32 × mu_H => qI X r.1 r.2) (f_Mod_text N h a1) 0 [(0, .ref (xa X 51)), (1, .int a1)] [] h := by
  unfold f_Mod_text
  refine ro_iload_n (pc := 0) 1 dX12_text_0 rfl rfl ?_
  refine ro_jn (pcj := 22) (lvs := fun (s : mu_H) => [(0, .ref (xa X 51)), (1, .int a1)]) (hs := fun (s : mu_H) => s) (sts := fun (s : mu_H) => []) (fun h2 => ?_) (fun j1 hj1 => ?_)
  · try dsimp only
    refine ro_iload_n (pc := 22) 1 dX12_text_22 rfl rfl ?_
    refine ro_iconst (v := 1) (pc := 23) dX12_text_23 (by decide) ?_
    refine ro_icmp_ne (tgt := 69) (pc := 24) dX12_text_24 (by decide) (fun _ => ?_) (fun _ => ?_)
    · skip
      refine ro_iconst (v := (-1)) (pc := 69) dX12_text_69 (by decide) ?_
      exact ro_iret (pc := 70) rfl rfl dX12_text_70
    · skip
      refine ro_aload_n (pc := 27) 0 dX12_text_27 rfl rfl ?_
      refine gf_X12_13 (pc := 28) wd_1335 dX12_text_28 ?_
      refine ro_iconst (v := 4) (pc := 31) dX12_text_31 (by decide) ?_
      refine ro_icmp_ge (tgt := 69) (pc := 32) dX12_text_32 (by decide) (fun _ => ?_) (fun _ => ?_)
      · skip
        refine ro_iconst (v := (-1)) (pc := 69) dX12_text_69 (by decide) ?_
        exact ro_iret (pc := 70) rfl rfl dX12_text_70
      · skip
        refine ro_aload_n (pc := 35) 0 dX12_text_35 rfl rfl ?_
        refine ro_aload_n (pc := 36) 0 dX12_text_36 rfl rfl ?_
        refine gf_X12_13 (pc := 37) wd_1335 dX12_text_37 ?_
        refine ro_cvI (pc := 40) (kc := 79) (avs := [.int (h2.1 51 13)]) (st := []) ok_Mod_readLaw wd_1530 cl_51 cv_51 rfl ⟨by decide, by decide⟩ ⟨Nat.zero_le _, Nat.zero_le _⟩ (c_Mod_readLaw X N h2 (h2.1 51 13)) rfl rfl (Nat.le_of_ble_eq_true rfl) dX12_text_40 (fun x3 h4 => ?_)
        refine ro_iconst (v := (-1)) (pc := 43) dX12_text_43 (by decide) ?_
        refine ro_icmp_ne (tgt := 69) (pc := 44) dX12_text_44 (by decide) (fun _ => ?_) (fun _ => ?_)
        · skip
          refine ro_iconst (v := (-1)) (pc := 69) dX12_text_69 (by decide) ?_
          exact ro_iret (pc := 70) rfl rfl dX12_text_70
        · skip
          refine ro_aload_n (pc := 47) 0 dX12_text_47 rfl rfl ?_
          refine ro_iconst (v := 0) (pc := 48) dX12_text_48 (by decide) ?_
          refine pf_X12_2 (pc := 49) wd_1324 dX12_text_49 ?_
          refine ro_bnh (fun h6 => ?_)
          refine ro_aload_n (pc := 52) 0 dX12_text_52 rfl rfl ?_
          refine ro_dup (pc := 53) dX12_text_53 rfl ?_
          refine gf_X12_13 (pc := 54) wd_1335 dX12_text_54 ?_
          refine ro_iconst (v := 1) (pc := 57) dX12_text_57 (by decide) ?_
          refine ro_iadd (pc := 58) dX12_text_58 ?_
          refine pf_X12_13 (pc := 59) wd_1335 dX12_text_59 ?_
          refine ro_bnh (fun h7 => ?_)
          refine ro_aload_n (pc := 62) 0 dX12_text_62 rfl rfl ?_
          refine gf_X12_13 (pc := 63) wd_1335 dX12_text_63 ?_
          refine ro_iconst (v := 1) (pc := 66) dX12_text_66 (by decide) ?_
          refine ro_isub (pc := 67) dX12_text_67 ?_
          exact ro_iret (pc := 68) rfl rfl dX12_text_68
  · skip
    refine ro_if_ne (tgt := 22) (pc := 1) dX12_text_1 (by decide) (fun _ => ?_) (fun _ => ?_)
    · skip
      exact hj1 h
    · skip
      refine ro_aload_n (pc := 4) 0 dX12_text_4 rfl rfl ?_
      refine ro_cvI (pc := 5) (kc := 5) (avs := []) (st := []) ok_Mod_readParish wd_1481 cl_51 cv_51 rfl ⟨by decide, by decide⟩ ⟨Nat.zero_le _, Nat.zero_le _⟩ (c_Mod_readParish X N h) rfl rfl (Nat.le_of_ble_eq_true rfl) dX12_text_5 (fun x8 h9 => ?_)
      refine ro_iconst (v := (-1)) (pc := 8) dX12_text_8 (by decide) ?_
      refine ro_icmp_ne (tgt := 22) (pc := 9) dX12_text_9 (by decide) (fun _ => ?_) (fun _ => ?_)
      · skip
        exact hj1 h9
      · skip
        refine ro_aload_n (pc := 12) 0 dX12_text_12 rfl rfl ?_
        refine ro_iconst (v := 0) (pc := 13) dX12_text_13 (by decide) ?_
        refine pf_X12_2 (pc := 14) wd_1324 dX12_text_14 ?_
        refine ro_bnh (fun h11 => ?_)
        refine ro_aload_n (pc := 17) 0 dX12_text_17 rfl rfl ?_
        refine ro_cvI (pc := 18) (kc := 3) (avs := []) (st := []) ok_Mod_takeParish wd_1604 cl_51 cv_51 rfl ⟨by decide, by decide⟩ ⟨Nat.zero_le _, Nat.zero_le _⟩ (c_Mod_takeParish X N h11) rfl rfl (Nat.le_of_ble_eq_true rfl) dX12_text_18 (fun x12 h13 => ?_)
        exact ro_iret (pc := 21) rfl rfl dX12_text_21
theorem c_Mod_text (X : mu_X) (N : Nat) (h : mu_H) (a1 : Int32) : ∀ r, f_Mod_text N h a1 = some r → mI X m_Mod_text 80 [.ref (xa X 51), .int a1] h r.1 r.2 := fun r hr => mI_of (by decide) rfl (Nat.le_of_ble_eq_true rfl) rfl (cb_Mod_text X N h a1 r hr)
set_option maxRecDepth 20000 in
theorem cb_Mod_thrown (X : mu_X) (N : Nat) (h : mu_H) : aG X m_Mod_thrown (rmk 1) (fun _ => ax X) (fun _ _ _ => True) 0 0 (fun r : Int32 => qI X r h) (f_Mod_thrown N h) 0 [(0, .ref (xa X 51))] [] h := by
  unfold f_Mod_thrown
  refine ro_aload_n (pc := 0) 0 dX12_thrown_0 rfl rfl ?_
  refine gf_X12_0 (pc := 1) wd_1322 dX12_thrown_1 ?_
  exact ro_iret (pc := 4) rfl rfl dX12_thrown_4
theorem c_Mod_thrown (X : mu_X) (N : Nat) (h : mu_H) : ∀ r, f_Mod_thrown N h = some r → mI X m_Mod_thrown 1 [.ref (xa X 51)] h r h := fun r hr => mI_of (by decide) rfl (Nat.le_of_ble_eq_true rfl) rfl (cb_Mod_thrown X N h r hr)
set_option maxRecDepth 20000 in
theorem cb_Mod_toll (X : mu_X) (N : Nat) (h : mu_H) (a1 : Int32) (a2 : Int32) : aG X m_Mod_toll (rmk 16) (fun _ => ax X) (fun _ _ _ => True) 0 0 (fun r : Int32 × mu_H => qI X r.1 r.2) (f_Mod_toll N h a1 a2) 0 [(0, .ref (xa X 51)), (1, .int a1), (2, .int a2)] [] h := by
  unfold f_Mod_toll
  refine ro_aload_n (pc := 0) 0 dX12_toll_0 rfl rfl ?_
  refine gf_X12_25 (pc := 1) wd_1347 dX12_toll_1 ?_
  refine ro_if_eq (tgt := 26) (pc := 4) dX12_toll_4 (by decide) (fun _ => ?_) (fun _ => ?_)
  · skip
    refine ro_iconst (v := (-1)) (pc := 26) dX12_toll_26 (by decide) ?_
    exact ro_iret (pc := 27) rfl rfl dX12_toll_27
  · skip
    refine ro_iload_n (pc := 7) 1 dX12_toll_7 rfl rfl ?_
    refine ro_iconst (v := 1) (pc := 8) dX12_toll_8 (by decide) ?_
    refine ro_bipush (v := 9) (pc := 9) dX12_toll_9 (by decide) ?_
    refine ro_csP (pc := 11) (kc := 1) (avs := [.int a1, .int 1, .int 9]) (st := []) ok_Mod_in wd_1523 ⟨by decide, by decide⟩ ⟨Nat.zero_le _, Nat.zero_le _⟩ (c_Mod_in X N h a1 1 9) rfl rfl (Nat.le_of_ble_eq_true rfl) dX12_toll_11 (fun x1 => ?_)
    refine ro_if_eq (tgt := 26) (pc := 14) dX12_toll_14 (by decide) (fun _ => ?_) (fun _ => ?_)
    · skip
      refine ro_iconst (v := (-1)) (pc := 26) dX12_toll_26 (by decide) ?_
      exact ro_iret (pc := 27) rfl rfl dX12_toll_27
    · skip
      refine ro_iload_n (pc := 17) 2 dX12_toll_17 rfl rfl ?_
      refine ro_iconst (v := 0) (pc := 18) dX12_toll_18 (by decide) ?_
      refine ro_iconst (v := 1) (pc := 19) dX12_toll_19 (by decide) ?_
      refine ro_csP (pc := 20) (kc := 1) (avs := [.int a2, .int 0, .int 1]) (st := []) ok_Mod_in wd_1523 ⟨by decide, by decide⟩ ⟨Nat.zero_le _, Nat.zero_le _⟩ (c_Mod_in X N h a2 0 1) rfl rfl (Nat.le_of_ble_eq_true rfl) dX12_toll_20 (fun x2 => ?_)
      refine ro_if_ne (tgt := 28) (pc := 23) dX12_toll_23 (by decide) (fun _ => ?_) (fun _ => ?_)
      · skip
        refine ro_iconst (v := 0) (pc := 28) dX12_toll_28 (by decide) ?_
        refine ro_istore_n (pc := 29) (lv' := [(3, .int 0), (0, .ref (xa X 51)), (1, .int a1), (2, .int a2)]) dX12_toll_29 rfl (by decide) rfl ?_
        refine ro_iconst (v := 1) (pc := 30) dX12_toll_30 (by decide) ?_
        refine ro_istore (pc := 31) (lv' := [(4, .int 1), (3, .int 0), (0, .ref (xa X 51)), (1, .int a1), (2, .int a2)]) dX12_toll_31 (by decide) rfl ?_
        refine ro_jn (pcj := 77) (lvs := fun (s : Int32 × mu_H) => [(0, .ref (xa X 51)), (1, .int a1), (2, .int a2), (3, .int s.1)]) (hs := fun (s : Int32 × mu_H) => s.2) (sts := fun (s : Int32 × mu_H) => []) (fun s => ?_) (fun k3 hk3 => ?_)
        · obtain ⟨x4, h5⟩ := s; try dsimp only
          refine ro_iload_n (pc := 77) 2 dX12_toll_77 rfl rfl ?_
          refine ro_if_ne (tgt := 85) (pc := 78) dX12_toll_78 (by decide) (fun _ => ?_) (fun _ => ?_)
          · skip
            refine ro_iload_n (pc := 85) 1 dX12_toll_85 rfl rfl ?_
            refine ro_aload_n (pc := 86) 0 dX12_toll_86 rfl rfl ?_
            refine ro_cvI (pc := 87) (kc := 15) (avs := []) (st := [.int a1]) ok_Mod_useOfAll wd_1835 cl_51 cv_51 rfl ⟨by decide, by decide⟩ ⟨Nat.zero_le _, Nat.zero_le _⟩ (c_Mod_useOfAll X N h5) rfl rfl (Nat.le_of_ble_eq_true rfl) dX12_toll_87 (fun x6 h7 => ?_)
            refine ro_imul (pc := 90) dX12_toll_90 ?_
            exact ro_iret (pc := 91) rfl rfl dX12_toll_91
          · skip
            refine ro_iload_n (pc := 81) 3 dX12_toll_81 rfl rfl ?_
            refine ro_goto (tgt := 91) (pc := 82) dX12_toll_82 (by decide) ?_
            exact ro_iret (pc := 91) rfl rfl dX12_toll_91
        · skip
          refine ro_lv [2, 3, 4, 1, 0] rfl ?_
          refine ro_lp (pc := 33) (lvs := fun (s : Int32 × Int32 × mu_H) => [(0, .ref (xa X 51)), (1, .int a1), (2, .int a2), (3, .int s.1), (4, .int s.2.1)]) (hs := fun (s : Int32 × Int32 × mu_H) => s.2.2) (fun rec9 hrec9 s => ?_) N (0, 1, h)
          obtain ⟨x10, x11, h12⟩ := s; unfold f_Mod_toll_L33; try dsimp only
          refine ro_iload (pc := 33) 4 dX12_toll_33 rfl ?_
          refine ro_aload_n (pc := 35) 0 dX12_toll_35 rfl rfl ?_
          refine gf_X12_26 (pc := 36) wd_1348 dX12_toll_36 ?_
          refine ro_icmp_ge (tgt := 77) (pc := 39) dX12_toll_39 (by decide) (fun _ => ?_) (fun _ => ?_)
          · skip
            refine ro_lv [0, 1, 2, 3] rfl ?_
            exact hk3 (x10, h12)
          · skip
            refine ro_aload_n (pc := 42) 0 dX12_toll_42 rfl rfl ?_
            refine ro_aload_n (pc := 43) 0 dX12_toll_43 rfl rfl ?_
            refine ro_iload (pc := 44) 4 dX12_toll_44 rfl ?_
            refine ro_cvI (pc := 46) (kc := 14) (avs := [.int x11]) (st := [.ref (xa X 51)]) ok_Mod_roadOf wd_1827 cl_51 cv_51 rfl ⟨by decide, by decide⟩ ⟨Nat.zero_le _, Nat.zero_le _⟩ (c_Mod_roadOf X N h12 x11) rfl rfl (Nat.le_of_ble_eq_true rfl) dX12_toll_46 (fun x13 h14 => ?_)
            refine ro_cvP (pc := 49) (kc := 2) (avs := [.int x13]) (st := []) ok_Mod_useOf wd_1839 cl_51 cv_51 rfl ⟨by decide, by decide⟩ ⟨Nat.zero_le _, Nat.zero_le _⟩ (c_Mod_useOf X N h14 x13) rfl rfl (Nat.le_of_ble_eq_true rfl) dX12_toll_49 (fun x16 => ?_)
            refine ro_aload_n (pc := 52) 0 dX12_toll_52 rfl rfl ?_
            refine ro_aload_n (pc := 53) 0 dX12_toll_53 rfl rfl ?_
            refine ro_iload_n (pc := 54) 3 dX12_toll_54 rfl rfl ?_
            refine ro_cvI (pc := 55) (kc := 14) (avs := [.int x10]) (st := [.ref (xa X 51), .int x16]) ok_Mod_roadOf wd_1827 cl_51 cv_51 rfl ⟨by decide, by decide⟩ ⟨Nat.zero_le _, Nat.zero_le _⟩ (c_Mod_roadOf X N h14 x10) rfl rfl (Nat.le_of_ble_eq_true rfl) dX12_toll_55 (fun x17 h18 => ?_)
            refine ro_cvP (pc := 58) (kc := 2) (avs := [.int x17]) (st := [.int x16]) ok_Mod_useOf wd_1839 cl_51 cv_51 rfl ⟨by decide, by decide⟩ ⟨Nat.zero_le _, Nat.zero_le _⟩ (c_Mod_useOf X N h18 x17) rfl rfl (Nat.le_of_ble_eq_true rfl) dX12_toll_58 (fun x20 => ?_)
            refine ro_jn (pcj := 70) (lvs := fun (s : Int32) => [(0, .ref (xa X 51)), (1, .int a1), (2, .int a2), (4, .int x11)]) (hs := fun (s : Int32) => h18) (sts := fun (s : Int32) => [.int s]) (fun x22 => ?_) (fun j21 hj21 => ?_)
            · try dsimp only
              refine ro_istore_n (pc := 70) (lv' := [(3, .int x22), (0, .ref (xa X 51)), (1, .int a1), (2, .int a2), (4, .int x11)]) dX12_toll_70 rfl (by decide) rfl ?_
              refine ro_iinc (pc := 71) (v := x11 + 1) (lv' := [(4, .int (x11 + 1)), (3, .int x22), (0, .ref (xa X 51)), (1, .int a1), (2, .int a2)]) 4 dX12_toll_71 rfl rfl (by decide) rfl ?_
              refine ro_goto (tgt := 33) (pc := 74) dX12_toll_74 (by decide) ?_
              refine ro_lv [2, 3, 4, 1, 0] rfl ?_
              exact hrec9 (x22, x11 + 1, h18)
            · skip
              refine ro_icmp_le (tgt := 69) (pc := 61) dX12_toll_61 (by decide) (fun _ => ?_) (fun _ => ?_)
              · skip
                refine ro_iload_n (pc := 69) 3 dX12_toll_69 rfl rfl ?_
                refine ro_lv [0, 1, 2, 4] rfl ?_
                exact hj21 x10
              · skip
                refine ro_iload (pc := 64) 4 dX12_toll_64 rfl ?_
                refine ro_goto (tgt := 70) (pc := 66) dX12_toll_66 (by decide) ?_
                refine ro_lv [0, 1, 2, 4] rfl ?_
                exact hj21 x11
      · skip
        refine ro_iconst (v := (-1)) (pc := 26) dX12_toll_26 (by decide) ?_
        exact ro_iret (pc := 27) rfl rfl dX12_toll_27
theorem c_Mod_toll (X : mu_X) (N : Nat) (h : mu_H) (a1 : Int32) (a2 : Int32) : ∀ r, f_Mod_toll N h a1 a2 = some r → mI X m_Mod_toll 16 [.ref (xa X 51), .int a1, .int a2] h r.1 r.2 := fun r hr => mI_of (by decide) rfl (Nat.le_of_ble_eq_true rfl) rfl (cb_Mod_toll X N h a1 a2 r hr)
set_option maxRecDepth 20000 in
theorem cb_Mod_undo (X : mu_X) (N : Nat) (h : mu_H) : aG X m_Mod_undo (rmk 1) (fun _ => ax X) (fun _ _ _ => True) 0 0 (fun r : Int32 × mu_H => qI X r.1 r.2) (f_Mod_undo N h) 0 [(0, .ref (xa X 51))] [] h := by
  unfold f_Mod_undo
  refine ro_aload_n (pc := 0) 0 dX12_undo_0 rfl rfl ?_
  refine gf_X12_32 (pc := 1) wd_1354 dX12_undo_1 ?_
  refine ro_if_ne (tgt := 9) (pc := 4) dX12_undo_4 (by decide) (fun _ => ?_) (fun _ => ?_)
  · skip
    refine ro_aload_n (pc := 9) 0 dX12_undo_9 rfl rfl ?_
    refine ro_dup (pc := 10) dX12_undo_10 rfl ?_
    refine gf_X12_32 (pc := 11) wd_1354 dX12_undo_11 ?_
    refine ro_iconst (v := 1) (pc := 14) dX12_undo_14 (by decide) ?_
    refine ro_isub (pc := 15) dX12_undo_15 ?_
    refine pf_X12_32 (pc := 16) wd_1354 dX12_undo_16 ?_
    refine ro_bnh (fun h1 => ?_)
    refine ro_iconst (v := 0) (pc := 19) dX12_undo_19 (by decide) ?_
    refine ro_istore_n (pc := 20) (lv' := [(1, .int 0), (0, .ref (xa X 51))]) dX12_undo_20 rfl (by decide) rfl ?_
    refine ro_jn (pcj := 55) (lvs := fun (s : mu_H) => [(0, .ref (xa X 51))]) (hs := fun (s : mu_H) => s) (sts := fun (s : mu_H) => []) (fun h3 => ?_) (fun k2 hk2 => ?_)
    · try dsimp only
      refine ro_aload_n (pc := 55) 0 dX12_undo_55 rfl rfl ?_
      refine gf_X12_32 (pc := 56) wd_1354 dX12_undo_56 ?_
      exact ro_iret (pc := 59) rfl rfl dX12_undo_59
    · skip
      refine ro_lv [1, 0] rfl ?_
      refine ro_lp (pc := 21) (lvs := fun (s : Int32 × mu_H) => [(0, .ref (xa X 51)), (1, .int s.1)]) (hs := fun (s : Int32 × mu_H) => s.2) (fun rec4 hrec4 s => ?_) N (0, h1)
      obtain ⟨x5, h6⟩ := s; unfold f_Mod_undo_L21; try dsimp only
      refine ro_iload_n (pc := 21) 1 dX12_undo_21 rfl rfl ?_
      refine ro_sipush (v := 214) (pc := 22) dX12_undo_22 (by decide) ?_
      refine ro_icmp_ge (tgt := 55) (pc := 25) dX12_undo_25 (by decide) (fun _ => ?_) (fun _ => ?_)
      · skip
        refine ro_lv [0] rfl ?_
        exact hk2 h6
      · skip
        refine ro_aload_n (pc := 28) 0 dX12_undo_28 rfl rfl ?_
        refine gf_X12_27 (pc := 29) wd_1349 dX12_undo_29 ?_
        refine ro_iload_n (pc := 32) 1 dX12_undo_32 rfl rfl ?_
        refine ro_aload_n (pc := 33) 0 dX12_undo_33 rfl rfl ?_
        refine gf_X12_31 (pc := 34) wd_1353 dX12_undo_34 ?_
        refine ro_sipush (v := 214) (pc := 37) dX12_undo_37 (by decide) ?_
        refine ro_aload_n (pc := 40) 0 dX12_undo_40 rfl rfl ?_
        refine gf_X12_32 (pc := 41) wd_1354 dX12_undo_41 ?_
        refine ro_imul (pc := 44) dX12_undo_44 ?_
        refine ro_iload_n (pc := 45) 1 dX12_undo_45 rfl rfl ?_
        refine ro_iadd (pc := 46) dX12_undo_46 ?_
        refine ro_iald (pc := 47) (n := 8560) cl_71 cv_71 dX12_undo_47 ?_
        refine ro_iast (pc := 48) (n := 214) cl_68 cv_68 dX12_undo_48 ?_
        refine ro_bnh (fun h7 => ?_)
        refine ro_iinc (pc := 49) (v := x5 + 1) (lv' := [(1, .int (x5 + 1)), (0, .ref (xa X 51))]) 1 dX12_undo_49 rfl rfl (by decide) rfl ?_
        refine ro_goto (tgt := 21) (pc := 52) dX12_undo_52 (by decide) ?_
        refine ro_lv [1, 0] rfl ?_
        exact hrec4 (x5 + 1, h7)
  · skip
    refine ro_iconst (v := (-1)) (pc := 7) dX12_undo_7 (by decide) ?_
    exact ro_iret (pc := 8) rfl rfl dX12_undo_8
theorem c_Mod_undo (X : mu_X) (N : Nat) (h : mu_H) : ∀ r, f_Mod_undo N h = some r → mI X m_Mod_undo 1 [.ref (xa X 51)] h r.1 r.2 := fun r hr => mI_of (by decide) rfl (Nat.le_of_ble_eq_true rfl) rfl (cb_Mod_undo X N h r hr)
set_option maxRecDepth 20000 in
theorem cb_Mod_way (X : mu_X) (N : Nat) (h : mu_H) (a1 : Int32) (a2 : Int32) (a3 : Int32) : aG X m_Mod_way (rmk 14) (fun _ => ax X) (fun _ _ _ => True) 0 0 (fun r : Int32 × mu_H => qI X r.1 r.2) (f_Mod_way N h a1 a2 a3) 0 [(0, .ref (xa X 51)), (1, .int a1), (2, .int a2), (3, .int a3)] [] h := by
  unfold f_Mod_way
  refine ro_aload_n (pc := 0) 0 dX12_way_0 rfl rfl ?_
  refine gf_X12_25 (pc := 1) wd_1347 dX12_way_1 ?_
  refine ro_if_eq (tgt := 36) (pc := 4) dX12_way_4 (by decide) (fun _ => ?_) (fun _ => ?_)
  · skip
    refine ro_iconst (v := (-1)) (pc := 36) dX12_way_36 (by decide) ?_
    exact ro_iret (pc := 37) rfl rfl dX12_way_37
  · skip
    refine ro_iload_n (pc := 7) 1 dX12_way_7 rfl rfl ?_
    refine ro_iconst (v := 0) (pc := 8) dX12_way_8 (by decide) ?_
    refine ro_bipush (v := 7) (pc := 9) dX12_way_9 (by decide) ?_
    refine ro_csP (pc := 11) (kc := 1) (avs := [.int a1, .int 0, .int 7]) (st := []) ok_Mod_in wd_1523 ⟨by decide, by decide⟩ ⟨Nat.zero_le _, Nat.zero_le _⟩ (c_Mod_in X N h a1 0 7) rfl rfl (Nat.le_of_ble_eq_true rfl) dX12_way_11 (fun x1 => ?_)
    refine ro_if_eq (tgt := 36) (pc := 14) dX12_way_14 (by decide) (fun _ => ?_) (fun _ => ?_)
    · skip
      refine ro_iconst (v := (-1)) (pc := 36) dX12_way_36 (by decide) ?_
      exact ro_iret (pc := 37) rfl rfl dX12_way_37
    · skip
      refine ro_iload_n (pc := 17) 2 dX12_way_17 rfl rfl ?_
      refine ro_iconst (v := 0) (pc := 18) dX12_way_18 (by decide) ?_
      refine ro_bipush (v := 7) (pc := 19) dX12_way_19 (by decide) ?_
      refine ro_csP (pc := 21) (kc := 1) (avs := [.int a2, .int 0, .int 7]) (st := []) ok_Mod_in wd_1523 ⟨by decide, by decide⟩ ⟨Nat.zero_le _, Nat.zero_le _⟩ (c_Mod_in X N h a2 0 7) rfl rfl (Nat.le_of_ble_eq_true rfl) dX12_way_21 (fun x2 => ?_)
      refine ro_if_eq (tgt := 36) (pc := 24) dX12_way_24 (by decide) (fun _ => ?_) (fun _ => ?_)
      · skip
        refine ro_iconst (v := (-1)) (pc := 36) dX12_way_36 (by decide) ?_
        exact ro_iret (pc := 37) rfl rfl dX12_way_37
      · skip
        refine ro_iload_n (pc := 27) 3 dX12_way_27 rfl rfl ?_
        refine ro_iconst (v := 0) (pc := 28) dX12_way_28 (by decide) ?_
        refine ro_iconst (v := 1) (pc := 29) dX12_way_29 (by decide) ?_
        refine ro_csP (pc := 30) (kc := 1) (avs := [.int a3, .int 0, .int 1]) (st := []) ok_Mod_in wd_1523 ⟨by decide, by decide⟩ ⟨Nat.zero_le _, Nat.zero_le _⟩ (c_Mod_in X N h a3 0 1) rfl rfl (Nat.le_of_ble_eq_true rfl) dX12_way_30 (fun x3 => ?_)
        refine ro_if_ne (tgt := 38) (pc := 33) dX12_way_33 (by decide) (fun _ => ?_) (fun _ => ?_)
        · skip
          refine ro_aload_n (pc := 38) 0 dX12_way_38 rfl rfl ?_
          refine ro_iload_n (pc := 39) 1 dX12_way_39 rfl rfl ?_
          refine ro_iload_n (pc := 40) 2 dX12_way_40 rfl rfl ?_
          refine ro_cvV (pc := 41) (kc := 13) (avs := [.int a1, .int a2]) (st := []) ok_Mod_layWay wd_1783 cl_51 cv_51 rfl ⟨by decide, by decide⟩ ⟨Nat.zero_le _, Nat.zero_le _⟩ (c_Mod_layWay X N h a1 a2) rfl rfl (Nat.le_of_ble_eq_true rfl) dX12_way_41 (fun h4 => ?_)
          refine ro_aload_n (pc := 44) 0 dX12_way_44 rfl rfl ?_
          refine gf_X12_36 (pc := 45) wd_1358 dX12_way_45 ?_
          refine ro_iconst (v := (-1)) (pc := 48) dX12_way_48 (by decide) ?_
          refine ro_jn (pcj := 57) (lvs := fun (s : Unit) => [(0, .ref (xa X 51))]) (hs := fun (s : Unit) => h4) (sts := fun (s : Unit) => []) (fun s => ?_) (fun j5 hj5 => ?_)
          · try dsimp only
            refine ro_aload_n (pc := 57) 0 dX12_way_57 rfl rfl ?_
            refine gf_X12_36 (pc := 58) wd_1358 dX12_way_58 ?_
            refine ro_goto (tgt := 68) (pc := 61) dX12_way_61 (by decide) ?_
            exact ro_iret (pc := 68) rfl rfl dX12_way_68
          · skip
            refine ro_icmp_eq (tgt := 57) (pc := 49) dX12_way_49 (by decide) (fun _ => ?_) (fun _ => ?_)
            · skip
              refine ro_lv [0] rfl ?_
              exact hj5 ()
            · skip
              refine ro_iload_n (pc := 52) 3 dX12_way_52 rfl rfl ?_
              refine ro_iconst (v := 1) (pc := 53) dX12_way_53 (by decide) ?_
              refine ro_icmp_ne (tgt := 64) (pc := 54) dX12_way_54 (by decide) (fun _ => ?_) (fun _ => ?_)
              · skip
                refine ro_aload_n (pc := 64) 0 dX12_way_64 rfl rfl ?_
                refine gf_X12_37 (pc := 65) wd_1359 dX12_way_65 ?_
                exact ro_iret (pc := 68) rfl rfl dX12_way_68
              · skip
                refine ro_lv [0] rfl ?_
                exact hj5 ()
        · skip
          refine ro_iconst (v := (-1)) (pc := 36) dX12_way_36 (by decide) ?_
          exact ro_iret (pc := 37) rfl rfl dX12_way_37
theorem c_Mod_way (X : mu_X) (N : Nat) (h : mu_H) (a1 : Int32) (a2 : Int32) (a3 : Int32) : ∀ r, f_Mod_way N h a1 a2 a3 = some r → mI X m_Mod_way 14 [.ref (xa X 51), .int a1, .int a2, .int a3] h r.1 r.2 := fun r hr => mI_of (by decide) rfl (Nat.le_of_ble_eq_true rfl) rfl (cb_Mod_way X N h a1 a2 a3 r hr)
set_option maxRecDepth 20000 in
theorem cb_Mod_whose (X : mu_X) (N : Nat) (h : mu_H) (a1 : Int32) (a2 : Int32) : aG X m_Mod_whose (rmk 8) (fun _ => ax X) (fun _ _ _ => True) 0 0 (fun r : Int32 × mu_H => qI X r.1 r.2) (f_Mod_whose N h a1 a2) 0 [(0, .ref (xa X 51)), (1, .int a1), (2, .int a2)] [] h := by
  unfold f_Mod_whose
  refine ro_aload_n (pc := 0) 0 dX12_whose_0 rfl rfl ?_
  refine ro_iload_n (pc := 1) 1 dX12_whose_1 rfl rfl ?_
  refine ro_cvP (pc := 2) (kc := 2) (avs := [.int a1]) (st := []) ok_Mod_isStretch wd_1626 cl_51 cv_51 rfl ⟨by decide, by decide⟩ ⟨Nat.zero_le _, Nat.zero_le _⟩ (c_Mod_isStretch X N h a1) rfl rfl (Nat.le_of_ble_eq_true rfl) dX12_whose_2 (fun x1 => ?_)
  refine ro_if_eq (tgt := 18) (pc := 5) dX12_whose_5 (by decide) (fun _ => ?_) (fun _ => ?_)
  · skip
    refine ro_iconst (v := (-1)) (pc := 18) dX12_whose_18 (by decide) ?_
    exact ro_iret (pc := 19) rfl rfl dX12_whose_19
  · skip
    refine ro_iload_n (pc := 8) 2 dX12_whose_8 rfl rfl ?_
    refine ro_iconst (v := 0) (pc := 9) dX12_whose_9 (by decide) ?_
    refine ro_bipush (v := 99) (pc := 10) dX12_whose_10 (by decide) ?_
    refine ro_csP (pc := 12) (kc := 1) (avs := [.int a2, .int 0, .int 99]) (st := []) ok_Mod_in wd_1523 ⟨by decide, by decide⟩ ⟨Nat.zero_le _, Nat.zero_le _⟩ (c_Mod_in X N h a2 0 99) rfl rfl (Nat.le_of_ble_eq_true rfl) dX12_whose_12 (fun x2 => ?_)
    refine ro_if_ne (tgt := 20) (pc := 15) dX12_whose_15 (by decide) (fun _ => ?_) (fun _ => ?_)
    · skip
      refine ro_iconst (v := 0) (pc := 20) dX12_whose_20 (by decide) ?_
      refine ro_istore_n (pc := 21) (lv' := [(3, .int 0), (0, .ref (xa X 51)), (1, .int a1), (2, .int a2)]) dX12_whose_21 rfl (by decide) rfl ?_
      refine ro_iconst (v := 0) (pc := 22) dX12_whose_22 (by decide) ?_
      refine ro_istore (pc := 23) (lv' := [(4, .int 0), (3, .int 0), (0, .ref (xa X 51)), (1, .int a1), (2, .int a2)]) dX12_whose_23 (by decide) rfl ?_
      refine ro_lv [2, 3, 4, 1, 0] rfl ?_
      refine ro_lp (pc := 25) (lvs := fun (s : Int32 × Int32 × mu_H) => [(0, .ref (xa X 51)), (1, .int a1), (2, .int a2), (3, .int s.1), (4, .int s.2.1)]) (hs := fun (s : Int32 × Int32 × mu_H) => s.2.2) (fun rec3 hrec3 s => ?_) N (0, 0, h)
      obtain ⟨x4, x5, h6⟩ := s; unfold f_Mod_whose_L25; try dsimp only
      refine ro_iload (pc := 25) 4 dX12_whose_25 rfl ?_
      refine ro_aload_n (pc := 27) 0 dX12_whose_27 rfl rfl ?_
      refine gf_X12_26 (pc := 28) wd_1348 dX12_whose_28 ?_
      refine ro_icmp_ge (tgt := 97) (pc := 31) dX12_whose_31 (by decide) (fun _ => ?_) (fun _ => ?_)
      · skip
        refine ro_iload_n (pc := 97) 3 dX12_whose_97 rfl rfl ?_
        exact ro_iret (pc := 98) rfl rfl dX12_whose_98
      · skip
        refine ro_aload_n (pc := 34) 0 dX12_whose_34 rfl rfl ?_
        refine ro_iload (pc := 35) 4 dX12_whose_35 rfl ?_
        refine ro_iload_n (pc := 37) 1 dX12_whose_37 rfl rfl ?_
        refine ro_cvP (pc := 38) (kc := 3) (avs := [.int x5, .int a1]) (st := []) ok_Mod_comes wd_1650 cl_51 cv_51 rfl ⟨by decide, by decide⟩ ⟨Nat.zero_le _, Nat.zero_le _⟩ (c_Mod_comes X N h6 x5 a1) rfl rfl (Nat.le_of_ble_eq_true rfl) dX12_whose_38 (fun x7 => ?_)
        refine ro_jn (pcj := 73) (lvs := fun (s : Int32 × mu_H) => [(0, .ref (xa X 51)), (1, .int a1), (2, .int a2), (3, .int x4), (4, .int x5)]) (hs := fun (s : Int32 × mu_H) => s.2) (sts := fun (s : Int32 × mu_H) => [.int s.1]) (fun s => ?_) (fun j8 hj8 => ?_)
        · obtain ⟨x9, h10⟩ := s; try dsimp only
          refine ro_istore (pc := 73) (lv' := [(5, .int x9), (0, .ref (xa X 51)), (1, .int a1), (2, .int a2), (3, .int x4), (4, .int x5)]) dX12_whose_73 (by decide) rfl ?_
          refine ro_iload_n (pc := 75) 4 dX12_whose_75 rfl rfl ?_
          refine ro_iload (pc := 76) 0 dX12_whose_76 rfl ?_
          refine ro_jn (pcj := 89) (lvs := fun (s : Int32) => [(0, .ref (xa X 51)), (1, .int a1), (2, .int a2), (4, .int x5)]) (hs := fun (s : Int32) => h10) (sts := fun (s : Int32) => [.int s, .int x4]) (fun x12 => ?_) (fun j11 hj11 => ?_)
          · try dsimp only
            refine ro_ior (pc := 89) dX12_whose_89 ?_
            refine ro_bn (fun x13 => ?_)
            refine ro_istore_n (pc := 90) (lv' := [(3, .int x13), (0, .ref (xa X 51)), (1, .int a1), (2, .int a2), (4, .int x5)]) dX12_whose_90 rfl (by decide) rfl ?_
            refine ro_iinc (pc := 91) (v := x5 + 1) (lv' := [(4, .int (x5 + 1)), (3, .int x13), (0, .ref (xa X 51)), (1, .int a1), (2, .int a2)]) 4 dX12_whose_91 rfl rfl (by decide) rfl ?_
            refine ro_goto (tgt := 25) (pc := 94) dX12_whose_94 (by decide) ?_
            refine ro_lv [2, 3, 4, 1, 0] rfl ?_
            exact hrec3 (x13, x5 + 1, h10)
          · skip
            refine ro_if_eq (tgt := 88) (pc := 78) dX12_whose_78 (by decide) (fun _ => ?_) (fun _ => ?_)
            · skip
              refine ro_iconst (v := 0) (pc := 88) dX12_whose_88 (by decide) ?_
              refine ro_lv [1, 2, 3, 5] rfl ?_
              exact hj11 0
            · skip
              refine ro_iconst (v := 1) (pc := 81) dX12_whose_81 (by decide) ?_
              refine ro_iload (pc := 82) 5 dX12_whose_82 rfl ?_
              refine ro_ishl (pc := 84) dX12_whose_84 ?_
              refine ro_goto (tgt := 89) (pc := 85) dX12_whose_85 (by decide) ?_
              refine ro_lv [1, 2, 3, 5] rfl ?_
              exact hj11 ((1 : Int32) <<< (x5 &&& 31))
        · skip
          refine ro_jn (pcj := 72) (lvs := fun (s : mu_H) => [(0, .ref (xa X 51)), (1, .int a1), (2, .int a2), (3, .int x4), (4, .int x5)]) (hs := fun (s : mu_H) => s) (sts := fun (s : mu_H) => []) (fun h15 => ?_) (fun j14 hj14 => ?_)
          · try dsimp only
            refine ro_iconst (v := 0) (pc := 72) dX12_whose_72 (by decide) ?_
            exact hj8 (0, h15)
          · skip
            refine ro_if_eq (tgt := 72) (pc := 41) dX12_whose_41 (by decide) (fun _ => ?_) (fun _ => ?_)
            · skip
              exact hj14 h6
            · skip
              refine ro_aload_n (pc := 44) 0 dX12_whose_44 rfl rfl ?_
              refine ro_iload (pc := 45) 4 dX12_whose_45 rfl ?_
              refine ro_iload_n (pc := 47) 1 dX12_whose_47 rfl rfl ?_
              refine ro_iconst (v := 0) (pc := 48) dX12_whose_48 (by decide) ?_
              refine ro_cvI (pc := 49) (kc := 7) (avs := [.int x5, .int a1, .int 0]) (st := []) ok_Mod_doesNow wd_1662 cl_51 cv_51 rfl ⟨by decide, by decide⟩ ⟨Nat.zero_le _, Nat.zero_le _⟩ (c_Mod_doesNow X N h6 x5 a1 0) rfl rfl (Nat.le_of_ble_eq_true rfl) dX12_whose_49 (fun x16 h17 => ?_)
              refine ro_iload_n (pc := 52) 2 dX12_whose_52 rfl rfl ?_
              refine ro_jn (pcj := 68) (lvs := fun (s : mu_H) => [(0, .ref (xa X 51)), (1, .int a1), (2, .int a2), (3, .int x4), (4, .int x5)]) (hs := fun (s : mu_H) => s) (sts := fun (s : mu_H) => []) (fun h20 => ?_) (fun j19 hj19 => ?_)
              · try dsimp only
                refine ro_iconst (v := 1) (pc := 68) dX12_whose_68 (by decide) ?_
                refine ro_goto (tgt := 73) (pc := 69) dX12_whose_69 (by decide) ?_
                exact hj8 (1, h20)
              · skip
                refine ro_icmp_eq (tgt := 68) (pc := 53) dX12_whose_53 (by decide) (fun _ => ?_) (fun _ => ?_)
                · skip
                  exact hj19 h17
                · skip
                  refine ro_aload_n (pc := 56) 0 dX12_whose_56 rfl rfl ?_
                  refine ro_iload (pc := 57) 4 dX12_whose_57 rfl ?_
                  refine ro_iload_n (pc := 59) 1 dX12_whose_59 rfl rfl ?_
                  refine ro_iconst (v := 1) (pc := 60) dX12_whose_60 (by decide) ?_
                  refine ro_cvI (pc := 61) (kc := 7) (avs := [.int x5, .int a1, .int 1]) (st := []) ok_Mod_doesNow wd_1662 cl_51 cv_51 rfl ⟨by decide, by decide⟩ ⟨Nat.zero_le _, Nat.zero_le _⟩ (c_Mod_doesNow X N h17 x5 a1 1) rfl rfl (Nat.le_of_ble_eq_true rfl) dX12_whose_61 (fun x21 h22 => ?_)
                  refine ro_iload_n (pc := 64) 2 dX12_whose_64 rfl rfl ?_
                  refine ro_icmp_ne (tgt := 72) (pc := 65) dX12_whose_65 (by decide) (fun _ => ?_) (fun _ => ?_)
                  · skip
                    exact hj14 h22
                  · skip
                    exact hj19 h22
    · skip
      refine ro_iconst (v := (-1)) (pc := 18) dX12_whose_18 (by decide) ?_
      exact ro_iret (pc := 19) rfl rfl dX12_whose_19
theorem c_Mod_whose (X : mu_X) (N : Nat) (h : mu_H) (a1 : Int32) (a2 : Int32) : ∀ r, f_Mod_whose N h a1 a2 = some r → mI X m_Mod_whose 8 [.ref (xa X 51), .int a1, .int a2] h r.1 r.2 := fun r hr => mI_of (by decide) rfl (Nat.le_of_ble_eq_true rfl) rfl (cb_Mod_whose X N h a1 a2 r hr)
set_option maxRecDepth 20000 in
theorem cb_Mod_work (X : mu_X) (N : Nat) (h : mu_H) (a1 : Int32) (a2 : Int32) (a3 : Int32) : aG X m_Mod_work (rmk 9) (fun _ => ax X) (fun _ _ _ => True) 0 0 (fun r : Int32 × mu_H => qI X r.1 r.2) (f_Mod_work N h a1 a2 a3) 0 [(0, .ref (xa X 51)), (1, .int a1), (2, .int a2), (3, .int a3)] [] h := by
  unfold f_Mod_work
  refine ro_iconst (v := 0) (pc := 0) dX12_work_0 (by decide) ?_
  refine ro_istore (pc := 1) (lv' := [(4, .int 0), (0, .ref (xa X 51)), (1, .int a1), (2, .int a2), (3, .int a3)]) dX12_work_1 (by decide) rfl ?_
  refine ro_aload_n (pc := 3) 1 dX12_work_3 rfl rfl ?_
  refine ro_iload_n (pc := 4) 2 dX12_work_4 rfl rfl ?_
  refine ro_cvP (pc := 5) (kc := 2) (avs := [.int a1]) (st := []) ok_Mod_isHouse wd_1634 cl_51 cv_51 rfl ⟨by decide, by decide⟩ ⟨Nat.zero_le _, Nat.zero_le _⟩ (c_Mod_isHouse X N h a1) rfl rfl (Nat.le_of_ble_eq_true rfl) dX12_work_5 (fun x1 => ?_)
  refine ro_jn (pcj := 65) (lvs := fun (s : Int32) => [(0, .ref (xa X 51)), (1, .int a1), (2, .int a2), (3, .int a3), (4, .int s)]) (hs := fun (s : Int32) => h) (sts := fun (s : Int32) => []) (fun x3 => ?_) (fun j2 hj2 => ?_)
  · try dsimp only
    refine ro_aload_n (pc := 65) 0 dX12_work_65 rfl rfl ?_
    refine ro_iload (pc := 66) 4 dX12_work_66 rfl ?_
    refine ro_cvI (pc := 68) (kc := 1) (avs := [.int x3]) (st := []) ok_Mod_isRefused wd_1701 cl_51 cv_51 rfl ⟨by decide, by decide⟩ ⟨Nat.zero_le _, Nat.zero_le _⟩ (c_Mod_isRefused X N h x3) rfl rfl (Nat.le_of_ble_eq_true rfl) dX12_work_68 (fun x4 h5 => ?_)
    refine ro_if_eq (tgt := 76) (pc := 71) dX12_work_71 (by decide) (fun _ => ?_) (fun _ => ?_)
    · skip
      refine ro_aload_n (pc := 76) 0 dX12_work_76 rfl rfl ?_
      refine ro_cvV (pc := 77) (kc := 1) (avs := []) (st := []) ok_Mod_keep wd_1705 cl_51 cv_51 rfl ⟨by decide, by decide⟩ ⟨Nat.zero_le _, Nat.zero_le _⟩ (c_Mod_keep X N h5) rfl rfl (Nat.le_of_ble_eq_true rfl) dX12_work_77 (fun h7 => ?_)
      refine ro_aload_n (pc := 80) 0 dX12_work_80 rfl rfl ?_
      refine ro_iload_n (pc := 81) 1 dX12_work_81 rfl rfl ?_
      refine ro_iload_n (pc := 82) 2 dX12_work_82 rfl rfl ?_
      refine ro_iload_n (pc := 83) 3 dX12_work_83 rfl rfl ?_
      refine ro_cvV (pc := 84) (kc := 8) (avs := [.int a1, .int a2, .int a3]) (st := []) ok_Mod_workNow wd_1709 cl_51 cv_51 rfl ⟨by decide, by decide⟩ ⟨Nat.zero_le _, Nat.zero_le _⟩ (c_Mod_workNow X N h7 a1 a2 a3) rfl rfl (Nat.le_of_ble_eq_true rfl) dX12_work_84 (fun h8 => ?_)
      refine ro_aload_n (pc := 87) 0 dX12_work_87 rfl rfl ?_
      refine gf_X12_27 (pc := 88) wd_1349 dX12_work_88 ?_
      refine ro_iconst (v := 0) (pc := 91) dX12_work_91 (by decide) ?_
      refine ro_iload_n (pc := 92) 2 dX12_work_92 rfl rfl ?_
      refine ro_iadd (pc := 93) dX12_work_93 ?_
      refine ro_iald (pc := 94) (n := 214) cl_68 cv_68 dX12_work_94 ?_
      exact ro_iret (pc := 95) rfl rfl dX12_work_95
    · skip
      refine ro_iconst (v := (-1)) (pc := 74) dX12_work_74 (by decide) ?_
      exact ro_iret (pc := 75) rfl rfl dX12_work_75
  · skip
    refine ro_if_eq (tgt := 65) (pc := 8) dX12_work_8 (by decide) (fun _ => ?_) (fun _ => ?_)
    · skip
      refine ro_lv [1, 2, 3, 4, 0] rfl ?_
      exact hj2 0
    · skip
      refine ro_aload_n (pc := 11) 1 dX12_work_11 rfl rfl ?_
      refine ro_iload_n (pc := 12) 3 dX12_work_12 rfl rfl ?_
      refine ro_cvP (pc := 13) (kc := 2) (avs := [.int a2]) (st := []) ok_Mod_isStretch wd_1626 cl_51 cv_51 rfl ⟨by decide, by decide⟩ ⟨Nat.zero_le _, Nat.zero_le _⟩ (c_Mod_isStretch X N h a2) rfl rfl (Nat.le_of_ble_eq_true rfl) dX12_work_13 (fun x9 => ?_)
      refine ro_if_eq (tgt := 65) (pc := 16) dX12_work_16 (by decide) (fun _ => ?_) (fun _ => ?_)
      · skip
        refine ro_lv [1, 2, 3, 4, 0] rfl ?_
        exact hj2 0
      · skip
        refine ro_iload_n (pc := 19) 4 dX12_work_19 rfl rfl ?_
        refine ro_iconst (v := 0) (pc := 20) dX12_work_20 (by decide) ?_
        refine ro_iconst (v := 3) (pc := 21) dX12_work_21 (by decide) ?_
        refine ro_csP (pc := 22) (kc := 1) (avs := [.int a3, .int 0, .int 3]) (st := []) ok_Mod_in wd_1523 ⟨by decide, by decide⟩ ⟨Nat.zero_le _, Nat.zero_le _⟩ (c_Mod_in X N h a3 0 3) rfl rfl (Nat.le_of_ble_eq_true rfl) dX12_work_22 (fun x10 => ?_)
        refine ro_jn (pcj := 63) (lvs := fun (s : Int32) => [(0, .ref (xa X 51)), (1, .int a1), (2, .int a2), (3, .int a3)]) (hs := fun (s : Int32) => h) (sts := fun (s : Int32) => [.int s]) (fun x12 => ?_) (fun j11 hj11 => ?_)
        · try dsimp only
          refine ro_istore (pc := 63) (lv' := [(4, .int x12), (0, .ref (xa X 51)), (1, .int a1), (2, .int a2), (3, .int a3)]) dX12_work_63 (by decide) rfl ?_
          refine ro_lv [1, 2, 3, 4, 0] rfl ?_
          exact hj2 x12
        · skip
          refine ro_if_ne (tgt := 32) (pc := 25) dX12_work_25 (by decide) (fun _ => ?_) (fun _ => ?_)
          · skip
            refine ro_aload_n (pc := 32) 1 dX12_work_32 rfl rfl ?_
            refine gf_X12_27 (pc := 33) wd_1349 dX12_work_33 ?_
            refine ro_bipush (v := 18) (pc := 36) dX12_work_36 (by decide) ?_
            refine ro_iload_n (pc := 38) 2 dX12_work_38 rfl rfl ?_
            refine ro_iadd (pc := 39) dX12_work_39 ?_
            refine ro_iald (pc := 40) (n := 214) cl_68 cv_68 dX12_work_40 ?_
            refine ro_jn (pcj := 58) (lvs := fun (s : Unit) => [(0, .ref (xa X 51)), (1, .int a1), (2, .int a2), (3, .int a3)]) (hs := fun (s : Unit) => h) (sts := fun (s : Unit) => []) (fun s => ?_) (fun j13 hj13 => ?_)
            · try dsimp only
              refine ro_iconst (v := 2) (pc := 58) dX12_work_58 (by decide) ?_
              refine ro_goto (tgt := 63) (pc := 59) dX12_work_59 (by decide) ?_
              exact hj11 2
            · skip
              refine ro_if_eq (tgt := 58) (pc := 41) dX12_work_41 (by decide) (fun _ => ?_) (fun _ => ?_)
              · skip
                refine ro_lv [1, 2, 3, 4] rfl ?_
                exact hj13 ()
              · skip
                refine ro_iload_n (pc := 44) 4 dX12_work_44 rfl rfl ?_
                refine ro_iconst (v := 2) (pc := 45) dX12_work_45 (by decide) ?_
                refine ro_jn (pcj := 62) (lvs := fun (s : Unit) => [(0, .ref (xa X 51)), (1, .int a1), (2, .int a2), (3, .int a3)]) (hs := fun (s : Unit) => h) (sts := fun (s : Unit) => []) (fun s => ?_) (fun j14 hj14 => ?_)
                · try dsimp only
                  refine ro_iconst (v := (-1)) (pc := 62) dX12_work_62 (by decide) ?_
                  exact hj11 (-1)
                · skip
                  refine ro_icmp_eq (tgt := 62) (pc := 46) dX12_work_46 (by decide) (fun _ => ?_) (fun _ => ?_)
                  · skip
                    refine ro_lv [1, 2, 3, 4] rfl ?_
                    exact hj14 ()
                  · skip
                    refine ro_aload_n (pc := 49) 1 dX12_work_49 rfl rfl ?_
                    refine ro_iload_n (pc := 50) 2 dX12_work_50 rfl rfl ?_
                    refine ro_iload_n (pc := 51) 3 dX12_work_51 rfl rfl ?_
                    refine ro_cvP (pc := 52) (kc := 3) (avs := [.int a1, .int a2]) (st := []) ok_Mod_comes wd_1650 cl_51 cv_51 rfl ⟨by decide, by decide⟩ ⟨Nat.zero_le _, Nat.zero_le _⟩ (c_Mod_comes X N h a1 a2) rfl rfl (Nat.le_of_ble_eq_true rfl) dX12_work_52 (fun x15 => ?_)
                    refine ro_if_ne (tgt := 62) (pc := 55) dX12_work_55 (by decide) (fun _ => ?_) (fun _ => ?_)
                    · skip
                      refine ro_lv [1, 2, 3, 4] rfl ?_
                      exact hj14 ()
                    · skip
                      refine ro_lv [1, 2, 3, 4] rfl ?_
                      exact hj13 ()
          · skip
            refine ro_iconst (v := 1) (pc := 28) dX12_work_28 (by decide) ?_
            refine ro_goto (tgt := 63) (pc := 29) dX12_work_29 (by decide) ?_
            refine ro_lv [1, 2, 3, 4] rfl ?_
            exact hj11 1
theorem c_Mod_work (X : mu_X) (N : Nat) (h : mu_H) (a1 : Int32) (a2 : Int32) (a3 : Int32) : ∀ r, f_Mod_work N h a1 a2 a3 = some r → mI X m_Mod_work 9 [.ref (xa X 51), .int a1, .int a2, .int a3] h r.1 r.2 := fun r hr => mI_of (by decide) rfl (Nat.le_of_ble_eq_true rfl) rfl (cb_Mod_work X N h a1 a2 a3 r hr)
set_option maxRecDepth 20000 in
theorem cb_Mod_worst (X : mu_X) (N : Nat) (h : mu_H) : aG X m_Mod_worst (rmk 1) (fun _ => ax X) (fun _ _ _ => True) 0 0 (fun r : Int32 => qI X r h) (f_Mod_worst N h) 0 [(0, .ref (xa X 51))] [] h := by
  unfold f_Mod_worst
  refine ro_iconst (v := (-1)) (pc := 0) dX12_worst_0 (by decide) ?_
  refine ro_istore_n (pc := 1) (lv' := [(1, .int (-1)), (0, .ref (xa X 51))]) dX12_worst_1 rfl (by decide) rfl ?_
  refine ro_iconst (v := 0) (pc := 2) dX12_worst_2 (by decide) ?_
  refine ro_istore_n (pc := 3) (lv' := [(2, .int 0), (1, .int (-1)), (0, .ref (xa X 51))]) dX12_worst_3 rfl (by decide) rfl ?_
  refine ro_lv [2, 1, 0] rfl ?_
  refine ro_lp (pc := 4) (lvs := fun (s : Int32 × Int32) => [(0, .ref (xa X 51)), (1, .int s.1), (2, .int s.2)]) (hs := fun (s : Int32 × Int32) => h) (fun rec1 hrec1 s => ?_) N ((-1), 0)
  obtain ⟨x2, x3⟩ := s; unfold f_Mod_worst_L4; try dsimp only
  refine ro_iload_n (pc := 4) 2 dX12_worst_4 rfl rfl ?_
  refine ro_aload_n (pc := 5) 0 dX12_worst_5 rfl rfl ?_
  refine gf_X12_25 (pc := 6) wd_1347 dX12_worst_6 ?_
  refine ro_icmp_ge (tgt := 48) (pc := 9) dX12_worst_9 (by decide) (fun _ => ?_) (fun _ => ?_)
  · skip
    refine ro_iload_n (pc := 48) 1 dX12_worst_48 rfl rfl ?_
    exact ro_iret (pc := 49) rfl rfl dX12_worst_49
  · skip
    refine ro_iload_n (pc := 12) 1 dX12_worst_12 rfl rfl ?_
    refine ro_iconst (v := (-1)) (pc := 13) dX12_worst_13 (by decide) ?_
    refine ro_jn (pcj := 41) (lvs := fun (s : Int32) => [(0, .ref (xa X 51)), (2, .int x3)]) (hs := fun (s : Int32) => h) (sts := fun (s : Int32) => [.int s]) (fun x5 => ?_) (fun j4 hj4 => ?_)
    · try dsimp only
      refine ro_istore_n (pc := 41) (lv' := [(1, .int x5), (0, .ref (xa X 51)), (2, .int x3)]) dX12_worst_41 rfl (by decide) rfl ?_
      refine ro_iinc (pc := 42) (v := x3 + 1) (lv' := [(2, .int (x3 + 1)), (1, .int x5), (0, .ref (xa X 51))]) 2 dX12_worst_42 rfl rfl (by decide) rfl ?_
      refine ro_goto (tgt := 4) (pc := 45) dX12_worst_45 (by decide) ?_
      refine ro_lv [2, 1, 0] rfl ?_
      exact hrec1 (x5, x3 + 1)
    · skip
      refine ro_jn (pcj := 36) (lvs := fun (s : Unit) => [(0, .ref (xa X 51)), (2, .int x3)]) (hs := fun (s : Unit) => h) (sts := fun (s : Unit) => []) (fun s => ?_) (fun j6 hj6 => ?_)
      · try dsimp only
        refine ro_iload_n (pc := 36) 1 dX12_worst_36 rfl rfl ?_
        refine ro_goto (tgt := 41) (pc := 37) dX12_worst_37 (by decide) ?_
        exact hj4 x3
      · skip
        refine ro_icmp_eq (tgt := 36) (pc := 14) dX12_worst_14 (by decide) (fun _ => ?_) (fun _ => ?_)
        · skip
          refine ro_lv [0, 2] rfl ?_
          exact hj6 ()
        · skip
          refine ro_aload_n (pc := 17) 0 dX12_worst_17 rfl rfl ?_
          refine gf_X12_27 (pc := 18) wd_1349 dX12_worst_18 ?_
          refine ro_iconst (v := 0) (pc := 21) dX12_worst_21 (by decide) ?_
          refine ro_iload_n (pc := 22) 2 dX12_worst_22 rfl rfl ?_
          refine ro_iadd (pc := 23) dX12_worst_23 ?_
          refine ro_iald (pc := 24) (n := 214) cl_68 cv_68 dX12_worst_24 ?_
          refine ro_aload_n (pc := 25) 0 dX12_worst_25 rfl rfl ?_
          refine gf_X12_27 (pc := 26) wd_1349 dX12_worst_26 ?_
          refine ro_iconst (v := 0) (pc := 29) dX12_worst_29 (by decide) ?_
          refine ro_iload_n (pc := 30) 1 dX12_worst_30 rfl rfl ?_
          refine ro_iadd (pc := 31) dX12_worst_31 ?_
          refine ro_iald (pc := 32) (n := 214) cl_68 cv_68 dX12_worst_32 ?_
          refine ro_icmp_le (tgt := 40) (pc := 33) dX12_worst_33 (by decide) (fun _ => ?_) (fun _ => ?_)
          · skip
            refine ro_iload_n (pc := 40) 1 dX12_worst_40 rfl rfl ?_
            refine ro_lv [0, 2] rfl ?_
            exact hj4 x2
          · skip
            refine ro_lv [0, 2] rfl ?_
            exact hj6 ()
theorem c_Mod_worst (X : mu_X) (N : Nat) (h : mu_H) : ∀ r, f_Mod_worst N h = some r → mI X m_Mod_worst 1 [.ref (xa X 51)] h r h := fun r hr => mI_of (by decide) rfl (Nat.le_of_ble_eq_true rfl) rfl (cb_Mod_worst X N h r hr)
set_option maxRecDepth 20000 in
theorem cb_Mod_worth (X : mu_X) (N : Nat) (h : mu_H) (a1 : Int32) : aG X m_Mod_worth (rmk 8) (fun _ => ax X) (fun _ _ _ => True) 0 0 (fun r : Int32 × mu_H => qI X r.1 r.2) (f_Mod_worth N h a1) 0 [(0, .ref (xa X 51)), (1, .int a1)] [] h := by
  unfold f_Mod_worth
  refine ro_iconst (v := (-1)) (pc := 0) dX12_worth_0 (by decide) ?_
  refine ro_istore_n (pc := 1) (lv' := [(2, .int (-1)), (0, .ref (xa X 51)), (1, .int a1)]) dX12_worth_1 rfl (by decide) rfl ?_
  refine ro_iconst (v := 0) (pc := 2) dX12_worth_2 (by decide) ?_
  refine ro_istore_n (pc := 3) (lv' := [(3, .int 0), (2, .int (-1)), (0, .ref (xa X 51)), (1, .int a1)]) dX12_worth_3 rfl (by decide) rfl ?_
  refine ro_lv [2, 3, 1, 0] rfl ?_
  refine ro_lp (pc := 4) (lvs := fun (s : Int32 × Int32 × mu_H) => [(0, .ref (xa X 51)), (1, .int a1), (2, .int s.1), (3, .int s.2.1)]) (hs := fun (s : Int32 × Int32 × mu_H) => s.2.2) (fun rec1 hrec1 s => ?_) N ((-1), 0, h)
  obtain ⟨x2, x3, h4⟩ := s; unfold f_Mod_worth_L4; try dsimp only
  refine ro_iload_n (pc := 4) 3 dX12_worth_4 rfl rfl ?_
  refine ro_aload_n (pc := 5) 0 dX12_worth_5 rfl rfl ?_
  refine gf_X12_25 (pc := 6) wd_1347 dX12_worth_6 ?_
  refine ro_icmp_ge (tgt := 63) (pc := 9) dX12_worth_9 (by decide) (fun _ => ?_) (fun _ => ?_)
  · skip
    refine ro_iload_n (pc := 63) 2 dX12_worth_63 rfl rfl ?_
    exact ro_iret (pc := 64) rfl rfl dX12_worth_64
  · skip
    refine ro_aload_n (pc := 12) 0 dX12_worth_12 rfl rfl ?_
    refine ro_iload_n (pc := 13) 1 dX12_worth_13 rfl rfl ?_
    refine ro_cvP (pc := 14) (kc := 2) (avs := [.int a1]) (st := []) ok_Mod_isHouse wd_1634 cl_51 cv_51 rfl ⟨by decide, by decide⟩ ⟨Nat.zero_le _, Nat.zero_le _⟩ (c_Mod_isHouse X N h4 a1) rfl rfl (Nat.le_of_ble_eq_true rfl) dX12_worth_14 (fun x5 => ?_)
    refine ro_if_eq (tgt := 63) (pc := 17) dX12_worth_17 (by decide) (fun _ => ?_) (fun _ => ?_)
    · skip
      refine ro_iload_n (pc := 63) 2 dX12_worth_63 rfl rfl ?_
      exact ro_iret (pc := 64) rfl rfl dX12_worth_64
    · skip
      refine ro_aload_n (pc := 20) 0 dX12_worth_20 rfl rfl ?_
      refine ro_iload_n (pc := 21) 1 dX12_worth_21 rfl rfl ?_
      refine ro_iload_n (pc := 22) 3 dX12_worth_22 rfl rfl ?_
      refine ro_cvP (pc := 23) (kc := 3) (avs := [.int a1, .int x3]) (st := []) ok_Mod_comes wd_1650 cl_51 cv_51 rfl ⟨by decide, by decide⟩ ⟨Nat.zero_le _, Nat.zero_le _⟩ (c_Mod_comes X N h4 a1 x3) rfl rfl (Nat.le_of_ble_eq_true rfl) dX12_worth_23 (fun x6 => ?_)
      refine ro_jn (pcj := 56) (lvs := fun (s : Int32 × mu_H) => [(0, .ref (xa X 51)), (1, .int a1), (3, .int x3)]) (hs := fun (s : Int32 × mu_H) => s.2) (sts := fun (s : Int32 × mu_H) => [.int s.1]) (fun s => ?_) (fun j7 hj7 => ?_)
      · obtain ⟨x8, h9⟩ := s; try dsimp only
        refine ro_istore_n (pc := 56) (lv' := [(2, .int x8), (0, .ref (xa X 51)), (1, .int a1), (3, .int x3)]) dX12_worth_56 rfl (by decide) rfl ?_
        refine ro_iinc (pc := 57) (v := x3 + 1) (lv' := [(3, .int (x3 + 1)), (2, .int x8), (0, .ref (xa X 51)), (1, .int a1)]) 3 dX12_worth_57 rfl rfl (by decide) rfl ?_
        refine ro_goto (tgt := 4) (pc := 60) dX12_worth_60 (by decide) ?_
        refine ro_lv [2, 3, 1, 0] rfl ?_
        exact hrec1 (x8, x3 + 1, h9)
      · skip
        refine ro_jn (pcj := 55) (lvs := fun (s : mu_H) => [(0, .ref (xa X 51)), (1, .int a1), (2, .int x2), (3, .int x3)]) (hs := fun (s : mu_H) => s) (sts := fun (s : mu_H) => []) (fun h11 => ?_) (fun j10 hj10 => ?_)
        · try dsimp only
          refine ro_iload_n (pc := 55) 2 dX12_worth_55 rfl rfl ?_
          refine ro_lv [0, 1, 3] rfl ?_
          exact hj7 (x2, h11)
        · skip
          refine ro_if_eq (tgt := 55) (pc := 26) dX12_worth_26 (by decide) (fun _ => ?_) (fun _ => ?_)
          · skip
            exact hj10 h4
          · skip
            refine ro_iload_n (pc := 29) 2 dX12_worth_29 rfl rfl ?_
            refine ro_iconst (v := (-1)) (pc := 30) dX12_worth_30 (by decide) ?_
            refine ro_jn (pcj := 51) (lvs := fun (s : mu_H) => [(0, .ref (xa X 51)), (1, .int a1), (3, .int x3)]) (hs := fun (s : mu_H) => s) (sts := fun (s : mu_H) => []) (fun h13 => ?_) (fun j12 hj12 => ?_)
            · try dsimp only
              refine ro_iload_n (pc := 51) 2 dX12_worth_51 rfl rfl ?_
              refine ro_goto (tgt := 56) (pc := 52) dX12_worth_52 (by decide) ?_
              exact hj7 (x3, h13)
            · skip
              refine ro_icmp_eq (tgt := 51) (pc := 31) dX12_worth_31 (by decide) (fun _ => ?_) (fun _ => ?_)
              · skip
                refine ro_lv [0, 1, 3] rfl ?_
                exact hj12 h4
              · skip
                refine ro_aload_n (pc := 34) 0 dX12_worth_34 rfl rfl ?_
                refine ro_iload_n (pc := 35) 1 dX12_worth_35 rfl rfl ?_
                refine ro_iload_n (pc := 36) 3 dX12_worth_36 rfl rfl ?_
                refine ro_iconst (v := 0) (pc := 37) dX12_worth_37 (by decide) ?_
                refine ro_cvI (pc := 38) (kc := 7) (avs := [.int a1, .int x3, .int 0]) (st := []) ok_Mod_doesNow wd_1662 cl_51 cv_51 rfl ⟨by decide, by decide⟩ ⟨Nat.zero_le _, Nat.zero_le _⟩ (c_Mod_doesNow X N h4 a1 x3 0) rfl rfl (Nat.le_of_ble_eq_true rfl) dX12_worth_38 (fun x14 h15 => ?_)
                refine ro_aload_n (pc := 41) 0 dX12_worth_41 rfl rfl ?_
                refine ro_iload_n (pc := 42) 1 dX12_worth_42 rfl rfl ?_
                refine ro_iload_n (pc := 43) 2 dX12_worth_43 rfl rfl ?_
                refine ro_iconst (v := 0) (pc := 44) dX12_worth_44 (by decide) ?_
                refine ro_cvI (pc := 45) (kc := 7) (avs := [.int a1, .int x2, .int 0]) (st := [.int x14]) ok_Mod_doesNow wd_1662 cl_51 cv_51 rfl ⟨by decide, by decide⟩ ⟨Nat.zero_le _, Nat.zero_le _⟩ (c_Mod_doesNow X N h15 a1 x2 0) rfl rfl (Nat.le_of_ble_eq_true rfl) dX12_worth_45 (fun x17 h18 => ?_)
                refine ro_icmp_le (tgt := 55) (pc := 48) dX12_worth_48 (by decide) (fun _ => ?_) (fun _ => ?_)
                · skip
                  exact hj10 h18
                · skip
                  refine ro_lv [0, 1, 3] rfl ?_
                  exact hj12 h18
theorem c_Mod_worth (X : mu_X) (N : Nat) (h : mu_H) (a1 : Int32) : ∀ r, f_Mod_worth N h a1 = some r → mI X m_Mod_worth 8 [.ref (xa X 51), .int a1] h r.1 r.2 := fun r hr => mI_of (by decide) rfl (Nat.le_of_ble_eq_true rfl) rfl (cb_Mod_worth X N h a1 r hr)
set_option maxRecDepth 20000 in
theorem cb_Mod_years (X : mu_X) (N : Nat) (h : mu_H) (a1 : Int32) (a2 : Int64) : aG X m_Mod_years (rmk 10) (fun _ => ax X) (fun _ _ _ => True) 0 0 (fun r : Int32 × mu_H => qI X r.1 r.2) (f_Mod_years N h a1 a2) 0 [(0, .ref (xa X 51)), (1, .int a1), (2, .long a2)] [] h := by
  unfold f_Mod_years
  refine ro_aload_n (pc := 0) 0 dX12_years_0 rfl rfl ?_
  refine gf_X12_25 (pc := 1) wd_1347 dX12_years_1 ?_
  refine ro_if_eq (tgt := 15) (pc := 4) dX12_years_4 (by decide) (fun _ => ?_) (fun _ => ?_)
  · skip
    refine ro_iconst (v := (-1)) (pc := 15) dX12_years_15 (by decide) ?_
    exact ro_iret (pc := 16) rfl rfl dX12_years_16
  · skip
    refine ro_aload_n (pc := 7) 0 dX12_years_7 rfl rfl ?_
    refine ro_iload_n (pc := 8) 1 dX12_years_8 rfl rfl ?_
    refine ro_cvP (pc := 9) (kc := 2) (avs := [.int a1]) (st := []) ok_Mod_areSeasons wd_1729 cl_51 cv_51 rfl ⟨by decide, by decide⟩ ⟨Nat.zero_le _, Nat.zero_le _⟩ (c_Mod_areSeasons X N h a1) rfl rfl (Nat.le_of_ble_eq_true rfl) dX12_years_9 (fun x1 => ?_)
    refine ro_if_ne (tgt := 17) (pc := 12) dX12_years_12 (by decide) (fun _ => ?_) (fun _ => ?_)
    · skip
      refine ro_aload_n (pc := 17) 0 dX12_years_17 rfl rfl ?_
      refine ro_lload_n (pc := 18) 2 dX12_years_18 rfl rfl ?_
      refine pf_X12_33 (pc := 19) wd_1355 dX12_years_19 ?_
      refine ro_bnh (fun h2 => ?_)
      refine ro_iconst (v := 0) (pc := 22) dX12_years_22 (by decide) ?_
      refine ro_istore (pc := 23) (lv' := [(4, .int 0), (0, .ref (xa X 51)), (1, .int a1), (2, .long a2)]) dX12_years_23 (by decide) rfl ?_
      refine ro_jn (pcj := 82) (lvs := fun (s : mu_H) => [(0, .ref (xa X 51))]) (hs := fun (s : mu_H) => s) (sts := fun (s : mu_H) => []) (fun h4 => ?_) (fun k3 hk3 => ?_)
      · try dsimp only
        refine ro_aload_n (pc := 82) 0 dX12_years_82 rfl rfl ?_
        refine gf_X12_27 (pc := 83) wd_1349 dX12_years_83 ?_
        refine ro_bipush (v := 32) (pc := 86) dX12_years_86 (by decide) ?_
        refine ro_iald (pc := 88) (n := 214) cl_68 cv_68 dX12_years_88 ?_
        exact ro_iret (pc := 89) rfl rfl dX12_years_89
      · skip
        refine ro_lv [1, 2, 0] rfl ?_
        refine ro_lp (pc := 25) (lvs := fun (s : Int32 × mu_H) => [(0, .ref (xa X 51)), (1, .int a1), (4, .int s.1)]) (hs := fun (s : Int32 × mu_H) => s.2) (fun rec5 hrec5 s => ?_) N (0, h2)
        obtain ⟨x6, h7⟩ := s; unfold f_Mod_years_L25; try dsimp only
        refine ro_iload (pc := 25) 2 dX12_years_25 rfl ?_
        refine ro_iload_n (pc := 27) 1 dX12_years_27 rfl rfl ?_
        refine ro_icmp_ge (tgt := 82) (pc := 28) dX12_years_28 (by decide) (fun _ => ?_) (fun _ => ?_)
        · skip
          refine ro_lv [0] rfl ?_
          exact hk3 h7
        · skip
          refine ro_aload_n (pc := 31) 0 dX12_years_31 rfl rfl ?_
          refine ro_cvV (pc := 32) (kc := 1) (avs := []) (st := []) ok_Mod_keep wd_1705 cl_51 cv_51 rfl ⟨by decide, by decide⟩ ⟨Nat.zero_le _, Nat.zero_le _⟩ (c_Mod_keep X N h7) rfl rfl (Nat.le_of_ble_eq_true rfl) dX12_years_32 (fun h8 => ?_)
          refine ro_iconst (v := 0) (pc := 35) dX12_years_35 (by decide) ?_
          refine ro_istore (pc := 36) (lv' := [(5, .int 0), (0, .ref (xa X 51)), (1, .int a1), (4, .int x6)]) dX12_years_36 (by decide) rfl ?_
          refine ro_jn (pcj := 72) (lvs := fun (s : mu_H) => [(0, .ref (xa X 51)), (1, .int a1), (4, .int x6)]) (hs := fun (s : mu_H) => s) (sts := fun (s : mu_H) => []) (fun h10 => ?_) (fun k9 hk9 => ?_)
          · try dsimp only
            refine ro_aload_n (pc := 72) 0 dX12_years_72 rfl rfl ?_
            refine ro_cvV (pc := 73) (kc := 3) (avs := []) (st := []) ok_Mod_passSeason wd_1733 cl_51 cv_51 rfl ⟨by decide, by decide⟩ ⟨Nat.zero_le _, Nat.zero_le _⟩ (c_Mod_passSeason X N h10) rfl rfl (Nat.le_of_ble_eq_true rfl) dX12_years_73 (fun h11 => ?_)
            refine ro_iinc (pc := 76) (v := x6 + 1) (lv' := [(4, .int (x6 + 1)), (0, .ref (xa X 51)), (1, .int a1)]) 2 dX12_years_76 rfl rfl (by decide) rfl ?_
            refine ro_goto (tgt := 25) (pc := 79) dX12_years_79 (by decide) ?_
            refine ro_lv [1, 2, 0] rfl ?_
            exact hrec5 (x6 + 1, h11)
          · skip
            refine ro_lv [1, 2, 3, 0] rfl ?_
            refine ro_lp (pc := 38) (lvs := fun (s : Int32 × mu_H) => [(0, .ref (xa X 51)), (1, .int a1), (4, .int x6), (5, .int s.1)]) (hs := fun (s : Int32 × mu_H) => s.2) (fun rec12 hrec12 s => ?_) N (0, h8)
            obtain ⟨x13, h14⟩ := s; unfold f_Mod_years_L38; try dsimp only
            refine ro_iload (pc := 38) 3 dX12_years_38 rfl ?_
            refine ro_aload_n (pc := 40) 0 dX12_years_40 rfl rfl ?_
            refine gf_X12_26 (pc := 41) wd_1348 dX12_years_41 ?_
            refine ro_icmp_ge (tgt := 72) (pc := 44) dX12_years_44 (by decide) (fun _ => ?_) (fun _ => ?_)
            · skip
              refine ro_lv [0, 1, 2] rfl ?_
              exact hk9 h14
            · skip
              refine ro_aload_n (pc := 47) 0 dX12_years_47 rfl rfl ?_
              refine gf_X12_27 (pc := 48) wd_1349 dX12_years_48 ?_
              refine ro_bipush (v := 18) (pc := 51) dX12_years_51 (by decide) ?_
              refine ro_iload (pc := 53) 3 dX12_years_53 rfl ?_
              refine ro_iadd (pc := 55) dX12_years_55 ?_
              refine ro_iald (pc := 56) (n := 214) cl_68 cv_68 dX12_years_56 ?_
              refine ro_jn (pcj := 66) (lvs := fun (s : mu_H) => [(0, .ref (xa X 51)), (1, .int a1), (4, .int x6), (5, .int x13)]) (hs := fun (s : mu_H) => s) (sts := fun (s : mu_H) => []) (fun h16 => ?_) (fun j15 hj15 => ?_)
              · try dsimp only
                refine ro_iinc (pc := 66) (v := x13 + 1) (lv' := [(5, .int (x13 + 1)), (0, .ref (xa X 51)), (1, .int a1), (4, .int x6)]) 3 dX12_years_66 rfl rfl (by decide) rfl ?_
                refine ro_goto (tgt := 38) (pc := 69) dX12_years_69 (by decide) ?_
                refine ro_lv [1, 2, 3, 0] rfl ?_
                exact hrec12 (x13 + 1, h16)
              · skip
                refine ro_if_le (tgt := 66) (pc := 57) dX12_years_57 (by decide) (fun _ => ?_) (fun _ => ?_)
                · skip
                  exact hj15 h14
                · skip
                  refine ro_aload_n (pc := 60) 0 dX12_years_60 rfl rfl ?_
                  refine ro_iload (pc := 61) 3 dX12_years_61 rfl ?_
                  refine ro_cvV (pc := 63) (kc := 9) (avs := [.int x13]) (st := []) ok_Mod_drawDay wd_1749 cl_51 cv_51 rfl ⟨by decide, by decide⟩ ⟨Nat.zero_le _, Nat.zero_le _⟩ (c_Mod_drawDay X N h14 x13) rfl rfl (Nat.le_of_ble_eq_true rfl) dX12_years_63 (fun h17 => ?_)
                  exact hj15 h17
    · skip
      refine ro_iconst (v := (-1)) (pc := 15) dX12_years_15 (by decide) ?_
      exact ro_iret (pc := 16) rfl rfl dX12_years_16
theorem c_Mod_years (X : mu_X) (N : Nat) (h : mu_H) (a1 : Int32) (a2 : Int64) : ∀ r, f_Mod_years N h a1 a2 = some r → mI X m_Mod_years 10 [.ref (xa X 51), .int a1, .long a2] h r.1 r.2 := fun r hr => mI_of (by decide) rfl (Nat.le_of_ble_eq_true rfl) rfl (cb_Mod_years X N h a1 a2 r hr)
