def m_LRd_next : mu_M := (RX2, yX2_next, cX2_next, 1, some .int)
theorem ok_LRd_next : mOKv m_LRd_next 0 := ⟨wd_515, wd_7, wd_99, wd_516, by decide, by decide, by decide +kernel⟩
def m_LRd_skip : mu_M := (RX2, yX2_skip, cX2_skip, 2, some .boolean)
theorem ok_LRd_skip : mOKv m_LRd_skip 1 := ⟨wd_511, wd_6, wd_99, wd_512, by decide, by decide, by decide +kernel⟩
def m_LRd_readNumber : mu_M := (RX2, yX2_readNumber, cX2_readNumber, 3, some .boolean)
theorem ok_LRd_readNumber : mOKv m_LRd_readNumber 0 := ⟨wd_534, wd_11, wd_99, wd_535, by decide, by decide, by decide +kernel⟩
def m_LRd_readAtom : mu_M := (RX2, yX2_readAtom, cX2_readAtom, 4, some .boolean)
theorem ok_LRd_readAtom : mOKv m_LRd_readAtom 1 := ⟨wd_529, wd_10, wd_99, wd_530, by decide, by decide, by decide +kernel⟩
def m_LRd_readTerm : mu_M := (RX2, yX2_readTerm, cX2_readTerm, 4, some .boolean)
theorem ok_LRd_readTerm : mOKv m_LRd_readTerm 1 := ⟨wd_525, wd_9, wd_99, wd_526, by decide, by decide, by decide +kernel⟩
def m_LRd_readSum : mu_M := (RX2, yX2_readSum, cX2_readSum, 4, some .boolean)
theorem ok_LRd_readSum : mOKv m_LRd_readSum 1 := ⟨wd_521, wd_8, wd_99, wd_522, by decide, by decide, by decide +kernel⟩
def m_LRd_isComparison : mu_M := (RX2, yX2_isComparison, cX2_isComparison, 1, some .boolean)
theorem ok_LRd_isComparison : mOKs m_LRd_isComparison 1 := ⟨wd_543, wd_99, wd_544, by decide, by decide, by decide +kernel⟩
def m_LRd_readTruth : mu_M := (RX2, yX2_readTruth, cX2_readTruth, 4, some .boolean)
theorem ok_LRd_readTruth : mOKv m_LRd_readTruth 2 := ⟨wd_551, wd_13, wd_99, wd_552, by decide, by decide, by decide +kernel⟩
def m_LRd_readCondition : mu_M := (RX2, yX2_readCondition, cX2_readCondition, 4, some .boolean)
theorem ok_LRd_readCondition : mOKv m_LRd_readCondition 2 := ⟨wd_547, wd_12, wd_99, wd_548, by decide, by decide, by decide +kernel⟩
def m_LRd_readUnit : mu_M := (RX2, yX2_readUnit, cX2_readUnit, 5, some .boolean)
theorem ok_LRd_readUnit : mOKv m_LRd_readUnit 2 := ⟨wd_555, wd_14, wd_99, wd_556, by decide, by decide, by decide +kernel⟩
def m_LRd_readClause : mu_M := (RX2, yX2_readClause, cX2_readClause, 3, some .boolean)
theorem ok_LRd_readClause : mOKv m_LRd_readClause 0 := ⟨wd_507, wd_5, wd_99, wd_508, by decide, by decide, by decide +kernel⟩
def m_LRd_firstWrong : mu_M := (RX2, yX2_firstWrong, cX2_firstWrong, 2, some .int)
theorem ok_LRd_firstWrong : mOKv m_LRd_firstWrong 0 := ⟨wd_498, wd_499, wd_99, wd_500, by decide, by decide, by decide +kernel⟩
def m_PRd_addRow : mu_M := (RX5, yX5_addRow, cX5_addRow, 2, some .int)
theorem ok_PRd_addRow : mOKv m_PRd_addRow 1 := ⟨wd_460, wd_3, wd_98, wd_461, by decide, by decide, by decide +kernel⟩
def m_PRd_setAsWithout : mu_M := (RX5, yX5_setAsWithout, cX5_setAsWithout, 5, none)
theorem ok_PRd_setAsWithout : mOKv m_PRd_setAsWithout 2 := ⟨wd_421, wd_0, wd_98, wd_422, by decide, by decide, by decide +kernel⟩
def m_PRd_sortOf : mu_M := (RX5, yX5_sortOf, cX5_sortOf, 1, some .int)
theorem ok_PRd_sortOf : mOKs m_PRd_sortOf 1 := ⟨wd_444, wd_98, wd_445, by decide, by decide, by decide +kernel⟩
def m_PRd_hasRoomFor : mu_M := (RX5, yX5_hasRoomFor, cX5_hasRoomFor, 2, some .boolean)
theorem ok_PRd_hasRoomFor : mOKv m_PRd_hasRoomFor 1 := ⟨wd_448, wd_2, wd_98, wd_449, by decide, by decide, by decide +kernel⟩
def m_PRd_letterOf : mu_M := (RX5, yX5_letterOf, cX5_letterOf, 3, some .int)
theorem ok_PRd_letterOf : mOKs m_PRd_letterOf 2 := ⟨wd_472, wd_98, wd_473, by decide, by decide, by decide +kernel⟩
def m_PRd_readNumber : mu_M := (RX5, yX5_readNumber, cX5_readNumber, 5, some .boolean)
theorem ok_PRd_readNumber : mOKv m_PRd_readNumber 3 := ⟨wd_478, wd_4, wd_98, wd_479, by decide, by decide, by decide +kernel⟩
def m_PRd_readClause : mu_M := (RX5, yX5_readClause, cX5_readClause, 6, some .boolean)
theorem ok_PRd_readClause : mOKv m_PRd_readClause 0 := ⟨wd_433, wd_1, wd_98, wd_434, by decide, by decide, by decide +kernel⟩
def m_PRd_firstWrong : mu_M := (RX5, yX5_firstWrong, cX5_firstWrong, 2, some .int)
theorem ok_PRd_firstWrong : mOKv m_PRd_firstWrong 0 := ⟨wd_412, wd_413, wd_98, wd_414, by decide, by decide, by decide +kernel⟩
def m_PRd_draft : mu_M := (RX5, yX5_draft, cX5_draft, 1, some (.object "OwedDays$Parish"))
theorem ok_PRd_draft : mOKv m_PRd_draft 0 := ⟨wd_574, wd_575, wd_98, wd_576, by decide, by decide, by decide +kernel⟩
theorem c_PRd_draft (X : mu_X) (h : mu_H) : mR X m_PRd_draft 1 [.ref (xa X 6)] h 7 h := by
  have K : aG X m_PRd_draft (rmk 1) (fun _ => ax X) (fun _ _ _ => True) 0 0 (fun r : Nat => qR X r h) (some 7) 0 [(0, .ref (xa X 6))] [] h := by
    refine ro_aload_n (pc := 0) 0 dX5_draft_0 rfl rfl ?_
    refine gf_X5_1 (pc := 1) wd_167 dX5_draft_1 ?_
    exact ro_rret (pc := 4) rfl rfl dX5_draft_4
  exact mR_of (by decide) rfl (Nat.le_of_ble_eq_true rfl) rfl (K 7 rfl)
def m_LRd_draft : mu_M := (RX2, yX2_draft, cX2_draft, 1, some (.object "OwedDays$Law"))
theorem ok_LRd_draft : mOKv m_LRd_draft 0 := ⟨wd_621, wd_622, wd_99, wd_623, by decide, by decide, by decide +kernel⟩
theorem c_LRd_draft (X : mu_X) (h : mu_H) : mR X m_LRd_draft 1 [.ref (xa X 10)] h 11 h := by
  have K : aG X m_LRd_draft (rmk 1) (fun _ => ax X) (fun _ _ _ => True) 0 0 (fun r : Nat => qR X r h) (some 11) 0 [(0, .ref (xa X 10))] [] h := by
    refine ro_aload_n (pc := 0) 0 dX2_draft_0 rfl rfl ?_
    refine gf_X2_1 (pc := 1) wd_202 dX2_draft_1 ?_
    exact ro_rret (pc := 4) rfl rfl dX2_draft_4
  exact mR_of (by decide) rfl (Nat.le_of_ble_eq_true rfl) rfl (K 11 rfl)
def f_LRd_next (N : Nat) (h : mu_H) : Option (Int32 × mu_H) :=
  (f_Tap_pastBlanks N h (h.1 10 2)).bind fun x1 =>
  bn (ui h 10 2 x1) fun h2 =>
  (f_Tap_sign N h2 (h2.1 10 2)).bind fun x3 =>
  some (x3, h2)
def f_LRd_skip (N : Nat) (h : mu_H) (a1 : Int32) : Option (Int32 × mu_H) :=
  bi (f_LRd_next N h) fun x1 h2 =>
  if x1 = a1 then
    bn (ui h2 10 2 ((h2.1 10 2) + 1)) fun h4 =>
    some (1, h4)
  else
    some (0, h2)
def f_LRd_readNumber_L4 (N : Nat) (k1 : (Int32 × mu_H) → Option (Int32 × mu_H)) (rec6 : (Int32 × Int32 × mu_H) → Option (Int32 × mu_H)) : (Int32 × Int32 × mu_H) → Option (Int32 × mu_H) := fun ((x7, x8, h9) : Int32 × Int32 × mu_H) =>
  if 4 ≤ x8 then
    k1 (x7, h9)
  else
    (f_Tap_isDigit N h9 (h9.1 10 2)).bind fun x10 =>
    if x10 = 0 then
      k1 (x7, h9)
    else
      (f_Tap_sign N h9 (h9.1 10 2)).bind fun x11 =>
      bn (((x7 * 10) + x11) - 48) fun x12 =>
      bn (ui h9 10 2 ((h9.1 10 2) + 1)) fun h13 =>
      rec6 (x12, x8 + 1, h13)
def f_LRd_readNumber (N : Nat) (h : mu_H) : Option (Int32 × mu_H) :=
  jn (fun ((x2, h3) : Int32 × mu_H) =>
    (f_Law_add N h3 11 x2).bind fun h4 =>
    (f_Tap_isDigit N h4 (h4.1 10 2)).bind fun x5 =>
    if x5 = 0 then
      some (1, h4)
    else
      some (0, h4)) fun k1 =>
  lp (f_LRd_readNumber_L4 N k1) N (0, 0, h)
def f_LRd_readAtom_L75 (x1 : Int32) (h2 : mu_H) (k5 : Int32 → Option (Int32 × mu_H)) (rec9 : Int32 → Option (Int32 × mu_H)) : Int32 → Option (Int32 × mu_H) := fun (x10 : Int32) =>
  if 6 ≤ x10 then
    some (0, h2)
  else
    gd (ix x10 6) <|
    if sv_5.getD x10.toNatClampNeg 0 = x1 then
      k5 x10
    else
      rec9 (x10 + 1)
def f_LRd_readAtom_B (N : Nat) (rf : mu_H → Int32 → Option (Int32 × mu_H)) (h : mu_H) (a1 : Int32) : Option (Int32 × mu_H) :=
  bi (f_LRd_next N h) fun x1 h2 =>
  if x1 = 91 then
    if a1 < 6 then
      bn (ui h2 10 2 ((h2.1 10 2) + 1)) fun h14 =>
      bi (rf h14 (a1 + 1)) fun x15 h16 =>
      if x15 = 0 then
        some (0, h16)
      else
        bi (f_LRd_skip N h16 93) fun x18 h19 =>
        if x18 = 0 then
          some (0, h19)
        else
          some (1, h19)
    else
      some (0, h2)
  else
    (f_Tap_isDigit N h2 (h2.1 10 2)).bind fun x4 =>
    if x4 = 0 then
      jn (fun (x6 : Int32) =>
        bn (ui h2 10 2 ((h2.1 10 2) + 1)) fun h7 =>
        (f_Law_add N h7 11 ((-1) - x6)).bind fun h8 =>
        some (1, h8)) fun k5 =>
      lp (f_LRd_readAtom_L75 x1 h2 k5) N 0
    else
      bi (f_LRd_readNumber N h2) fun x11 h12 =>
      gd (zb x11) (some (x11, h12))
def f_LRd_readTerm_L12 (N : Nat) (rf : mu_H → Int32 → Option (Int32 × mu_H)) (a1 : Int32) (rec4 : (Int32 × mu_H) → Option (Int32 × mu_H)) : (Int32 × mu_H) → Option (Int32 × mu_H) := fun ((x5, h6) : Int32 × mu_H) =>
  if 240 ≤ x5 then
    some (1, h6)
  else
    bi (f_LRd_next N h6) fun x7 h8 =>
    jn (fun (h11 : mu_H) =>
      bi (f_LRd_next N h11) fun x12 h13 =>
      bn (ui h13 10 2 ((h13.1 10 2) + 1)) fun h15 =>
      bi (f_LRd_readAtom_B N rf h15 a1) fun x16 h17 =>
      if x16 = 0 then
        some (0, h17)
      else
        (f_Law_add N h17 11 (-x12)).bind fun h19 =>
        rec4 (x5 + 1, h19)) fun j10 =>
    if x7 = 42 then
      j10 h8
    else
      bi (f_LRd_next N h8) fun x20 h21 =>
      if x20 = 47 then
        j10 h21
      else
        some (1, h21)
def f_LRd_readTerm_B (N : Nat) (rf : mu_H → Int32 → Option (Int32 × mu_H)) (h : mu_H) (a1 : Int32) : Option (Int32 × mu_H) :=
  bi (f_LRd_readAtom_B N rf h a1) fun x1 h2 =>
  if x1 = 0 then
    some (0, h2)
  else
    lp (f_LRd_readTerm_L12 N rf a1) N (0, h2)
def f_LRd_readSum_L12 (N : Nat) (rf : mu_H → Int32 → Option (Int32 × mu_H)) (a1 : Int32) (rec4 : (Int32 × mu_H) → Option (Int32 × mu_H)) : (Int32 × mu_H) → Option (Int32 × mu_H) := fun ((x5, h6) : Int32 × mu_H) =>
  if 240 ≤ x5 then
    some (1, h6)
  else
    bi (f_LRd_next N h6) fun x7 h8 =>
    jn (fun (h11 : mu_H) =>
      bi (f_LRd_next N h11) fun x12 h13 =>
      bn (ui h13 10 2 ((h13.1 10 2) + 1)) fun h15 =>
      bi (f_LRd_readTerm_B N rf h15 a1) fun x16 h17 =>
      if x16 = 0 then
        some (0, h17)
      else
        (f_Law_add N h17 11 (-x12)).bind fun h19 =>
        rec4 (x5 + 1, h19)) fun j10 =>
    if x7 = 43 then
      j10 h8
    else
      bi (f_LRd_next N h8) fun x20 h21 =>
      if x20 = 45 then
        j10 h21
      else
        some (1, h21)
def f_LRd_readSum_B (N : Nat) (rf : mu_H → Int32 → Option (Int32 × mu_H)) (h : mu_H) (a1 : Int32) : Option (Int32 × mu_H) :=
  bi (f_LRd_readTerm_B N rf h a1) fun x1 h2 =>
  if x1 = 0 then
    some (0, h2)
  else
    lp (f_LRd_readSum_L12 N rf a1) N (0, h2)
def f_LRd_readSum_R (N : Nat) : ((mu_H × Int32) → Option (Int32 × mu_H)) → (mu_H × Int32) → Option (Int32 × mu_H) := fun (rf : (mu_H × Int32) → Option (Int32 × mu_H)) (s : mu_H × Int32) => f_LRd_readSum_B N (fun h a1 => rf (h, a1)) s.1 s.2
def f_LRd_readSum (N : Nat) (h : mu_H) (a1 : Int32) : Option (Int32 × mu_H) := lp (f_LRd_readSum_R N) 10 (h, a1)
def f_LRd_readAtom (N : Nat) (h : mu_H) (a1 : Int32) : Option (Int32 × mu_H) := f_LRd_readAtom_B N (f_LRd_readSum N) h a1
def f_LRd_readTerm (N : Nat) (h : mu_H) (a1 : Int32) : Option (Int32 × mu_H) := f_LRd_readTerm_B N (f_LRd_readSum N) h a1
def f_LRd_isComparison (N : Nat) (h : mu_H) (a0 : Int32) : Option Int32 :=
  if a0 = 61 then
    some 1
  else
    if a0 = 60 then
      some 1
    else
      if a0 = 62 then
        some 1
      else
        some 0
def f_LRd_readTruth_L13 (N : Nat) (rf : mu_H → Int32 → Int32 → Option (Int32 × mu_H)) (a1 : Int32) (rec4 : (Int32 × mu_H) → Option (Int32 × mu_H)) : (Int32 × mu_H) → Option (Int32 × mu_H) := fun ((x5, h6) : Int32 × mu_H) =>
  if 240 ≤ x5 then
    some (1, h6)
  else
    bi (f_LRd_next N h6) fun x7 h8 =>
    if x7 = 38 then
      bn (ui h8 10 2 ((h8.1 10 2) + 1)) fun h10 =>
      bi (rf h10 a1 0) fun x11 h12 =>
      if x11 = 0 then
        some (0, h12)
      else
        (f_Law_add N h12 11 (-38)).bind fun h14 =>
        rec4 (x5 + 1, h14)
    else
      some (1, h8)
def f_LRd_readTruth_B (N : Nat) (rf : mu_H → Int32 → Int32 → Option (Int32 × mu_H)) (h : mu_H) (a1 : Int32) (a2 : Int32) : Option (Int32 × mu_H) :=
  bi (rf h a1 a2) fun x1 h2 =>
  if x1 = 0 then
    some (0, h2)
  else
    lp (f_LRd_readTruth_L13 N rf a1) N (0, h2)
def f_LRd_readCondition_L13 (N : Nat) (rf : mu_H → Int32 → Int32 → Option (Int32 × mu_H)) (a1 : Int32) (rec4 : (Int32 × mu_H) → Option (Int32 × mu_H)) : (Int32 × mu_H) → Option (Int32 × mu_H) := fun ((x5, h6) : Int32 × mu_H) =>
  if 240 ≤ x5 then
    some (1, h6)
  else
    bi (f_LRd_next N h6) fun x7 h8 =>
    if x7 = 124 then
      bn (ui h8 10 2 ((h8.1 10 2) + 1)) fun h10 =>
      bi (f_LRd_readTruth_B N rf h10 a1 0) fun x11 h12 =>
      if x11 = 0 then
        some (0, h12)
      else
        (f_Law_add N h12 11 (-124)).bind fun h14 =>
        rec4 (x5 + 1, h14)
    else
      some (1, h8)
def f_LRd_readCondition_B (N : Nat) (rf : mu_H → Int32 → Int32 → Option (Int32 × mu_H)) (h : mu_H) (a1 : Int32) (a2 : Int32) : Option (Int32 × mu_H) :=
  bi (f_LRd_readTruth_B N rf h a1 a2) fun x1 h2 =>
  if x1 = 0 then
    some (0, h2)
  else
    lp (f_LRd_readCondition_L13 N rf a1) N (0, h2)
def f_LRd_readUnit_B (N : Nat) (rf : mu_H → Int32 → Int32 → Option (Int32 × mu_H)) (h : mu_H) (a1 : Int32) (a2 : Int32) : Option (Int32 × mu_H) :=
  bi (f_LRd_next N h) fun x1 h2 =>
  jn (fun (_ : Unit) =>
    jn (fun (h6 : mu_H) =>
      bi (f_LRd_next N h6) fun x7 h8 =>
      (f_LRd_isComparison N h8 x7).bind fun x10 =>
      if x10 = 0 then
        some (0, h8)
      else
        bn (ui h8 10 2 ((h8.1 10 2) + 1)) fun h11 =>
        bi (f_LRd_readSum N h11 a1) fun x12 h13 =>
        if x12 = 0 then
          some (0, h13)
        else
          (f_Law_add N h13 11 (-x7)).bind fun h15 =>
          some (1, h15)) fun j5 =>
    if a2 = 0 then
      bi (f_LRd_readSum N h2 a1) fun x16 h17 =>
      if x16 = 0 then
        some (0, h17)
      else
        j5 h17
    else
      j5 h2) fun j4 =>
  if a2 = 0 then
    jn (fun (_ : Unit) =>
      if a1 < 6 then
        bn (ui h2 10 2 ((h2.1 10 2) + 1)) fun h20 =>
        if x1 = 40 then
          bi (f_LRd_readCondition_B N rf h20 (a1 + 1) 0) fun x25 h26 =>
          if x25 = 0 then
            some (0, h26)
          else
            bi (f_LRd_skip N h26 41) fun x28 h29 =>
            if x28 = 0 then
              some (0, h29)
            else
              some (1, h29)
        else
          bi (rf h20 (a1 + 1) 0) fun x21 h22 =>
          if x21 = 0 then
            some (0, h22)
          else
            (f_Law_add N h22 11 (-33)).bind fun h24 =>
            some (1, h24)
      else
        some (0, h2)) fun j19 =>
    if x1 = 33 then
      j19 ()
    else
      if x1 = 40 then
        j19 ()
      else
        j4 ()
  else
    j4 ()
def f_LRd_readUnit_R (N : Nat) : ((mu_H × Int32 × Int32) → Option (Int32 × mu_H)) → (mu_H × Int32 × Int32) → Option (Int32 × mu_H) := fun (rf : (mu_H × Int32 × Int32) → Option (Int32 × mu_H)) (s : mu_H × Int32 × Int32) => f_LRd_readUnit_B N (fun h a1 a2 => rf (h, a1, a2)) s.1 s.2.1 s.2.2
def f_LRd_readUnit (N : Nat) (h : mu_H) (a1 : Int32) (a2 : Int32) : Option (Int32 × mu_H) := lp (f_LRd_readUnit_R N) 10 (h, a1, a2)
def f_LRd_readTruth (N : Nat) (h : mu_H) (a1 : Int32) (a2 : Int32) : Option (Int32 × mu_H) := f_LRd_readTruth_B N (f_LRd_readUnit N) h a1 a2
def f_LRd_readCondition (N : Nat) (h : mu_H) (a1 : Int32) (a2 : Int32) : Option (Int32 × mu_H) := f_LRd_readCondition_B N (f_LRd_readUnit N) h a1 a2
def f_LRd_readClause (N : Nat) (h : mu_H) : Option (Int32 × mu_H) :=
  bi (f_LRd_skip N h 121) fun x1 h2 =>
  if x1 = 0 then
    some (0, h2)
  else
    bi (f_LRd_skip N h2 58) fun x4 h5 =>
    if x4 = 0 then
      some (0, h5)
    else
      bi (f_LRd_next N h5) fun x7 h8 =>
      jn (fun ((x11, h12) : Int32 × mu_H) =>
        jn (fun (h14 : mu_H) =>
          jn (fun (h16 : mu_H) =>
            bi (f_LRd_readCondition N h16 0 x11) fun x17 h18 =>
            if x17 = 0 then
              some (0, h18)
            else
              bi (f_LRd_skip N h18 63) fun x20 h21 =>
              if x20 = 0 then
                some (0, h21)
              else
                (f_Law_size N h21 11).bind fun x23 =>
                (f_Law_add N h21 11 (-1000)).bind fun h24 =>
                bi (f_LRd_readSum N h24 0) fun x25 h26 =>
                if x25 = 0 then
                  some (0, h26)
                else
                  (f_Law_add N h26 11 (-59)).bind fun h28 =>
                  (f_Law_leapFrom N h28 11 x23).bind fun h29 =>
                  some (1, h29)) fun j15 =>
          if x11 = 0 then
            j15 h14
          else
            bi (f_LRd_next N h14) fun x30 h31 =>
            (f_LRd_isComparison N h31 x30).bind fun x33 =>
            if x33 = 0 then
              (f_Law_add N h31 11 (-59)).bind fun h34 =>
              some (1, h34)
            else
              j15 h31) fun j13 =>
        if x11 = 0 then
          j13 h12
        else
          bi (f_LRd_readSum N h12 0) fun x35 h36 =>
          if x35 = 0 then
            some (0, h36)
          else
            j13 h36) fun j10 =>
      jn (fun (h39 : mu_H) =>
        j10 (0, h39)) fun j38 =>
      if x7 = 33 then
        j38 h8
      else
        bi (f_LRd_next N h8) fun x40 h41 =>
        if x40 = 40 then
          j38 h41
        else
          j10 (1, h41)
def f_LRd_firstWrong_L14 (N : Nat) (k3 : mu_H → Option (Int32 × mu_H)) (k5 : mu_H → Option (Int32 × mu_H)) (k7 : mu_H → Option (Int32 × mu_H)) (rec9 : (Int32 × mu_H) → Option (Int32 × mu_H)) : (Int32 × mu_H) → Option (Int32 × mu_H) := fun ((x10, h11) : Int32 × mu_H) =>
  if 240 < x10 then
    k7 h11
  else
    bi (f_LRd_readClause N h11) fun x12 h13 =>
    if x12 = 0 then
      k3 h13
    else
      bi (f_LRd_next N h13) fun x15 h16 =>
      if x15 = 0 then
        some ((-1), h16)
      else
        bi (f_LRd_skip N h16 59) fun x18 h19 =>
        if x18 = 0 then
          k5 h19
        else
          rec9 (x10 + 1, h19)
def f_LRd_firstWrong (N : Nat) (h : mu_H) : Option (Int32 × mu_H) :=
  bn (ui h 10 2 0) fun h1 =>
  (f_Law_empty N h1 11).bind fun h2 =>
  jn (fun (h4 : mu_H) =>
    some (h4.1 10 2, h4)) fun k3 =>
  jn (fun (h6 : mu_H) =>
    some (h6.1 10 2, h6)) fun k5 =>
  jn (fun (h8 : mu_H) =>
    some (h8.1 10 2, h8)) fun k7 =>
  lp (f_LRd_firstWrong_L14 N k3 k5 k7) N (0, h2)
def f_PRd_addRow (N : Nat) (h : mu_H) (a1 : Int32) : Option (Int32 × mu_H) :=
  if a1 = 0 then
    bn (ui h 6 2 1) fun h7 =>
    some (0, h7)
  else
    if a1 = 1 then
      bi (f_Par_addStretch N h 7) fun x4 h5 =>
      some (x4, h5)
    else
      bi (f_Par_addHouse N h 7) fun x1 h2 =>
      some (x1, h2)
def f_PRd_setAsWithout_L9 (N : Nat) (a1 : Int32) (a2 : Int32) (x1 : Int32) (rec2 : (Int32 × mu_H) → Option mu_H) : (Int32 × mu_H) → Option mu_H := fun ((x3, h4) : Int32 × mu_H) =>
  gd (ix (a1 + 1) 4) <|
  if sv_0.getD (a1 + 1).toNatClampNeg 0 ≤ x3 then
    some h4
  else
    gd (ix x3 11) <|
    (f_Par_set N h4 7 a2 (x3 - x1) (sv_1.getD x3.toNatClampNeg 0)).bind fun h5 =>
    rec2 (x3 + 1, h5)
def f_PRd_setAsWithout (N : Nat) (h : mu_H) (a1 : Int32) (a2 : Int32) : Option mu_H :=
  gd (ix a1 4) <|
  bn (sv_0.getD a1.toNatClampNeg 0) fun x1 =>
  lp (f_PRd_setAsWithout_L9 N a1 a2 x1) N (x1, h)
def f_PRd_sortOf (N : Nat) (h : mu_H) (a0 : Int32) : Option Int32 :=
  if a0 = 115 then
    some 0
  else
    if a0 = 114 then
      some 1
    else
      if a0 = 104 then
        some 2
      else
        some (-1)
def f_PRd_hasRoomFor (N : Nat) (h : mu_H) (a1 : Int32) : Option Int32 :=
  if a1 = 0 then
    if h.1 6 2 = 0 then
      some 1
    else
      some 0
  else
    if a1 = 1 then
      (f_Par_stretches N h 7).bind fun x2 =>
      if 9 ≤ x2 then
        some 0
      else
        some 1
    else
      (f_Par_houses N h 7).bind fun x1 =>
      if 6 ≤ x1 then
        some 0
      else
        some 1
def f_PRd_letterOf_L6 (a0 : Int32) (a1 : Int32) (rec2 : Int32 → Option Int32) : Int32 → Option Int32 := fun (x3 : Int32) =>
  gd (ix (a0 + 1) 4) <|
  if sv_0.getD (a0 + 1).toNatClampNeg 0 ≤ x3 then
    some (-1)
  else
    gd (ix x3 11) <|
    if sv_2.getD x3.toNatClampNeg 0 = a1 then
      some x3
    else
      rec2 (x3 + 1)
def f_PRd_letterOf (N : Nat) (h : mu_H) (a0 : Int32) (a1 : Int32) : Option Int32 :=
  gd (ix a0 4) <|
  bn (sv_0.getD a0.toNatClampNeg 0) fun x1 =>
  lp (f_PRd_letterOf_L6 a0 a1) N x1
def f_PRd_readNumber (N : Nat) (h : mu_H) (a1 : Int32) (a2 : Int32) (a3 : Int32) : Option (Int32 × mu_H) :=
  (f_Tap_isDigit N h (h.1 6 3)).bind fun x1 =>
  if x1 = 0 then
    some (0, h)
  else
    (f_Tap_sign N h (h.1 6 3)).bind fun x2 =>
    bn (x2 - 48) fun x3 =>
    bn (ui h 6 3 ((h.1 6 3) + 1)) fun h4 =>
    (f_Tap_isDigit N h4 (h4.1 6 3)).bind fun x5 =>
    jn (fun ((x7, h8) : Int32 × mu_H) =>
      (f_Tap_isDigit N h8 (h8.1 6 3)).bind fun x9 =>
      if x9 = 0 then
        gd (ix a1 11) <|
        jn (fun (_ : Unit) =>
          bn (ui h8 6 3 ((h8.1 6 3) - 1)) fun h11 =>
          some (0, h11)) fun j10 =>
        if x7 < sv_3.getD a1.toNatClampNeg 0 then
          j10 ()
        else
          gd (ix a1 11) <|
          if x7 ≤ sv_4.getD a1.toNatClampNeg 0 then
            (f_Par_set N h8 7 a2 a3 x7).bind fun h12 =>
            some (1, h12)
          else
            j10 ()
      else
        some (0, h8)) fun j6 =>
    if x5 = 0 then
      j6 (x3, h4)
    else
      (f_Tap_sign N h4 (h4.1 6 3)).bind fun x13 =>
      bn (((x3 * 10) + x13) - 48) fun x14 =>
      bn (ui h4 6 3 ((h4.1 6 3) + 1)) fun h15 =>
      j6 (x14, h15)
def f_PRd_readClause_L72 (N : Nat) (x4 : Int32) (x7 : Int32) (rec11 : (Int32 × Int32 × mu_H) → Option (Int32 × mu_H)) : (Int32 × Int32 × mu_H) → Option (Int32 × mu_H) := fun ((x12, x13, h14) : Int32 × Int32 × mu_H) =>
  if 240 < x13 then
    some (0, h14)
  else
    (f_Tap_pastBlanks N h14 (h14.1 6 3)).bind fun x15 =>
    bn (ui h14 6 3 x15) fun h16 =>
    (f_Tap_size N h16).bind fun x17 =>
    if x17 ≤ h16.1 6 3 then
      some (1, h16)
    else
      (f_Tap_sign N h16 (h16.1 6 3)).bind fun x18 =>
      if x18 = 59 then
        some (1, h16)
      else
        (f_Tap_sign N h16 (h16.1 6 3)).bind fun x19 =>
        (f_PRd_letterOf N h16 x4 x19).bind fun x20 =>
        if x20 = (-1) then
          some (0, h16)
        else
          if (x12 >>> (x20 &&& 31)) &&& 1 = 0 then
            bn (x12 ||| ((1 : Int32) <<< (x20 &&& 31))) fun x21 =>
            (f_Tap_pastBlanks N h16 ((h16.1 6 3) + 1)).bind fun x22 =>
            bn (ui h16 6 3 x22) fun h23 =>
            gd (ix x4 4) <|
            bi (f_PRd_readNumber N h23 x20 x7 (x20 - (sv_0.getD x4.toNatClampNeg 0))) fun x24 h25 =>
            if x24 = 0 then
              some (0, h25)
            else
              rec11 (x21, x13 + 1, h25)
          else
            some (0, h16)
def f_PRd_readClause (N : Nat) (h : mu_H) : Option (Int32 × mu_H) :=
  (f_Tap_pastBlanks N h (h.1 6 3)).bind fun x1 =>
  bn (ui h 6 3 x1) fun h2 =>
  (f_Tap_sign N h2 (h2.1 6 3)).bind fun x3 =>
  (f_PRd_sortOf N h2 x3).bind fun x4 =>
  if x4 = (-1) then
    some (0, h2)
  else
    (f_PRd_hasRoomFor N h2 x4).bind fun x5 =>
    if x5 = 0 then
      some (0, h2)
    else
      bn (ui h2 6 3 ((h2.1 6 3) + 1)) fun h6 =>
      bi (f_PRd_addRow N h6 x4) fun x7 h8 =>
      (f_PRd_setAsWithout N h8 x4 x7).bind fun h10 =>
      lp (f_PRd_readClause_L72 N x4 x7) N (0, 0, h10)
def f_PRd_firstWrong_L25 (N : Nat) (k5 : mu_H → Option (Int32 × mu_H)) (k7 : mu_H → Option (Int32 × mu_H)) (k16 : mu_H → Option (Int32 × mu_H)) (rec18 : (Int32 × mu_H) → Option (Int32 × mu_H)) : (Int32 × mu_H) → Option (Int32 × mu_H) := fun ((x19, h20) : Int32 × mu_H) =>
  if 240 < x19 then
    k7 h20
  else
    bi (f_PRd_readClause N h20) fun x21 h22 =>
    if x21 = 0 then
      k5 h22
    else
      (f_Tap_size N h22).bind fun x24 =>
      if h22.1 6 3 < x24 then
        bn (ui h22 6 3 ((h22.1 6 3) + 1)) fun h25 =>
        rec18 (x19 + 1, h25)
      else
        k16 h22
def f_PRd_firstWrong (N : Nat) (h : mu_H) : Option (Int32 × mu_H) :=
  bn (ui h 6 3 0) fun h1 =>
  bn (ui h1 6 2 0) fun h2 =>
  (f_Par_empty N h2 7).bind fun h3 =>
  (f_PRd_setAsWithout N h3 0 0).bind fun h4 =>
  jn (fun (h6 : mu_H) =>
    some (h6.1 6 3, h6)) fun k5 =>
  jn (fun (h8 : mu_H) =>
    (f_Par_stretches N h8 7).bind fun x9 =>
    jn (fun (x11 : Int32) =>
      if x11 = 0 then
        (f_Tap_size N h8).bind fun x12 =>
        some (x12, h8)
      else
        some ((-1), h8)) fun j10 =>
    jn (fun (_ : Unit) =>
      j10 0) fun j13 =>
    if x9 ≤ 0 then
      j13 ()
    else
      (f_Par_houses N h8 7).bind fun x14 =>
      if x14 ≤ 0 then
        j13 ()
      else
        (f_Par_hasLoop N h8 7).bind fun x15 =>
        if x15 = 0 then
          j10 1
        else
          j13 ()) fun k7 =>
  jn (fun (h17 : mu_H) =>
    k7 h17) fun k16 =>
  lp (f_PRd_firstWrong_L25 N k5 k7 k16) N (0, h4)
set_option maxRecDepth 20000 in
theorem cb_LRd_next (X : mu_X) (N : Nat) (h : mu_H) : aG X m_LRd_next (rmk 2) (fun _ => ax X) (fun _ _ _ => True) 0 0 (fun r : Int32 × mu_H => qI X r.1 r.2) (f_LRd_next N h) 0 [(0, .ref (xa X 10))] [] h := by
  unfold f_LRd_next
  refine ro_aload_n (pc := 0) 0 dX2_next_0 rfl rfl ?_
  refine ro_aload_n (pc := 1) 0 dX2_next_1 rfl rfl ?_
  refine gf_X2_0 (pc := 2) wd_201 dX2_next_2 ?_
  refine ro_aload_n (pc := 5) 0 dX2_next_5 rfl rfl ?_
  refine gf_X2_2 (pc := 6) wd_203 dX2_next_6 ?_
  refine ro_cvP (pc := 9) (kc := 1) (avs := [.int (h.1 10 2)]) (st := [.ref (xa X 10)]) ok_Tap_pastBlanks wd_517 cl_1 cv_1 rfl ⟨by decide, by decide⟩ ⟨Nat.zero_le _, Nat.zero_le _⟩ (c_Tap_pastBlanks X N h (h.1 10 2)) rfl rfl (Nat.le_of_ble_eq_true rfl) dX2_next_9 (fun x1 => ?_)
  refine pf_X2_2 (pc := 12) wd_203 dX2_next_12 ?_
  refine ro_bnh (fun h2 => ?_)
  refine ro_aload_n (pc := 15) 0 dX2_next_15 rfl rfl ?_
  refine gf_X2_0 (pc := 16) wd_201 dX2_next_16 ?_
  refine ro_aload_n (pc := 19) 0 dX2_next_19 rfl rfl ?_
  refine gf_X2_2 (pc := 20) wd_203 dX2_next_20 ?_
  refine ro_cvP (pc := 23) (kc := 1) (avs := [.int (h2.1 10 2)]) (st := []) ok_Tap_sign wd_518 cl_1 cv_1 rfl ⟨by decide, by decide⟩ ⟨Nat.zero_le _, Nat.zero_le _⟩ (c_Tap_sign X N h2 (h2.1 10 2)) rfl rfl (Nat.le_of_ble_eq_true rfl) dX2_next_23 (fun x3 => ?_)
  exact ro_iret (pc := 26) rfl rfl dX2_next_26
theorem c_LRd_next (X : mu_X) (N : Nat) (h : mu_H) : ∀ r, f_LRd_next N h = some r → mI X m_LRd_next 2 [.ref (xa X 10)] h r.1 r.2 := fun r hr => mI_of (by decide) rfl (Nat.le_of_ble_eq_true rfl) rfl (cb_LRd_next X N h r hr)
set_option maxRecDepth 20000 in
theorem cb_LRd_skip (X : mu_X) (N : Nat) (h : mu_H) (a1 : Int32) : aG X m_LRd_skip (rmk 3) (fun _ => ax X) (fun _ _ _ => True) 0 0 (fun r : Int32 × mu_H => qI X r.1 r.2) (f_LRd_skip N h a1) 0 [(0, .ref (xa X 10)), (1, .int a1)] [] h := by
  unfold f_LRd_skip
  refine ro_aload_n (pc := 0) 0 dX2_skip_0 rfl rfl ?_
  refine ro_cvI (pc := 1) (kc := 2) (avs := []) (st := []) ok_LRd_next wd_513 cl_10 cv_10 rfl ⟨by decide, by decide⟩ ⟨Nat.zero_le _, Nat.zero_le _⟩ (c_LRd_next X N h) rfl rfl (Nat.le_of_ble_eq_true rfl) dX2_skip_1 (fun x1 h2 => ?_)
  refine ro_iload_n (pc := 4) 1 dX2_skip_4 rfl rfl ?_
  refine ro_icmp_eq (tgt := 10) (pc := 5) dX2_skip_5 (by decide) (fun _ => ?_) (fun _ => ?_)
  · skip
    refine ro_aload_n (pc := 10) 0 dX2_skip_10 rfl rfl ?_
    refine ro_dup (pc := 11) dX2_skip_11 rfl ?_
    refine gf_X2_2 (pc := 12) wd_203 dX2_skip_12 ?_
    refine ro_iconst (v := 1) (pc := 15) dX2_skip_15 (by decide) ?_
    refine ro_iadd (pc := 16) dX2_skip_16 ?_
    refine pf_X2_2 (pc := 17) wd_203 dX2_skip_17 ?_
    refine ro_bnh (fun h4 => ?_)
    refine ro_iconst (v := 1) (pc := 20) dX2_skip_20 (by decide) ?_
    exact ro_zret (pc := 21) rfl rfl rfl dX2_skip_21
  · skip
    refine ro_iconst (v := 0) (pc := 8) dX2_skip_8 (by decide) ?_
    exact ro_zret (pc := 9) rfl rfl rfl dX2_skip_9
theorem c_LRd_skip (X : mu_X) (N : Nat) (h : mu_H) (a1 : Int32) : ∀ r, f_LRd_skip N h a1 = some r → mI X m_LRd_skip 3 [.ref (xa X 10), .int a1] h r.1 r.2 := fun r hr => mI_of (by decide) rfl (Nat.le_of_ble_eq_true rfl) rfl (cb_LRd_skip X N h a1 r hr)
set_option maxRecDepth 20000 in
theorem cb_LRd_readNumber (X : mu_X) (N : Nat) (h : mu_H) : aG X m_LRd_readNumber (rmk 3) (fun _ => ax X) (fun _ _ _ => True) 0 0 (fun r : Int32 × mu_H => qI X r.1 r.2) (f_LRd_readNumber N h) 0 [(0, .ref (xa X 10))] [] h := by
  unfold f_LRd_readNumber
  refine ro_iconst (v := 0) (pc := 0) dX2_readNumber_0 (by decide) ?_
  refine ro_istore_n (pc := 1) (lv' := [(1, .int 0), (0, .ref (xa X 10))]) dX2_readNumber_1 rfl (by decide) rfl ?_
  refine ro_iconst (v := 0) (pc := 2) dX2_readNumber_2 (by decide) ?_
  refine ro_istore_n (pc := 3) (lv' := [(2, .int 0), (1, .int 0), (0, .ref (xa X 10))]) dX2_readNumber_3 rfl (by decide) rfl ?_
  refine ro_jn (pcj := 59) (lvs := fun (s : Int32 × mu_H) => [(0, .ref (xa X 10)), (1, .int s.1)]) (hs := fun (s : Int32 × mu_H) => s.2) (sts := fun (s : Int32 × mu_H) => []) (fun s => ?_) (fun k1 hk1 => ?_)
  · obtain ⟨x2, h3⟩ := s; try dsimp only
    refine ro_aload_n (pc := 59) 0 dX2_readNumber_59 rfl rfl ?_
    refine gf_X2_1 (pc := 60) wd_202 dX2_readNumber_60 ?_
    refine ro_iload_n (pc := 63) 1 dX2_readNumber_63 rfl rfl ?_
    refine ro_cvV (pc := 64) (kc := 1) (avs := [.int x2]) (st := []) ok_Law_add wd_536 cl_11 cv_11 rfl ⟨by decide, by decide⟩ ⟨Nat.zero_le _, Nat.zero_le _⟩ (c_Law_add X N h3 11 isL_i11 x2) rfl rfl (Nat.le_of_ble_eq_true rfl) dX2_readNumber_64 (fun h4 => ?_)
    refine ro_aload_n (pc := 67) 0 dX2_readNumber_67 rfl rfl ?_
    refine gf_X2_0 (pc := 68) wd_201 dX2_readNumber_68 ?_
    refine ro_aload_n (pc := 71) 0 dX2_readNumber_71 rfl rfl ?_
    refine gf_X2_2 (pc := 72) wd_203 dX2_readNumber_72 ?_
    refine ro_cvP (pc := 75) (kc := 2) (avs := [.int (h4.1 10 2)]) (st := []) ok_Tap_isDigit wd_531 cl_1 cv_1 rfl ⟨by decide, by decide⟩ ⟨Nat.zero_le _, Nat.zero_le _⟩ (c_Tap_isDigit X N h4 (h4.1 10 2)) rfl rfl (Nat.le_of_ble_eq_true rfl) dX2_readNumber_75 (fun x5 => ?_)
    refine ro_if_ne (tgt := 85) (pc := 78) dX2_readNumber_78 (by decide) (fun _ => ?_) (fun _ => ?_)
    · skip
      refine ro_iconst (v := 0) (pc := 85) dX2_readNumber_85 (by decide) ?_
      exact ro_zret (pc := 86) rfl rfl rfl dX2_readNumber_86
    · skip
      refine ro_iconst (v := 1) (pc := 81) dX2_readNumber_81 (by decide) ?_
      refine ro_goto (tgt := 86) (pc := 82) dX2_readNumber_82 (by decide) ?_
      exact ro_zret (pc := 86) rfl rfl rfl dX2_readNumber_86
  · skip
    refine ro_lv [2, 1, 0] rfl ?_
    refine ro_lp (pc := 4) (lvs := fun (s : Int32 × Int32 × mu_H) => [(0, .ref (xa X 10)), (1, .int s.1), (2, .int s.2.1)]) (hs := fun (s : Int32 × Int32 × mu_H) => s.2.2) (fun rec6 hrec6 s => ?_) N (0, 0, h)
    obtain ⟨x7, x8, h9⟩ := s; unfold f_LRd_readNumber_L4; try dsimp only
    refine ro_iload_n (pc := 4) 2 dX2_readNumber_4 rfl rfl ?_
    refine ro_iconst (v := 4) (pc := 5) dX2_readNumber_5 (by decide) ?_
    refine ro_icmp_ge (tgt := 59) (pc := 6) dX2_readNumber_6 (by decide) (fun _ => ?_) (fun _ => ?_)
    · skip
      refine ro_lv [0, 1] rfl ?_
      exact hk1 (x7, h9)
    · skip
      refine ro_aload_n (pc := 9) 0 dX2_readNumber_9 rfl rfl ?_
      refine gf_X2_0 (pc := 10) wd_201 dX2_readNumber_10 ?_
      refine ro_aload_n (pc := 13) 0 dX2_readNumber_13 rfl rfl ?_
      refine gf_X2_2 (pc := 14) wd_203 dX2_readNumber_14 ?_
      refine ro_cvP (pc := 17) (kc := 2) (avs := [.int (h9.1 10 2)]) (st := []) ok_Tap_isDigit wd_531 cl_1 cv_1 rfl ⟨by decide, by decide⟩ ⟨Nat.zero_le _, Nat.zero_le _⟩ (c_Tap_isDigit X N h9 (h9.1 10 2)) rfl rfl (Nat.le_of_ble_eq_true rfl) dX2_readNumber_17 (fun x10 => ?_)
      refine ro_if_eq (tgt := 59) (pc := 20) dX2_readNumber_20 (by decide) (fun _ => ?_) (fun _ => ?_)
      · skip
        refine ro_lv [0, 1] rfl ?_
        exact hk1 (x7, h9)
      · skip
        refine ro_iload_n (pc := 23) 1 dX2_readNumber_23 rfl rfl ?_
        refine ro_bipush (v := 10) (pc := 24) dX2_readNumber_24 (by decide) ?_
        refine ro_imul (pc := 26) dX2_readNumber_26 ?_
        refine ro_aload_n (pc := 27) 0 dX2_readNumber_27 rfl rfl ?_
        refine gf_X2_0 (pc := 28) wd_201 dX2_readNumber_28 ?_
        refine ro_aload_n (pc := 31) 0 dX2_readNumber_31 rfl rfl ?_
        refine gf_X2_2 (pc := 32) wd_203 dX2_readNumber_32 ?_
        refine ro_cvP (pc := 35) (kc := 1) (avs := [.int (h9.1 10 2)]) (st := [.int (x7 * 10)]) ok_Tap_sign wd_518 cl_1 cv_1 rfl ⟨by decide, by decide⟩ ⟨Nat.zero_le _, Nat.zero_le _⟩ (c_Tap_sign X N h9 (h9.1 10 2)) rfl rfl (Nat.le_of_ble_eq_true rfl) dX2_readNumber_35 (fun x11 => ?_)
        refine ro_iadd (pc := 38) dX2_readNumber_38 ?_
        refine ro_bipush (v := 48) (pc := 39) dX2_readNumber_39 (by decide) ?_
        refine ro_isub (pc := 41) dX2_readNumber_41 ?_
        refine ro_bn (fun x12 => ?_)
        refine ro_istore_n (pc := 42) (lv' := [(1, .int x12), (0, .ref (xa X 10)), (2, .int x8)]) dX2_readNumber_42 rfl (by decide) rfl ?_
        refine ro_aload_n (pc := 43) 1 dX2_readNumber_43 rfl rfl ?_
        refine ro_dup (pc := 44) dX2_readNumber_44 rfl ?_
        refine gf_X2_2 (pc := 45) wd_203 dX2_readNumber_45 ?_
        refine ro_iconst (v := 1) (pc := 48) dX2_readNumber_48 (by decide) ?_
        refine ro_iadd (pc := 49) dX2_readNumber_49 ?_
        refine pf_X2_2 (pc := 50) wd_203 dX2_readNumber_50 ?_
        refine ro_bnh (fun h13 => ?_)
        refine ro_iinc (pc := 53) (v := x8 + 1) (lv' := [(2, .int (x8 + 1)), (1, .int x12), (0, .ref (xa X 10))]) 2 dX2_readNumber_53 rfl rfl (by decide) rfl ?_
        refine ro_goto (tgt := 4) (pc := 56) dX2_readNumber_56 (by decide) ?_
        refine ro_lv [2, 1, 0] rfl ?_
        exact hrec6 (x12, x8 + 1, h13)
theorem c_LRd_readNumber (X : mu_X) (N : Nat) (h : mu_H) : ∀ r, f_LRd_readNumber N h = some r → mI X m_LRd_readNumber 3 [.ref (xa X 10)] h r.1 r.2 := fun r hr => mI_of (by decide) rfl (Nat.le_of_ble_eq_true rfl) rfl (cb_LRd_readNumber X N h r hr)
set_option maxRecDepth 20000 in
theorem cb_LRd_readAtom_B (X : mu_X) (N : Nat) (rf : mu_H → Int32 → Option (Int32 × mu_H)) (kc : Nat) (hk : 3 ≤ kc) (hrf : ∀ (h : mu_H) (b0 : Int32), ∀ r, rf h b0 = some r → mI X m_LRd_readSum kc [.ref (xa X 10), .int b0] h r.1 r.2) (h : mu_H) (a1 : Int32) : aG X m_LRd_readAtom (rmk (kc + 1)) (fun _ => ax X) (fun _ _ _ => True) 0 0 (fun r : Int32 × mu_H => qI X r.1 r.2) (f_LRd_readAtom_B N rf h a1) 0 [(0, .ref (xa X 10)), (1, .int a1)] [] h := by
  unfold f_LRd_readAtom_B
  refine ro_aload_n (pc := 0) 0 dX2_readAtom_0 rfl rfl ?_
  refine ro_cvI (pc := 1) (kc := 2) (avs := []) (st := []) ok_LRd_next wd_513 cl_10 cv_10 rfl ⟨show 2 + 1 ≤ kc + 1 by omega, show 8 + (1 + 11) + 60 * (2) ≤ 60 * (kc + 1) by omega⟩ ⟨Nat.zero_le _, Nat.zero_le _⟩ (c_LRd_next X N h) rfl rfl (Nat.le_of_ble_eq_true rfl) dX2_readAtom_1 (fun x1 h2 => ?_)
  refine ro_istore_n (pc := 4) (lv' := [(2, .int x1), (0, .ref (xa X 10)), (1, .int a1)]) dX2_readAtom_4 rfl (by decide) rfl ?_
  refine ro_iload_n (pc := 5) 0 dX2_readAtom_5 rfl rfl ?_
  refine ro_bipush (v := 91) (pc := 6) dX2_readAtom_6 (by decide) ?_
  refine ro_icmp_ne (tgt := 54) (pc := 8) dX2_readAtom_8 (by decide) (fun _ => ?_) (fun _ => ?_)
  · skip
    refine ro_aload_n (pc := 54) 1 dX2_readAtom_54 rfl rfl ?_
    refine gf_X2_0 (pc := 55) wd_201 dX2_readAtom_55 ?_
    refine ro_aload_n (pc := 58) 1 dX2_readAtom_58 rfl rfl ?_
    refine gf_X2_2 (pc := 59) wd_203 dX2_readAtom_59 ?_
    refine ro_cvP (pc := 62) (kc := 2) (avs := [.int (h2.1 10 2)]) (st := []) ok_Tap_isDigit wd_531 cl_1 cv_1 rfl ⟨show 2 + 1 ≤ kc + 1 by omega, show 8 + (3 + 11) + 60 * (2) ≤ 60 * (kc + 1) by omega⟩ ⟨Nat.zero_le _, Nat.zero_le _⟩ (c_Tap_isDigit X N h2 (h2.1 10 2)) rfl rfl (Nat.le_of_ble_eq_true rfl) dX2_readAtom_62 (fun x4 => ?_)
    refine ro_if_eq (tgt := 73) (pc := 65) dX2_readAtom_65 (by decide) (fun _ => ?_) (fun _ => ?_)
    · skip
      refine ro_iconst (v := 0) (pc := 73) dX2_readAtom_73 (by decide) ?_
      refine ro_istore_n (pc := 74) (lv' := [(3, .int 0), (2, .int x1), (0, .ref (xa X 10)), (1, .int a1)]) dX2_readAtom_74 rfl (by decide) rfl ?_
      refine ro_jn (pcj := 90) (lvs := fun (s : Int32) => [(0, .ref (xa X 10)), (3, .int s)]) (hs := fun (s : Int32) => h2) (sts := fun (s : Int32) => []) (fun x6 => ?_) (fun k5 hk5 => ?_)
      · try dsimp only
        refine ro_aload_n (pc := 90) 0 dX2_readAtom_90 rfl rfl ?_
        refine ro_dup (pc := 91) dX2_readAtom_91 rfl ?_
        refine gf_X2_2 (pc := 92) wd_203 dX2_readAtom_92 ?_
        refine ro_iconst (v := 1) (pc := 95) dX2_readAtom_95 (by decide) ?_
        refine ro_iadd (pc := 96) dX2_readAtom_96 ?_
        refine pf_X2_2 (pc := 97) wd_203 dX2_readAtom_97 ?_
        refine ro_bnh (fun h7 => ?_)
        refine ro_aload_n (pc := 100) 0 dX2_readAtom_100 rfl rfl ?_
        refine gf_X2_1 (pc := 101) wd_202 dX2_readAtom_101 ?_
        refine ro_iconst (v := (-1)) (pc := 104) dX2_readAtom_104 (by decide) ?_
        refine ro_iload_n (pc := 105) 1 dX2_readAtom_105 rfl rfl ?_
        refine ro_isub (pc := 106) dX2_readAtom_106 ?_
        refine ro_cvV (pc := 107) (kc := 1) (avs := [.int ((-1) - x6)]) (st := []) ok_Law_add wd_536 cl_11 cv_11 rfl ⟨show 1 + 1 ≤ kc + 1 by omega, show 8 + (2 + 11) + 60 * (1) ≤ 60 * (kc + 1) by omega⟩ ⟨Nat.zero_le _, Nat.zero_le _⟩ (c_Law_add X N h7 11 isL_i11 ((-1) - x6)) rfl rfl (Nat.le_of_ble_eq_true rfl) dX2_readAtom_107 (fun h8 => ?_)
        refine ro_iconst (v := 1) (pc := 110) dX2_readAtom_110 (by decide) ?_
        exact ro_zret (pc := 111) rfl rfl rfl dX2_readAtom_111
      · skip
        refine ro_lv [2, 1, 0] rfl ?_
        refine ro_lp (pc := 75) (lvs := fun (s : Int32) => [(0, .ref (xa X 10)), (2, .int x1), (3, .int s)]) (hs := fun (s : Int32) => h2) (fun rec9 hrec9 x10 => ?_) N 0
        unfold f_LRd_readAtom_L75; try dsimp only
        refine ro_iload_n (pc := 75) 2 dX2_readAtom_75 rfl rfl ?_
        refine ro_bipush (v := 6) (pc := 76) dX2_readAtom_76 (by decide) ?_
        refine ro_icmp_ge (tgt := 118) (pc := 78) dX2_readAtom_78 (by decide) (fun _ => ?_) (fun _ => ?_)
        · skip
          refine ro_iconst (v := 0) (pc := 118) dX2_readAtom_118 (by decide) ?_
          exact ro_zret (pc := 119) rfl rfl rfl dX2_readAtom_119
        · skip
          refine ro_gets (kk := 5) (pc := 81) rfl wd_540 dX2_readAtom_81 ?_
          refine ro_iload_n (pc := 84) 2 dX2_readAtom_84 rfl rfl ?_
          refine ti_5 (pc := 85) dX2_readAtom_85 ?_
          refine ro_iload_n (pc := 86) 1 dX2_readAtom_86 rfl rfl ?_
          refine ro_icmp_ne (tgt := 112) (pc := 87) dX2_readAtom_87 (by decide) (fun _ => ?_) (fun _ => ?_)
          · skip
            refine ro_iinc (pc := 112) (v := x10 + 1) (lv' := [(3, .int (x10 + 1)), (0, .ref (xa X 10)), (2, .int x1)]) 2 dX2_readAtom_112 rfl rfl (by decide) rfl ?_
            refine ro_goto (tgt := 75) (pc := 115) dX2_readAtom_115 (by decide) ?_
            refine ro_lv [1, 2, 0] rfl ?_
            exact hrec9 (x10 + 1)
          · skip
            refine ro_lv [0, 2] rfl ?_
            exact hk5 x10
    · skip
      refine ro_aload_n (pc := 68) 1 dX2_readAtom_68 rfl rfl ?_
      refine ro_cvI (pc := 69) (kc := 3) (avs := []) (st := []) ok_LRd_readNumber wd_532 cl_10 cv_10 rfl ⟨show 3 + 1 ≤ kc + 1 by omega, show 8 + (3 + 11) + 60 * (3) ≤ 60 * (kc + 1) by omega⟩ ⟨Nat.zero_le _, Nat.zero_le _⟩ (c_LRd_readNumber X N h2) rfl rfl (Nat.le_of_ble_eq_true rfl) dX2_readAtom_69 (fun x11 h12 => ?_)
      exact ro_zretg (pc := 72) rfl rfl dX2_readAtom_72
  · skip
    refine ro_iload_n (pc := 11) 2 dX2_readAtom_11 rfl rfl ?_
    refine ro_bipush (v := 6) (pc := 12) dX2_readAtom_12 (by decide) ?_
    refine ro_icmp_lt (tgt := 19) (pc := 14) dX2_readAtom_14 (by decide) (fun _ => ?_) (fun _ => ?_)
    · skip
      refine ro_aload_n (pc := 19) 1 dX2_readAtom_19 rfl rfl ?_
      refine ro_dup (pc := 20) dX2_readAtom_20 rfl ?_
      refine gf_X2_2 (pc := 21) wd_203 dX2_readAtom_21 ?_
      refine ro_iconst (v := 1) (pc := 24) dX2_readAtom_24 (by decide) ?_
      refine ro_iadd (pc := 25) dX2_readAtom_25 ?_
      refine pf_X2_2 (pc := 26) wd_203 dX2_readAtom_26 ?_
      refine ro_bnh (fun h14 => ?_)
      refine ro_aload_n (pc := 29) 1 dX2_readAtom_29 rfl rfl ?_
      refine ro_iload_n (pc := 30) 2 dX2_readAtom_30 rfl rfl ?_
      refine ro_iconst (v := 1) (pc := 31) dX2_readAtom_31 (by decide) ?_
      refine ro_iadd (pc := 32) dX2_readAtom_32 ?_
      refine ro_cvI (pc := 33) (kc := kc) (avs := [.int (a1 + 1)]) (st := []) ok_LRd_readSum wd_519 cl_10 cv_10 rfl ⟨show kc + 1 ≤ kc + 1 by omega, show 8 + (4 + 11) + 60 * (kc) ≤ 60 * (kc + 1) by omega⟩ ⟨Nat.zero_le _, Nat.zero_le _⟩ (hrf h14 (a1 + 1)) rfl rfl (Nat.le_of_ble_eq_true rfl) dX2_readAtom_33 (fun x15 h16 => ?_)
      refine ro_if_eq (tgt := 52) (pc := 36) dX2_readAtom_36 (by decide) (fun _ => ?_) (fun _ => ?_)
      · skip
        refine ro_iconst (v := 0) (pc := 52) dX2_readAtom_52 (by decide) ?_
        exact ro_zret (pc := 53) rfl rfl rfl dX2_readAtom_53
      · skip
        refine ro_aload_n (pc := 39) 1 dX2_readAtom_39 rfl rfl ?_
        refine ro_bipush (v := 93) (pc := 40) dX2_readAtom_40 (by decide) ?_
        refine ro_cvI (pc := 42) (kc := 3) (avs := [.int 93]) (st := []) ok_LRd_skip wd_509 cl_10 cv_10 rfl ⟨show 3 + 1 ≤ kc + 1 by omega, show 8 + (2 + 11) + 60 * (3) ≤ 60 * (kc + 1) by omega⟩ ⟨Nat.zero_le _, Nat.zero_le _⟩ (c_LRd_skip X N h16 93) rfl rfl (Nat.le_of_ble_eq_true rfl) dX2_readAtom_42 (fun x18 h19 => ?_)
        refine ro_if_eq (tgt := 52) (pc := 45) dX2_readAtom_45 (by decide) (fun _ => ?_) (fun _ => ?_)
        · skip
          refine ro_iconst (v := 0) (pc := 52) dX2_readAtom_52 (by decide) ?_
          exact ro_zret (pc := 53) rfl rfl rfl dX2_readAtom_53
        · skip
          refine ro_iconst (v := 1) (pc := 48) dX2_readAtom_48 (by decide) ?_
          refine ro_goto (tgt := 53) (pc := 49) dX2_readAtom_49 (by decide) ?_
          exact ro_zret (pc := 53) rfl rfl rfl dX2_readAtom_53
    · skip
      refine ro_iconst (v := 0) (pc := 17) dX2_readAtom_17 (by decide) ?_
      exact ro_zret (pc := 18) rfl rfl rfl dX2_readAtom_18
theorem c_LRd_readAtom_B (X : mu_X) (N : Nat) (rf : mu_H → Int32 → Option (Int32 × mu_H)) (kc : Nat) (hk : 3 ≤ kc) (hrf : ∀ (h : mu_H) (b0 : Int32), ∀ r, rf h b0 = some r → mI X m_LRd_readSum kc [.ref (xa X 10), .int b0] h r.1 r.2) (h : mu_H) (a1 : Int32) : ∀ r, f_LRd_readAtom_B N rf h a1 = some r → mI X m_LRd_readAtom (kc + 1) [.ref (xa X 10), .int a1] h r.1 r.2 := fun r hr => mI_of (by decide) rfl (Nat.le_of_ble_eq_true rfl) rfl (cb_LRd_readAtom_B X N rf kc hk hrf h a1 r hr)
set_option maxRecDepth 20000 in
theorem cb_LRd_readTerm_B (X : mu_X) (N : Nat) (rf : mu_H → Int32 → Option (Int32 × mu_H)) (kc : Nat) (hk : 3 ≤ kc) (hrf : ∀ (h : mu_H) (b0 : Int32), ∀ r, rf h b0 = some r → mI X m_LRd_readSum kc [.ref (xa X 10), .int b0] h r.1 r.2) (h : mu_H) (a1 : Int32) : aG X m_LRd_readTerm (rmk (kc + 2)) (fun _ => ax X) (fun _ _ _ => True) 0 0 (fun r : Int32 × mu_H => qI X r.1 r.2) (f_LRd_readTerm_B N rf h a1) 0 [(0, .ref (xa X 10)), (1, .int a1)] [] h := by
  unfold f_LRd_readTerm_B
  refine ro_aload_n (pc := 0) 0 dX2_readTerm_0 rfl rfl ?_
  refine ro_iload_n (pc := 1) 1 dX2_readTerm_1 rfl rfl ?_
  refine ro_cvI (pc := 2) (kc := kc + 1) (avs := [.int a1]) (st := []) ok_LRd_readAtom wd_527 cl_10 cv_10 rfl ⟨show (kc + 1) + 1 ≤ kc + 2 by omega, show 8 + (4 + 11) + 60 * (kc + 1) ≤ 60 * (kc + 2) by omega⟩ ⟨Nat.zero_le _, Nat.zero_le _⟩ (c_LRd_readAtom_B X N rf kc hk hrf h a1) rfl rfl (Nat.le_of_ble_eq_true rfl) dX2_readTerm_2 (fun x1 h2 => ?_)
  refine ro_if_ne (tgt := 10) (pc := 5) dX2_readTerm_5 (by decide) (fun _ => ?_) (fun _ => ?_)
  · skip
    refine ro_iconst (v := 0) (pc := 10) dX2_readTerm_10 (by decide) ?_
    refine ro_istore_n (pc := 11) (lv' := [(2, .int 0), (0, .ref (xa X 10)), (1, .int a1)]) dX2_readTerm_11 rfl (by decide) rfl ?_
    refine ro_lv [1, 2, 0] rfl ?_
    refine ro_lp (pc := 12) (lvs := fun (s : Int32 × mu_H) => [(0, .ref (xa X 10)), (1, .int a1), (2, .int s.1)]) (hs := fun (s : Int32 × mu_H) => s.2) (fun rec4 hrec4 s => ?_) N (0, h2)
    obtain ⟨x5, h6⟩ := s; unfold f_LRd_readTerm_L12; try dsimp only
    refine ro_iload_n (pc := 12) 2 dX2_readTerm_12 rfl rfl ?_
    refine ro_sipush (v := 240) (pc := 13) dX2_readTerm_13 (by decide) ?_
    refine ro_icmp_ge (tgt := 77) (pc := 16) dX2_readTerm_16 (by decide) (fun _ => ?_) (fun _ => ?_)
    · skip
      refine ro_iconst (v := 1) (pc := 77) dX2_readTerm_77 (by decide) ?_
      exact ro_zret (pc := 78) rfl rfl rfl dX2_readTerm_78
    · skip
      refine ro_aload_n (pc := 19) 0 dX2_readTerm_19 rfl rfl ?_
      refine ro_cvI (pc := 20) (kc := 2) (avs := []) (st := []) ok_LRd_next wd_513 cl_10 cv_10 rfl ⟨show 2 + 1 ≤ kc + 2 by omega, show 8 + (1 + 11) + 60 * (2) ≤ 60 * (kc + 2) by omega⟩ ⟨Nat.zero_le _, Nat.zero_le _⟩ (c_LRd_next X N h6) rfl rfl (Nat.le_of_ble_eq_true rfl) dX2_readTerm_20 (fun x7 h8 => ?_)
      refine ro_bipush (v := 42) (pc := 23) dX2_readTerm_23 (by decide) ?_
      refine ro_jn (pcj := 37) (lvs := fun (s : mu_H) => [(0, .ref (xa X 10)), (1, .int a1), (2, .int x5)]) (hs := fun (s : mu_H) => s) (sts := fun (s : mu_H) => []) (fun h11 => ?_) (fun j10 hj10 => ?_)
      · try dsimp only
        refine ro_aload_n (pc := 37) 0 dX2_readTerm_37 rfl rfl ?_
        refine ro_cvI (pc := 38) (kc := 2) (avs := []) (st := []) ok_LRd_next wd_513 cl_10 cv_10 rfl ⟨show 2 + 1 ≤ kc + 2 by omega, show 8 + (1 + 11) + 60 * (2) ≤ 60 * (kc + 2) by omega⟩ ⟨Nat.zero_le _, Nat.zero_le _⟩ (c_LRd_next X N h11) rfl rfl (Nat.le_of_ble_eq_true rfl) dX2_readTerm_38 (fun x12 h13 => ?_)
        refine ro_istore_n (pc := 41) (lv' := [(3, .int x12), (0, .ref (xa X 10)), (1, .int a1), (2, .int x5)]) dX2_readTerm_41 rfl (by decide) rfl ?_
        refine ro_aload_n (pc := 42) 1 dX2_readTerm_42 rfl rfl ?_
        refine ro_dup (pc := 43) dX2_readTerm_43 rfl ?_
        refine gf_X2_2 (pc := 44) wd_203 dX2_readTerm_44 ?_
        refine ro_iconst (v := 1) (pc := 47) dX2_readTerm_47 (by decide) ?_
        refine ro_iadd (pc := 48) dX2_readTerm_48 ?_
        refine pf_X2_2 (pc := 49) wd_203 dX2_readTerm_49 ?_
        refine ro_bnh (fun h15 => ?_)
        refine ro_aload_n (pc := 52) 1 dX2_readTerm_52 rfl rfl ?_
        refine ro_iload_n (pc := 53) 2 dX2_readTerm_53 rfl rfl ?_
        refine ro_cvI (pc := 54) (kc := kc + 1) (avs := [.int a1]) (st := []) ok_LRd_readAtom wd_527 cl_10 cv_10 rfl ⟨show (kc + 1) + 1 ≤ kc + 2 by omega, show 8 + (4 + 11) + 60 * (kc + 1) ≤ 60 * (kc + 2) by omega⟩ ⟨Nat.zero_le _, Nat.zero_le _⟩ (c_LRd_readAtom_B X N rf kc hk hrf h15 a1) rfl rfl (Nat.le_of_ble_eq_true rfl) dX2_readTerm_54 (fun x16 h17 => ?_)
        refine ro_if_ne (tgt := 62) (pc := 57) dX2_readTerm_57 (by decide) (fun _ => ?_) (fun _ => ?_)
        · skip
          refine ro_aload_n (pc := 62) 1 dX2_readTerm_62 rfl rfl ?_
          refine gf_X2_1 (pc := 63) wd_202 dX2_readTerm_63 ?_
          refine ro_iload_n (pc := 66) 0 dX2_readTerm_66 rfl rfl ?_
          refine ro_ineg (pc := 67) dX2_readTerm_67 ?_
          refine ro_cvV (pc := 68) (kc := 1) (avs := [.int (-x12)]) (st := []) ok_Law_add wd_536 cl_11 cv_11 rfl ⟨show 1 + 1 ≤ kc + 2 by omega, show 8 + (2 + 11) + 60 * (1) ≤ 60 * (kc + 2) by omega⟩ ⟨Nat.zero_le _, Nat.zero_le _⟩ (c_Law_add X N h17 11 isL_i11 (-x12)) rfl rfl (Nat.le_of_ble_eq_true rfl) dX2_readTerm_68 (fun h19 => ?_)
          refine ro_iinc (pc := 71) (v := x5 + 1) (lv' := [(2, .int (x5 + 1)), (3, .int x12), (0, .ref (xa X 10)), (1, .int a1)]) 3 dX2_readTerm_71 rfl rfl (by decide) rfl ?_
          refine ro_goto (tgt := 12) (pc := 74) dX2_readTerm_74 (by decide) ?_
          refine ro_lv [2, 3, 0] rfl ?_
          exact hrec4 (x5 + 1, h19)
        · skip
          refine ro_iconst (v := 0) (pc := 60) dX2_readTerm_60 (by decide) ?_
          exact ro_zret (pc := 61) rfl rfl rfl dX2_readTerm_61
      · skip
        refine ro_icmp_eq (tgt := 37) (pc := 25) dX2_readTerm_25 (by decide) (fun _ => ?_) (fun _ => ?_)
        · skip
          exact hj10 h8
        · skip
          refine ro_aload_n (pc := 28) 0 dX2_readTerm_28 rfl rfl ?_
          refine ro_cvI (pc := 29) (kc := 2) (avs := []) (st := []) ok_LRd_next wd_513 cl_10 cv_10 rfl ⟨show 2 + 1 ≤ kc + 2 by omega, show 8 + (1 + 11) + 60 * (2) ≤ 60 * (kc + 2) by omega⟩ ⟨Nat.zero_le _, Nat.zero_le _⟩ (c_LRd_next X N h8) rfl rfl (Nat.le_of_ble_eq_true rfl) dX2_readTerm_29 (fun x20 h21 => ?_)
          refine ro_bipush (v := 47) (pc := 32) dX2_readTerm_32 (by decide) ?_
          refine ro_icmp_ne (tgt := 77) (pc := 34) dX2_readTerm_34 (by decide) (fun _ => ?_) (fun _ => ?_)
          · skip
            refine ro_iconst (v := 1) (pc := 77) dX2_readTerm_77 (by decide) ?_
            exact ro_zret (pc := 78) rfl rfl rfl dX2_readTerm_78
          · skip
            exact hj10 h21
  · skip
    refine ro_iconst (v := 0) (pc := 8) dX2_readTerm_8 (by decide) ?_
    exact ro_zret (pc := 9) rfl rfl rfl dX2_readTerm_9
theorem c_LRd_readTerm_B (X : mu_X) (N : Nat) (rf : mu_H → Int32 → Option (Int32 × mu_H)) (kc : Nat) (hk : 3 ≤ kc) (hrf : ∀ (h : mu_H) (b0 : Int32), ∀ r, rf h b0 = some r → mI X m_LRd_readSum kc [.ref (xa X 10), .int b0] h r.1 r.2) (h : mu_H) (a1 : Int32) : ∀ r, f_LRd_readTerm_B N rf h a1 = some r → mI X m_LRd_readTerm (kc + 2) [.ref (xa X 10), .int a1] h r.1 r.2 := fun r hr => mI_of (by decide) rfl (Nat.le_of_ble_eq_true rfl) rfl (cb_LRd_readTerm_B X N rf kc hk hrf h a1 r hr)
set_option maxRecDepth 20000 in
theorem cb_LRd_readSum_B (X : mu_X) (N : Nat) (rf : mu_H → Int32 → Option (Int32 × mu_H)) (kc : Nat) (hk : 3 ≤ kc) (hrf : ∀ (h : mu_H) (b0 : Int32), ∀ r, rf h b0 = some r → mI X m_LRd_readSum kc [.ref (xa X 10), .int b0] h r.1 r.2) (h : mu_H) (a1 : Int32) : aG X m_LRd_readSum (rmk (kc + 3)) (fun _ => ax X) (fun _ _ _ => True) 0 0 (fun r : Int32 × mu_H => qI X r.1 r.2) (f_LRd_readSum_B N rf h a1) 0 [(0, .ref (xa X 10)), (1, .int a1)] [] h := by
  unfold f_LRd_readSum_B
  refine ro_aload_n (pc := 0) 0 dX2_readSum_0 rfl rfl ?_
  refine ro_iload_n (pc := 1) 1 dX2_readSum_1 rfl rfl ?_
  refine ro_cvI (pc := 2) (kc := kc + 2) (avs := [.int a1]) (st := []) ok_LRd_readTerm wd_523 cl_10 cv_10 rfl ⟨show (kc + 2) + 1 ≤ kc + 3 by omega, show 8 + (4 + 11) + 60 * (kc + 2) ≤ 60 * (kc + 3) by omega⟩ ⟨Nat.zero_le _, Nat.zero_le _⟩ (c_LRd_readTerm_B X N rf kc hk hrf h a1) rfl rfl (Nat.le_of_ble_eq_true rfl) dX2_readSum_2 (fun x1 h2 => ?_)
  refine ro_if_ne (tgt := 10) (pc := 5) dX2_readSum_5 (by decide) (fun _ => ?_) (fun _ => ?_)
  · skip
    refine ro_iconst (v := 0) (pc := 10) dX2_readSum_10 (by decide) ?_
    refine ro_istore_n (pc := 11) (lv' := [(2, .int 0), (0, .ref (xa X 10)), (1, .int a1)]) dX2_readSum_11 rfl (by decide) rfl ?_
    refine ro_lv [1, 2, 0] rfl ?_
    refine ro_lp (pc := 12) (lvs := fun (s : Int32 × mu_H) => [(0, .ref (xa X 10)), (1, .int a1), (2, .int s.1)]) (hs := fun (s : Int32 × mu_H) => s.2) (fun rec4 hrec4 s => ?_) N (0, h2)
    obtain ⟨x5, h6⟩ := s; unfold f_LRd_readSum_L12; try dsimp only
    refine ro_iload_n (pc := 12) 2 dX2_readSum_12 rfl rfl ?_
    refine ro_sipush (v := 240) (pc := 13) dX2_readSum_13 (by decide) ?_
    refine ro_icmp_ge (tgt := 77) (pc := 16) dX2_readSum_16 (by decide) (fun _ => ?_) (fun _ => ?_)
    · skip
      refine ro_iconst (v := 1) (pc := 77) dX2_readSum_77 (by decide) ?_
      exact ro_zret (pc := 78) rfl rfl rfl dX2_readSum_78
    · skip
      refine ro_aload_n (pc := 19) 0 dX2_readSum_19 rfl rfl ?_
      refine ro_cvI (pc := 20) (kc := 2) (avs := []) (st := []) ok_LRd_next wd_513 cl_10 cv_10 rfl ⟨show 2 + 1 ≤ kc + 3 by omega, show 8 + (1 + 11) + 60 * (2) ≤ 60 * (kc + 3) by omega⟩ ⟨Nat.zero_le _, Nat.zero_le _⟩ (c_LRd_next X N h6) rfl rfl (Nat.le_of_ble_eq_true rfl) dX2_readSum_20 (fun x7 h8 => ?_)
      refine ro_bipush (v := 43) (pc := 23) dX2_readSum_23 (by decide) ?_
      refine ro_jn (pcj := 37) (lvs := fun (s : mu_H) => [(0, .ref (xa X 10)), (1, .int a1), (2, .int x5)]) (hs := fun (s : mu_H) => s) (sts := fun (s : mu_H) => []) (fun h11 => ?_) (fun j10 hj10 => ?_)
      · try dsimp only
        refine ro_aload_n (pc := 37) 0 dX2_readSum_37 rfl rfl ?_
        refine ro_cvI (pc := 38) (kc := 2) (avs := []) (st := []) ok_LRd_next wd_513 cl_10 cv_10 rfl ⟨show 2 + 1 ≤ kc + 3 by omega, show 8 + (1 + 11) + 60 * (2) ≤ 60 * (kc + 3) by omega⟩ ⟨Nat.zero_le _, Nat.zero_le _⟩ (c_LRd_next X N h11) rfl rfl (Nat.le_of_ble_eq_true rfl) dX2_readSum_38 (fun x12 h13 => ?_)
        refine ro_istore_n (pc := 41) (lv' := [(3, .int x12), (0, .ref (xa X 10)), (1, .int a1), (2, .int x5)]) dX2_readSum_41 rfl (by decide) rfl ?_
        refine ro_aload_n (pc := 42) 1 dX2_readSum_42 rfl rfl ?_
        refine ro_dup (pc := 43) dX2_readSum_43 rfl ?_
        refine gf_X2_2 (pc := 44) wd_203 dX2_readSum_44 ?_
        refine ro_iconst (v := 1) (pc := 47) dX2_readSum_47 (by decide) ?_
        refine ro_iadd (pc := 48) dX2_readSum_48 ?_
        refine pf_X2_2 (pc := 49) wd_203 dX2_readSum_49 ?_
        refine ro_bnh (fun h15 => ?_)
        refine ro_aload_n (pc := 52) 1 dX2_readSum_52 rfl rfl ?_
        refine ro_iload_n (pc := 53) 2 dX2_readSum_53 rfl rfl ?_
        refine ro_cvI (pc := 54) (kc := kc + 2) (avs := [.int a1]) (st := []) ok_LRd_readTerm wd_523 cl_10 cv_10 rfl ⟨show (kc + 2) + 1 ≤ kc + 3 by omega, show 8 + (4 + 11) + 60 * (kc + 2) ≤ 60 * (kc + 3) by omega⟩ ⟨Nat.zero_le _, Nat.zero_le _⟩ (c_LRd_readTerm_B X N rf kc hk hrf h15 a1) rfl rfl (Nat.le_of_ble_eq_true rfl) dX2_readSum_54 (fun x16 h17 => ?_)
        refine ro_if_ne (tgt := 62) (pc := 57) dX2_readSum_57 (by decide) (fun _ => ?_) (fun _ => ?_)
        · skip
          refine ro_aload_n (pc := 62) 1 dX2_readSum_62 rfl rfl ?_
          refine gf_X2_1 (pc := 63) wd_202 dX2_readSum_63 ?_
          refine ro_iload_n (pc := 66) 0 dX2_readSum_66 rfl rfl ?_
          refine ro_ineg (pc := 67) dX2_readSum_67 ?_
          refine ro_cvV (pc := 68) (kc := 1) (avs := [.int (-x12)]) (st := []) ok_Law_add wd_536 cl_11 cv_11 rfl ⟨show 1 + 1 ≤ kc + 3 by omega, show 8 + (2 + 11) + 60 * (1) ≤ 60 * (kc + 3) by omega⟩ ⟨Nat.zero_le _, Nat.zero_le _⟩ (c_Law_add X N h17 11 isL_i11 (-x12)) rfl rfl (Nat.le_of_ble_eq_true rfl) dX2_readSum_68 (fun h19 => ?_)
          refine ro_iinc (pc := 71) (v := x5 + 1) (lv' := [(2, .int (x5 + 1)), (3, .int x12), (0, .ref (xa X 10)), (1, .int a1)]) 3 dX2_readSum_71 rfl rfl (by decide) rfl ?_
          refine ro_goto (tgt := 12) (pc := 74) dX2_readSum_74 (by decide) ?_
          refine ro_lv [2, 3, 0] rfl ?_
          exact hrec4 (x5 + 1, h19)
        · skip
          refine ro_iconst (v := 0) (pc := 60) dX2_readSum_60 (by decide) ?_
          exact ro_zret (pc := 61) rfl rfl rfl dX2_readSum_61
      · skip
        refine ro_icmp_eq (tgt := 37) (pc := 25) dX2_readSum_25 (by decide) (fun _ => ?_) (fun _ => ?_)
        · skip
          exact hj10 h8
        · skip
          refine ro_aload_n (pc := 28) 0 dX2_readSum_28 rfl rfl ?_
          refine ro_cvI (pc := 29) (kc := 2) (avs := []) (st := []) ok_LRd_next wd_513 cl_10 cv_10 rfl ⟨show 2 + 1 ≤ kc + 3 by omega, show 8 + (1 + 11) + 60 * (2) ≤ 60 * (kc + 3) by omega⟩ ⟨Nat.zero_le _, Nat.zero_le _⟩ (c_LRd_next X N h8) rfl rfl (Nat.le_of_ble_eq_true rfl) dX2_readSum_29 (fun x20 h21 => ?_)
          refine ro_bipush (v := 45) (pc := 32) dX2_readSum_32 (by decide) ?_
          refine ro_icmp_ne (tgt := 77) (pc := 34) dX2_readSum_34 (by decide) (fun _ => ?_) (fun _ => ?_)
          · skip
            refine ro_iconst (v := 1) (pc := 77) dX2_readSum_77 (by decide) ?_
            exact ro_zret (pc := 78) rfl rfl rfl dX2_readSum_78
          · skip
            exact hj10 h21
  · skip
    refine ro_iconst (v := 0) (pc := 8) dX2_readSum_8 (by decide) ?_
    exact ro_zret (pc := 9) rfl rfl rfl dX2_readSum_9
theorem c_LRd_readSum_B (X : mu_X) (N : Nat) (rf : mu_H → Int32 → Option (Int32 × mu_H)) (kc : Nat) (hk : 3 ≤ kc) (hrf : ∀ (h : mu_H) (b0 : Int32), ∀ r, rf h b0 = some r → mI X m_LRd_readSum kc [.ref (xa X 10), .int b0] h r.1 r.2) (h : mu_H) (a1 : Int32) : ∀ r, f_LRd_readSum_B N rf h a1 = some r → mI X m_LRd_readSum (kc + 3) [.ref (xa X 10), .int a1] h r.1 r.2 := fun r hr => mI_of (by decide) rfl (Nat.le_of_ble_eq_true rfl) rfl (cb_LRd_readSum_B X N rf kc hk hrf h a1 r hr)
theorem cd_LRd_readSum (X : mu_X) (N : Nat) : ∀ (D : Nat) (h : mu_H) (a1 : Int32), ∀ r, lp (f_LRd_readSum_R N) D (h, a1) = some r → mI X m_LRd_readSum (3 + 3 * D) [.ref (xa X 10), .int a1] h r.1 r.2 := by
  intro D
  induction D with
  | zero => intro h a1 r hr; cases hr
  | succ D ih => intro h a1 r hr; exact c_LRd_readSum_B X N _ (3 + 3 * D) (by omega) (fun h a1 r hr => ih h a1 r hr) h a1 r hr
theorem c_LRd_readSum (X : mu_X) (N : Nat) (h : mu_H) (a1 : Int32) : ∀ r, f_LRd_readSum N h a1 = some r → mI X m_LRd_readSum 33 [.ref (xa X 10), .int a1] h r.1 r.2 := fun r hr => cd_LRd_readSum X N 10 h a1 r hr
theorem c_LRd_readAtom (X : mu_X) (N : Nat) (h : mu_H) (a1 : Int32) : ∀ r, f_LRd_readAtom N h a1 = some r → mI X m_LRd_readAtom 34 [.ref (xa X 10), .int a1] h r.1 r.2 := fun r hr => c_LRd_readAtom_B X N (f_LRd_readSum N) 33 (by decide) (c_LRd_readSum X N) h a1 r hr
theorem c_LRd_readTerm (X : mu_X) (N : Nat) (h : mu_H) (a1 : Int32) : ∀ r, f_LRd_readTerm N h a1 = some r → mI X m_LRd_readTerm 35 [.ref (xa X 10), .int a1] h r.1 r.2 := fun r hr => c_LRd_readTerm_B X N (f_LRd_readSum N) 33 (by decide) (c_LRd_readSum X N) h a1 r hr
set_option maxRecDepth 20000 in
theorem cb_LRd_isComparison (X : mu_X) (N : Nat) (h : mu_H) (a0 : Int32) : aG X m_LRd_isComparison (rmk 1) (fun _ => ax X) (fun _ _ _ => True) 0 0 (fun r : Int32 => qI X r h) (f_LRd_isComparison N h a0) 0 [(0, .int a0)] [] h := by
  unfold f_LRd_isComparison
  refine ro_iload_n (pc := 0) 0 dX2_isComparison_0 rfl rfl ?_
  refine ro_bipush (v := 61) (pc := 1) dX2_isComparison_1 (by decide) ?_
  refine ro_icmp_eq (tgt := 18) (pc := 3) dX2_isComparison_3 (by decide) (fun _ => ?_) (fun _ => ?_)
  · skip
    refine ro_iconst (v := 1) (pc := 18) dX2_isComparison_18 (by decide) ?_
    refine ro_goto (tgt := 23) (pc := 19) dX2_isComparison_19 (by decide) ?_
    exact ro_zret (pc := 23) rfl rfl rfl dX2_isComparison_23
  · skip
    refine ro_iload_n (pc := 6) 0 dX2_isComparison_6 rfl rfl ?_
    refine ro_bipush (v := 60) (pc := 7) dX2_isComparison_7 (by decide) ?_
    refine ro_icmp_eq (tgt := 18) (pc := 9) dX2_isComparison_9 (by decide) (fun _ => ?_) (fun _ => ?_)
    · skip
      refine ro_iconst (v := 1) (pc := 18) dX2_isComparison_18 (by decide) ?_
      refine ro_goto (tgt := 23) (pc := 19) dX2_isComparison_19 (by decide) ?_
      exact ro_zret (pc := 23) rfl rfl rfl dX2_isComparison_23
    · skip
      refine ro_iload_n (pc := 12) 0 dX2_isComparison_12 rfl rfl ?_
      refine ro_bipush (v := 62) (pc := 13) dX2_isComparison_13 (by decide) ?_
      refine ro_icmp_ne (tgt := 22) (pc := 15) dX2_isComparison_15 (by decide) (fun _ => ?_) (fun _ => ?_)
      · skip
        refine ro_iconst (v := 0) (pc := 22) dX2_isComparison_22 (by decide) ?_
        exact ro_zret (pc := 23) rfl rfl rfl dX2_isComparison_23
      · skip
        refine ro_iconst (v := 1) (pc := 18) dX2_isComparison_18 (by decide) ?_
        refine ro_goto (tgt := 23) (pc := 19) dX2_isComparison_19 (by decide) ?_
        exact ro_zret (pc := 23) rfl rfl rfl dX2_isComparison_23
theorem c_LRd_isComparison (X : mu_X) (N : Nat) (h : mu_H) (a0 : Int32) : ∀ r, f_LRd_isComparison N h a0 = some r → mI X m_LRd_isComparison 1 [.int a0] h r h := fun r hr => mI_of (by decide) rfl (Nat.le_of_ble_eq_true rfl) rfl (cb_LRd_isComparison X N h a0 r hr)
set_option maxRecDepth 20000 in
theorem cb_LRd_readTruth_B (X : mu_X) (N : Nat) (rf : mu_H → Int32 → Int32 → Option (Int32 × mu_H)) (kc : Nat) (hk : 33 ≤ kc) (hrf : ∀ (h : mu_H) (b0 : Int32) (b1 : Int32), ∀ r, rf h b0 b1 = some r → mI X m_LRd_readUnit kc [.ref (xa X 10), .int b0, .int b1] h r.1 r.2) (h : mu_H) (a1 : Int32) (a2 : Int32) : aG X m_LRd_readTruth (rmk (kc + 1)) (fun _ => ax X) (fun _ _ _ => True) 0 0 (fun r : Int32 × mu_H => qI X r.1 r.2) (f_LRd_readTruth_B N rf h a1 a2) 0 [(0, .ref (xa X 10)), (1, .int a1), (2, .int a2)] [] h := by
  unfold f_LRd_readTruth_B
  refine ro_aload_n (pc := 0) 0 dX2_readTruth_0 rfl rfl ?_
  refine ro_iload_n (pc := 1) 1 dX2_readTruth_1 rfl rfl ?_
  refine ro_iload_n (pc := 2) 2 dX2_readTruth_2 rfl rfl ?_
  refine ro_cvI (pc := 3) (kc := kc) (avs := [.int a1, .int a2]) (st := []) ok_LRd_readUnit wd_553 cl_10 cv_10 rfl ⟨show kc + 1 ≤ kc + 1 by omega, show 8 + (5 + 11) + 60 * (kc) ≤ 60 * (kc + 1) by omega⟩ ⟨Nat.zero_le _, Nat.zero_le _⟩ (hrf h a1 a2) rfl rfl (Nat.le_of_ble_eq_true rfl) dX2_readTruth_3 (fun x1 h2 => ?_)
  refine ro_if_ne (tgt := 11) (pc := 6) dX2_readTruth_6 (by decide) (fun _ => ?_) (fun _ => ?_)
  · skip
    refine ro_iconst (v := 0) (pc := 11) dX2_readTruth_11 (by decide) ?_
    refine ro_istore_n (pc := 12) (lv' := [(3, .int 0), (0, .ref (xa X 10)), (1, .int a1), (2, .int a2)]) dX2_readTruth_12 rfl (by decide) rfl ?_
    refine ro_lv [1, 2, 0] rfl ?_
    refine ro_lp (pc := 13) (lvs := fun (s : Int32 × mu_H) => [(0, .ref (xa X 10)), (1, .int a1), (3, .int s.1)]) (hs := fun (s : Int32 × mu_H) => s.2) (fun rec4 hrec4 s => ?_) N (0, h2)
    obtain ⟨x5, h6⟩ := s; unfold f_LRd_readTruth_L13; try dsimp only
    refine ro_iload_n (pc := 13) 2 dX2_readTruth_13 rfl rfl ?_
    refine ro_sipush (v := 240) (pc := 14) dX2_readTruth_14 (by decide) ?_
    refine ro_icmp_ge (tgt := 65) (pc := 17) dX2_readTruth_17 (by decide) (fun _ => ?_) (fun _ => ?_)
    · skip
      refine ro_iconst (v := 1) (pc := 65) dX2_readTruth_65 (by decide) ?_
      exact ro_zret (pc := 66) rfl rfl rfl dX2_readTruth_66
    · skip
      refine ro_aload_n (pc := 20) 0 dX2_readTruth_20 rfl rfl ?_
      refine ro_cvI (pc := 21) (kc := 2) (avs := []) (st := []) ok_LRd_next wd_513 cl_10 cv_10 rfl ⟨show 2 + 1 ≤ kc + 1 by omega, show 8 + (1 + 11) + 60 * (2) ≤ 60 * (kc + 1) by omega⟩ ⟨Nat.zero_le _, Nat.zero_le _⟩ (c_LRd_next X N h6) rfl rfl (Nat.le_of_ble_eq_true rfl) dX2_readTruth_21 (fun x7 h8 => ?_)
      refine ro_bipush (v := 38) (pc := 24) dX2_readTruth_24 (by decide) ?_
      refine ro_icmp_ne (tgt := 65) (pc := 26) dX2_readTruth_26 (by decide) (fun _ => ?_) (fun _ => ?_)
      · skip
        refine ro_iconst (v := 1) (pc := 65) dX2_readTruth_65 (by decide) ?_
        exact ro_zret (pc := 66) rfl rfl rfl dX2_readTruth_66
      · skip
        refine ro_aload_n (pc := 29) 0 dX2_readTruth_29 rfl rfl ?_
        refine ro_dup (pc := 30) dX2_readTruth_30 rfl ?_
        refine gf_X2_2 (pc := 31) wd_203 dX2_readTruth_31 ?_
        refine ro_iconst (v := 1) (pc := 34) dX2_readTruth_34 (by decide) ?_
        refine ro_iadd (pc := 35) dX2_readTruth_35 ?_
        refine pf_X2_2 (pc := 36) wd_203 dX2_readTruth_36 ?_
        refine ro_bnh (fun h10 => ?_)
        refine ro_aload_n (pc := 39) 0 dX2_readTruth_39 rfl rfl ?_
        refine ro_iload_n (pc := 40) 1 dX2_readTruth_40 rfl rfl ?_
        refine ro_iconst (v := 0) (pc := 41) dX2_readTruth_41 (by decide) ?_
        refine ro_cvI (pc := 42) (kc := kc) (avs := [.int a1, .int 0]) (st := []) ok_LRd_readUnit wd_553 cl_10 cv_10 rfl ⟨show kc + 1 ≤ kc + 1 by omega, show 8 + (5 + 11) + 60 * (kc) ≤ 60 * (kc + 1) by omega⟩ ⟨Nat.zero_le _, Nat.zero_le _⟩ (hrf h10 a1 0) rfl rfl (Nat.le_of_ble_eq_true rfl) dX2_readTruth_42 (fun x11 h12 => ?_)
        refine ro_if_ne (tgt := 50) (pc := 45) dX2_readTruth_45 (by decide) (fun _ => ?_) (fun _ => ?_)
        · skip
          refine ro_aload_n (pc := 50) 0 dX2_readTruth_50 rfl rfl ?_
          refine gf_X2_1 (pc := 51) wd_202 dX2_readTruth_51 ?_
          refine ro_bipush (v := (-38)) (pc := 54) dX2_readTruth_54 (by decide) ?_
          refine ro_cvV (pc := 56) (kc := 1) (avs := [.int (-38)]) (st := []) ok_Law_add wd_536 cl_11 cv_11 rfl ⟨show 1 + 1 ≤ kc + 1 by omega, show 8 + (2 + 11) + 60 * (1) ≤ 60 * (kc + 1) by omega⟩ ⟨Nat.zero_le _, Nat.zero_le _⟩ (c_Law_add X N h12 11 isL_i11 (-38)) rfl rfl (Nat.le_of_ble_eq_true rfl) dX2_readTruth_56 (fun h14 => ?_)
          refine ro_iinc (pc := 59) (v := x5 + 1) (lv' := [(3, .int (x5 + 1)), (0, .ref (xa X 10)), (1, .int a1)]) 2 dX2_readTruth_59 rfl rfl (by decide) rfl ?_
          refine ro_goto (tgt := 13) (pc := 62) dX2_readTruth_62 (by decide) ?_
          refine ro_lv [1, 2, 0] rfl ?_
          exact hrec4 (x5 + 1, h14)
        · skip
          refine ro_iconst (v := 0) (pc := 48) dX2_readTruth_48 (by decide) ?_
          exact ro_zret (pc := 49) rfl rfl rfl dX2_readTruth_49
  · skip
    refine ro_iconst (v := 0) (pc := 9) dX2_readTruth_9 (by decide) ?_
    exact ro_zret (pc := 10) rfl rfl rfl dX2_readTruth_10
theorem c_LRd_readTruth_B (X : mu_X) (N : Nat) (rf : mu_H → Int32 → Int32 → Option (Int32 × mu_H)) (kc : Nat) (hk : 33 ≤ kc) (hrf : ∀ (h : mu_H) (b0 : Int32) (b1 : Int32), ∀ r, rf h b0 b1 = some r → mI X m_LRd_readUnit kc [.ref (xa X 10), .int b0, .int b1] h r.1 r.2) (h : mu_H) (a1 : Int32) (a2 : Int32) : ∀ r, f_LRd_readTruth_B N rf h a1 a2 = some r → mI X m_LRd_readTruth (kc + 1) [.ref (xa X 10), .int a1, .int a2] h r.1 r.2 := fun r hr => mI_of (by decide) rfl (Nat.le_of_ble_eq_true rfl) rfl (cb_LRd_readTruth_B X N rf kc hk hrf h a1 a2 r hr)
set_option maxRecDepth 20000 in
theorem cb_LRd_readCondition_B (X : mu_X) (N : Nat) (rf : mu_H → Int32 → Int32 → Option (Int32 × mu_H)) (kc : Nat) (hk : 33 ≤ kc) (hrf : ∀ (h : mu_H) (b0 : Int32) (b1 : Int32), ∀ r, rf h b0 b1 = some r → mI X m_LRd_readUnit kc [.ref (xa X 10), .int b0, .int b1] h r.1 r.2) (h : mu_H) (a1 : Int32) (a2 : Int32) : aG X m_LRd_readCondition (rmk (kc + 2)) (fun _ => ax X) (fun _ _ _ => True) 0 0 (fun r : Int32 × mu_H => qI X r.1 r.2) (f_LRd_readCondition_B N rf h a1 a2) 0 [(0, .ref (xa X 10)), (1, .int a1), (2, .int a2)] [] h := by
  unfold f_LRd_readCondition_B
  refine ro_aload_n (pc := 0) 0 dX2_readCondition_0 rfl rfl ?_
  refine ro_iload_n (pc := 1) 1 dX2_readCondition_1 rfl rfl ?_
  refine ro_iload_n (pc := 2) 2 dX2_readCondition_2 rfl rfl ?_
  refine ro_cvI (pc := 3) (kc := kc + 1) (avs := [.int a1, .int a2]) (st := []) ok_LRd_readTruth wd_549 cl_10 cv_10 rfl ⟨show (kc + 1) + 1 ≤ kc + 2 by omega, show 8 + (4 + 11) + 60 * (kc + 1) ≤ 60 * (kc + 2) by omega⟩ ⟨Nat.zero_le _, Nat.zero_le _⟩ (c_LRd_readTruth_B X N rf kc hk hrf h a1 a2) rfl rfl (Nat.le_of_ble_eq_true rfl) dX2_readCondition_3 (fun x1 h2 => ?_)
  refine ro_if_ne (tgt := 11) (pc := 6) dX2_readCondition_6 (by decide) (fun _ => ?_) (fun _ => ?_)
  · skip
    refine ro_iconst (v := 0) (pc := 11) dX2_readCondition_11 (by decide) ?_
    refine ro_istore_n (pc := 12) (lv' := [(3, .int 0), (0, .ref (xa X 10)), (1, .int a1), (2, .int a2)]) dX2_readCondition_12 rfl (by decide) rfl ?_
    refine ro_lv [1, 2, 0] rfl ?_
    refine ro_lp (pc := 13) (lvs := fun (s : Int32 × mu_H) => [(0, .ref (xa X 10)), (1, .int a1), (3, .int s.1)]) (hs := fun (s : Int32 × mu_H) => s.2) (fun rec4 hrec4 s => ?_) N (0, h2)
    obtain ⟨x5, h6⟩ := s; unfold f_LRd_readCondition_L13; try dsimp only
    refine ro_iload_n (pc := 13) 2 dX2_readCondition_13 rfl rfl ?_
    refine ro_sipush (v := 240) (pc := 14) dX2_readCondition_14 (by decide) ?_
    refine ro_icmp_ge (tgt := 65) (pc := 17) dX2_readCondition_17 (by decide) (fun _ => ?_) (fun _ => ?_)
    · skip
      refine ro_iconst (v := 1) (pc := 65) dX2_readCondition_65 (by decide) ?_
      exact ro_zret (pc := 66) rfl rfl rfl dX2_readCondition_66
    · skip
      refine ro_aload_n (pc := 20) 0 dX2_readCondition_20 rfl rfl ?_
      refine ro_cvI (pc := 21) (kc := 2) (avs := []) (st := []) ok_LRd_next wd_513 cl_10 cv_10 rfl ⟨show 2 + 1 ≤ kc + 2 by omega, show 8 + (1 + 11) + 60 * (2) ≤ 60 * (kc + 2) by omega⟩ ⟨Nat.zero_le _, Nat.zero_le _⟩ (c_LRd_next X N h6) rfl rfl (Nat.le_of_ble_eq_true rfl) dX2_readCondition_21 (fun x7 h8 => ?_)
      refine ro_bipush (v := 124) (pc := 24) dX2_readCondition_24 (by decide) ?_
      refine ro_icmp_ne (tgt := 65) (pc := 26) dX2_readCondition_26 (by decide) (fun _ => ?_) (fun _ => ?_)
      · skip
        refine ro_iconst (v := 1) (pc := 65) dX2_readCondition_65 (by decide) ?_
        exact ro_zret (pc := 66) rfl rfl rfl dX2_readCondition_66
      · skip
        refine ro_aload_n (pc := 29) 0 dX2_readCondition_29 rfl rfl ?_
        refine ro_dup (pc := 30) dX2_readCondition_30 rfl ?_
        refine gf_X2_2 (pc := 31) wd_203 dX2_readCondition_31 ?_
        refine ro_iconst (v := 1) (pc := 34) dX2_readCondition_34 (by decide) ?_
        refine ro_iadd (pc := 35) dX2_readCondition_35 ?_
        refine pf_X2_2 (pc := 36) wd_203 dX2_readCondition_36 ?_
        refine ro_bnh (fun h10 => ?_)
        refine ro_aload_n (pc := 39) 0 dX2_readCondition_39 rfl rfl ?_
        refine ro_iload_n (pc := 40) 1 dX2_readCondition_40 rfl rfl ?_
        refine ro_iconst (v := 0) (pc := 41) dX2_readCondition_41 (by decide) ?_
        refine ro_cvI (pc := 42) (kc := kc + 1) (avs := [.int a1, .int 0]) (st := []) ok_LRd_readTruth wd_549 cl_10 cv_10 rfl ⟨show (kc + 1) + 1 ≤ kc + 2 by omega, show 8 + (4 + 11) + 60 * (kc + 1) ≤ 60 * (kc + 2) by omega⟩ ⟨Nat.zero_le _, Nat.zero_le _⟩ (c_LRd_readTruth_B X N rf kc hk hrf h10 a1 0) rfl rfl (Nat.le_of_ble_eq_true rfl) dX2_readCondition_42 (fun x11 h12 => ?_)
        refine ro_if_ne (tgt := 50) (pc := 45) dX2_readCondition_45 (by decide) (fun _ => ?_) (fun _ => ?_)
        · skip
          refine ro_aload_n (pc := 50) 0 dX2_readCondition_50 rfl rfl ?_
          refine gf_X2_1 (pc := 51) wd_202 dX2_readCondition_51 ?_
          refine ro_bipush (v := (-124)) (pc := 54) dX2_readCondition_54 (by decide) ?_
          refine ro_cvV (pc := 56) (kc := 1) (avs := [.int (-124)]) (st := []) ok_Law_add wd_536 cl_11 cv_11 rfl ⟨show 1 + 1 ≤ kc + 2 by omega, show 8 + (2 + 11) + 60 * (1) ≤ 60 * (kc + 2) by omega⟩ ⟨Nat.zero_le _, Nat.zero_le _⟩ (c_Law_add X N h12 11 isL_i11 (-124)) rfl rfl (Nat.le_of_ble_eq_true rfl) dX2_readCondition_56 (fun h14 => ?_)
          refine ro_iinc (pc := 59) (v := x5 + 1) (lv' := [(3, .int (x5 + 1)), (0, .ref (xa X 10)), (1, .int a1)]) 2 dX2_readCondition_59 rfl rfl (by decide) rfl ?_
          refine ro_goto (tgt := 13) (pc := 62) dX2_readCondition_62 (by decide) ?_
          refine ro_lv [1, 2, 0] rfl ?_
          exact hrec4 (x5 + 1, h14)
        · skip
          refine ro_iconst (v := 0) (pc := 48) dX2_readCondition_48 (by decide) ?_
          exact ro_zret (pc := 49) rfl rfl rfl dX2_readCondition_49
  · skip
    refine ro_iconst (v := 0) (pc := 9) dX2_readCondition_9 (by decide) ?_
    exact ro_zret (pc := 10) rfl rfl rfl dX2_readCondition_10
theorem c_LRd_readCondition_B (X : mu_X) (N : Nat) (rf : mu_H → Int32 → Int32 → Option (Int32 × mu_H)) (kc : Nat) (hk : 33 ≤ kc) (hrf : ∀ (h : mu_H) (b0 : Int32) (b1 : Int32), ∀ r, rf h b0 b1 = some r → mI X m_LRd_readUnit kc [.ref (xa X 10), .int b0, .int b1] h r.1 r.2) (h : mu_H) (a1 : Int32) (a2 : Int32) : ∀ r, f_LRd_readCondition_B N rf h a1 a2 = some r → mI X m_LRd_readCondition (kc + 2) [.ref (xa X 10), .int a1, .int a2] h r.1 r.2 := fun r hr => mI_of (by decide) rfl (Nat.le_of_ble_eq_true rfl) rfl (cb_LRd_readCondition_B X N rf kc hk hrf h a1 a2 r hr)
set_option maxRecDepth 20000 in
theorem cb_LRd_readUnit_B (X : mu_X) (N : Nat) (rf : mu_H → Int32 → Int32 → Option (Int32 × mu_H)) (kc : Nat) (hk : 33 ≤ kc) (hrf : ∀ (h : mu_H) (b0 : Int32) (b1 : Int32), ∀ r, rf h b0 b1 = some r → mI X m_LRd_readUnit kc [.ref (xa X 10), .int b0, .int b1] h r.1 r.2) (h : mu_H) (a1 : Int32) (a2 : Int32) : aG X m_LRd_readUnit (rmk (kc + 3)) (fun _ => ax X) (fun _ _ _ => True) 0 0 (fun r : Int32 × mu_H => qI X r.1 r.2) (f_LRd_readUnit_B N rf h a1 a2) 0 [(0, .ref (xa X 10)), (1, .int a1), (2, .int a2)] [] h := by
  unfold f_LRd_readUnit_B
  refine ro_aload_n (pc := 0) 0 dX2_readUnit_0 rfl rfl ?_
  refine ro_cvI (pc := 1) (kc := 2) (avs := []) (st := []) ok_LRd_next wd_513 cl_10 cv_10 rfl ⟨show 2 + 1 ≤ kc + 3 by omega, show 8 + (1 + 11) + 60 * (2) ≤ 60 * (kc + 3) by omega⟩ ⟨Nat.zero_le _, Nat.zero_le _⟩ (c_LRd_next X N h) rfl rfl (Nat.le_of_ble_eq_true rfl) dX2_readUnit_1 (fun x1 h2 => ?_)
  refine ro_istore_n (pc := 4) (lv' := [(3, .int x1), (0, .ref (xa X 10)), (1, .int a1), (2, .int a2)]) dX2_readUnit_4 rfl (by decide) rfl ?_
  refine ro_iload_n (pc := 5) 3 dX2_readUnit_5 rfl rfl ?_
  refine ro_jn (pcj := 95) (lvs := fun (s : Unit) => [(0, .ref (xa X 10)), (1, .int a1), (2, .int a2)]) (hs := fun (s : Unit) => h2) (sts := fun (s : Unit) => []) (fun s => ?_) (fun j4 hj4 => ?_)
  · try dsimp only
    refine ro_iload_n (pc := 95) 2 dX2_readUnit_95 rfl rfl ?_
    refine ro_jn (pcj := 109) (lvs := fun (s : mu_H) => [(0, .ref (xa X 10)), (1, .int a1)]) (hs := fun (s : mu_H) => s) (sts := fun (s : mu_H) => []) (fun h6 => ?_) (fun j5 hj5 => ?_)
    · try dsimp only
      refine ro_aload_n (pc := 109) 0 dX2_readUnit_109 rfl rfl ?_
      refine ro_cvI (pc := 110) (kc := 2) (avs := []) (st := []) ok_LRd_next wd_513 cl_10 cv_10 rfl ⟨show 2 + 1 ≤ kc + 3 by omega, show 8 + (1 + 11) + 60 * (2) ≤ 60 * (kc + 3) by omega⟩ ⟨Nat.zero_le _, Nat.zero_le _⟩ (c_LRd_next X N h6) rfl rfl (Nat.le_of_ble_eq_true rfl) dX2_readUnit_110 (fun x7 h8 => ?_)
      refine ro_istore (pc := 113) (lv' := [(4, .int x7), (0, .ref (xa X 10)), (1, .int a1)]) dX2_readUnit_113 (by decide) rfl ?_
      refine ro_iload (pc := 115) 0 dX2_readUnit_115 rfl ?_
      refine ro_csP (pc := 117) (kc := 1) (avs := [.int x7]) (st := []) ok_LRd_isComparison wd_542 ⟨show 1 + 1 ≤ kc + 3 by omega, show 8 + (1 + 11) + 60 * (1) ≤ 60 * (kc + 3) by omega⟩ ⟨Nat.zero_le _, Nat.zero_le _⟩ (c_LRd_isComparison X N h8 x7) rfl rfl (Nat.le_of_ble_eq_true rfl) dX2_readUnit_117 (fun x10 => ?_)
      refine ro_if_ne (tgt := 125) (pc := 120) dX2_readUnit_120 (by decide) (fun _ => ?_) (fun _ => ?_)
      · skip
        refine ro_aload_n (pc := 125) 1 dX2_readUnit_125 rfl rfl ?_
        refine ro_dup (pc := 126) dX2_readUnit_126 rfl ?_
        refine gf_X2_2 (pc := 127) wd_203 dX2_readUnit_127 ?_
        refine ro_iconst (v := 1) (pc := 130) dX2_readUnit_130 (by decide) ?_
        refine ro_iadd (pc := 131) dX2_readUnit_131 ?_
        refine pf_X2_2 (pc := 132) wd_203 dX2_readUnit_132 ?_
        refine ro_bnh (fun h11 => ?_)
        refine ro_aload_n (pc := 135) 1 dX2_readUnit_135 rfl rfl ?_
        refine ro_iload_n (pc := 136) 2 dX2_readUnit_136 rfl rfl ?_
        refine ro_cvI (pc := 137) (kc := 33) (avs := [.int a1]) (st := []) ok_LRd_readSum wd_519 cl_10 cv_10 rfl ⟨show 33 + 1 ≤ kc + 3 by omega, show 8 + (4 + 11) + 60 * (33) ≤ 60 * (kc + 3) by omega⟩ ⟨Nat.zero_le _, Nat.zero_le _⟩ (c_LRd_readSum X N h11 a1) rfl rfl (Nat.le_of_ble_eq_true rfl) dX2_readUnit_137 (fun x12 h13 => ?_)
        refine ro_if_ne (tgt := 145) (pc := 140) dX2_readUnit_140 (by decide) (fun _ => ?_) (fun _ => ?_)
        · skip
          refine ro_aload_n (pc := 145) 1 dX2_readUnit_145 rfl rfl ?_
          refine gf_X2_1 (pc := 146) wd_202 dX2_readUnit_146 ?_
          refine ro_iload (pc := 149) 0 dX2_readUnit_149 rfl ?_
          refine ro_ineg (pc := 151) dX2_readUnit_151 ?_
          refine ro_cvV (pc := 152) (kc := 1) (avs := [.int (-x7)]) (st := []) ok_Law_add wd_536 cl_11 cv_11 rfl ⟨show 1 + 1 ≤ kc + 3 by omega, show 8 + (2 + 11) + 60 * (1) ≤ 60 * (kc + 3) by omega⟩ ⟨Nat.zero_le _, Nat.zero_le _⟩ (c_Law_add X N h13 11 isL_i11 (-x7)) rfl rfl (Nat.le_of_ble_eq_true rfl) dX2_readUnit_152 (fun h15 => ?_)
          refine ro_iconst (v := 1) (pc := 155) dX2_readUnit_155 (by decide) ?_
          exact ro_zret (pc := 156) rfl rfl rfl dX2_readUnit_156
        · skip
          refine ro_iconst (v := 0) (pc := 143) dX2_readUnit_143 (by decide) ?_
          exact ro_zret (pc := 144) rfl rfl rfl dX2_readUnit_144
      · skip
        refine ro_iconst (v := 0) (pc := 123) dX2_readUnit_123 (by decide) ?_
        exact ro_zret (pc := 124) rfl rfl rfl dX2_readUnit_124
    · skip
      refine ro_if_ne (tgt := 109) (pc := 96) dX2_readUnit_96 (by decide) (fun _ => ?_) (fun _ => ?_)
      · skip
        refine ro_lv [0, 1] rfl ?_
        exact hj5 h2
      · skip
        refine ro_aload_n (pc := 99) 0 dX2_readUnit_99 rfl rfl ?_
        refine ro_iload_n (pc := 100) 1 dX2_readUnit_100 rfl rfl ?_
        refine ro_cvI (pc := 101) (kc := 33) (avs := [.int a1]) (st := []) ok_LRd_readSum wd_519 cl_10 cv_10 rfl ⟨show 33 + 1 ≤ kc + 3 by omega, show 8 + (4 + 11) + 60 * (33) ≤ 60 * (kc + 3) by omega⟩ ⟨Nat.zero_le _, Nat.zero_le _⟩ (c_LRd_readSum X N h2 a1) rfl rfl (Nat.le_of_ble_eq_true rfl) dX2_readUnit_101 (fun x16 h17 => ?_)
        refine ro_if_ne (tgt := 109) (pc := 104) dX2_readUnit_104 (by decide) (fun _ => ?_) (fun _ => ?_)
        · skip
          refine ro_lv [0, 1] rfl ?_
          exact hj5 h17
        · skip
          refine ro_iconst (v := 0) (pc := 107) dX2_readUnit_107 (by decide) ?_
          exact ro_zret (pc := 108) rfl rfl rfl dX2_readUnit_108
  · skip
    refine ro_if_ne (tgt := 95) (pc := 6) dX2_readUnit_6 (by decide) (fun _ => ?_) (fun _ => ?_)
    · skip
      refine ro_lv [1, 2, 3] rfl ?_
      exact hj4 ()
    · skip
      refine ro_iload_n (pc := 9) 0 dX2_readUnit_9 rfl rfl ?_
      refine ro_bipush (v := 33) (pc := 10) dX2_readUnit_10 (by decide) ?_
      refine ro_jn (pcj := 21) (lvs := fun (s : Unit) => [(0, .ref (xa X 10)), (1, .int a1), (3, .int x1)]) (hs := fun (s : Unit) => h2) (sts := fun (s : Unit) => []) (fun s => ?_) (fun j19 hj19 => ?_)
      · try dsimp only
        refine ro_iload_n (pc := 21) 1 dX2_readUnit_21 rfl rfl ?_
        refine ro_bipush (v := 6) (pc := 22) dX2_readUnit_22 (by decide) ?_
        refine ro_icmp_lt (tgt := 29) (pc := 24) dX2_readUnit_24 (by decide) (fun _ => ?_) (fun _ => ?_)
        · skip
          refine ro_aload_n (pc := 29) 0 dX2_readUnit_29 rfl rfl ?_
          refine ro_dup (pc := 30) dX2_readUnit_30 rfl ?_
          refine gf_X2_2 (pc := 31) wd_203 dX2_readUnit_31 ?_
          refine ro_iconst (v := 1) (pc := 34) dX2_readUnit_34 (by decide) ?_
          refine ro_iadd (pc := 35) dX2_readUnit_35 ?_
          refine pf_X2_2 (pc := 36) wd_203 dX2_readUnit_36 ?_
          refine ro_bnh (fun h20 => ?_)
          refine ro_iload_n (pc := 39) 2 dX2_readUnit_39 rfl rfl ?_
          refine ro_bipush (v := 40) (pc := 40) dX2_readUnit_40 (by decide) ?_
          refine ro_icmp_ne (tgt := 71) (pc := 42) dX2_readUnit_42 (by decide) (fun _ => ?_) (fun _ => ?_)
          · skip
            refine ro_aload_n (pc := 71) 0 dX2_readUnit_71 rfl rfl ?_
            refine ro_iload_n (pc := 72) 1 dX2_readUnit_72 rfl rfl ?_
            refine ro_iconst (v := 1) (pc := 73) dX2_readUnit_73 (by decide) ?_
            refine ro_iadd (pc := 74) dX2_readUnit_74 ?_
            refine ro_iconst (v := 0) (pc := 75) dX2_readUnit_75 (by decide) ?_
            refine ro_cvI (pc := 76) (kc := kc) (avs := [.int (a1 + 1), .int 0]) (st := []) ok_LRd_readUnit wd_553 cl_10 cv_10 rfl ⟨show kc + 1 ≤ kc + 3 by omega, show 8 + (5 + 11) + 60 * (kc) ≤ 60 * (kc + 3) by omega⟩ ⟨Nat.zero_le _, Nat.zero_le _⟩ (hrf h20 (a1 + 1) 0) rfl rfl (Nat.le_of_ble_eq_true rfl) dX2_readUnit_76 (fun x21 h22 => ?_)
            refine ro_if_ne (tgt := 84) (pc := 79) dX2_readUnit_79 (by decide) (fun _ => ?_) (fun _ => ?_)
            · skip
              refine ro_aload_n (pc := 84) 0 dX2_readUnit_84 rfl rfl ?_
              refine gf_X2_1 (pc := 85) wd_202 dX2_readUnit_85 ?_
              refine ro_bipush (v := (-33)) (pc := 88) dX2_readUnit_88 (by decide) ?_
              refine ro_cvV (pc := 90) (kc := 1) (avs := [.int (-33)]) (st := []) ok_Law_add wd_536 cl_11 cv_11 rfl ⟨show 1 + 1 ≤ kc + 3 by omega, show 8 + (2 + 11) + 60 * (1) ≤ 60 * (kc + 3) by omega⟩ ⟨Nat.zero_le _, Nat.zero_le _⟩ (c_Law_add X N h22 11 isL_i11 (-33)) rfl rfl (Nat.le_of_ble_eq_true rfl) dX2_readUnit_90 (fun h24 => ?_)
              refine ro_iconst (v := 1) (pc := 93) dX2_readUnit_93 (by decide) ?_
              exact ro_zret (pc := 94) rfl rfl rfl dX2_readUnit_94
            · skip
              refine ro_iconst (v := 0) (pc := 82) dX2_readUnit_82 (by decide) ?_
              exact ro_zret (pc := 83) rfl rfl rfl dX2_readUnit_83
          · skip
            refine ro_aload_n (pc := 45) 0 dX2_readUnit_45 rfl rfl ?_
            refine ro_iload_n (pc := 46) 1 dX2_readUnit_46 rfl rfl ?_
            refine ro_iconst (v := 1) (pc := 47) dX2_readUnit_47 (by decide) ?_
            refine ro_iadd (pc := 48) dX2_readUnit_48 ?_
            refine ro_iconst (v := 0) (pc := 49) dX2_readUnit_49 (by decide) ?_
            refine ro_cvI (pc := 50) (kc := kc + 2) (avs := [.int (a1 + 1), .int 0]) (st := []) ok_LRd_readCondition wd_545 cl_10 cv_10 rfl ⟨show (kc + 2) + 1 ≤ kc + 3 by omega, show 8 + (4 + 11) + 60 * (kc + 2) ≤ 60 * (kc + 3) by omega⟩ ⟨Nat.zero_le _, Nat.zero_le _⟩ (c_LRd_readCondition_B X N rf kc hk hrf h20 (a1 + 1) 0) rfl rfl (Nat.le_of_ble_eq_true rfl) dX2_readUnit_50 (fun x25 h26 => ?_)
            refine ro_if_eq (tgt := 69) (pc := 53) dX2_readUnit_53 (by decide) (fun _ => ?_) (fun _ => ?_)
            · skip
              refine ro_iconst (v := 0) (pc := 69) dX2_readUnit_69 (by decide) ?_
              exact ro_zret (pc := 70) rfl rfl rfl dX2_readUnit_70
            · skip
              refine ro_aload_n (pc := 56) 0 dX2_readUnit_56 rfl rfl ?_
              refine ro_bipush (v := 41) (pc := 57) dX2_readUnit_57 (by decide) ?_
              refine ro_cvI (pc := 59) (kc := 3) (avs := [.int 41]) (st := []) ok_LRd_skip wd_509 cl_10 cv_10 rfl ⟨show 3 + 1 ≤ kc + 3 by omega, show 8 + (2 + 11) + 60 * (3) ≤ 60 * (kc + 3) by omega⟩ ⟨Nat.zero_le _, Nat.zero_le _⟩ (c_LRd_skip X N h26 41) rfl rfl (Nat.le_of_ble_eq_true rfl) dX2_readUnit_59 (fun x28 h29 => ?_)
              refine ro_if_eq (tgt := 69) (pc := 62) dX2_readUnit_62 (by decide) (fun _ => ?_) (fun _ => ?_)
              · skip
                refine ro_iconst (v := 0) (pc := 69) dX2_readUnit_69 (by decide) ?_
                exact ro_zret (pc := 70) rfl rfl rfl dX2_readUnit_70
              · skip
                refine ro_iconst (v := 1) (pc := 65) dX2_readUnit_65 (by decide) ?_
                refine ro_goto (tgt := 70) (pc := 66) dX2_readUnit_66 (by decide) ?_
                exact ro_zret (pc := 70) rfl rfl rfl dX2_readUnit_70
        · skip
          refine ro_iconst (v := 0) (pc := 27) dX2_readUnit_27 (by decide) ?_
          exact ro_zret (pc := 28) rfl rfl rfl dX2_readUnit_28
      · skip
        refine ro_icmp_eq (tgt := 21) (pc := 12) dX2_readUnit_12 (by decide) (fun _ => ?_) (fun _ => ?_)
        · skip
          refine ro_lv [1, 2, 0] rfl ?_
          exact hj19 ()
        · skip
          refine ro_iload_n (pc := 15) 0 dX2_readUnit_15 rfl rfl ?_
          refine ro_bipush (v := 40) (pc := 16) dX2_readUnit_16 (by decide) ?_
          refine ro_icmp_ne (tgt := 95) (pc := 18) dX2_readUnit_18 (by decide) (fun _ => ?_) (fun _ => ?_)
          · skip
            refine ro_lv [1, 2, 3] rfl ?_
            exact hj4 ()
          · skip
            refine ro_lv [1, 2, 0] rfl ?_
            exact hj19 ()
theorem c_LRd_readUnit_B (X : mu_X) (N : Nat) (rf : mu_H → Int32 → Int32 → Option (Int32 × mu_H)) (kc : Nat) (hk : 33 ≤ kc) (hrf : ∀ (h : mu_H) (b0 : Int32) (b1 : Int32), ∀ r, rf h b0 b1 = some r → mI X m_LRd_readUnit kc [.ref (xa X 10), .int b0, .int b1] h r.1 r.2) (h : mu_H) (a1 : Int32) (a2 : Int32) : ∀ r, f_LRd_readUnit_B N rf h a1 a2 = some r → mI X m_LRd_readUnit (kc + 3) [.ref (xa X 10), .int a1, .int a2] h r.1 r.2 := fun r hr => mI_of (by decide) rfl (Nat.le_of_ble_eq_true rfl) rfl (cb_LRd_readUnit_B X N rf kc hk hrf h a1 a2 r hr)
theorem cd_LRd_readUnit (X : mu_X) (N : Nat) : ∀ (D : Nat) (h : mu_H) (a1 : Int32) (a2 : Int32), ∀ r, lp (f_LRd_readUnit_R N) D (h, a1, a2) = some r → mI X m_LRd_readUnit (33 + 3 * D) [.ref (xa X 10), .int a1, .int a2] h r.1 r.2 := by
  intro D
  induction D with
  | zero => intro h a1 a2 r hr; cases hr
  | succ D ih => intro h a1 a2 r hr; exact c_LRd_readUnit_B X N _ (33 + 3 * D) (by omega) (fun h a1 a2 r hr => ih h a1 a2 r hr) h a1 a2 r hr
theorem c_LRd_readUnit (X : mu_X) (N : Nat) (h : mu_H) (a1 : Int32) (a2 : Int32) : ∀ r, f_LRd_readUnit N h a1 a2 = some r → mI X m_LRd_readUnit 63 [.ref (xa X 10), .int a1, .int a2] h r.1 r.2 := fun r hr => cd_LRd_readUnit X N 10 h a1 a2 r hr
theorem c_LRd_readTruth (X : mu_X) (N : Nat) (h : mu_H) (a1 : Int32) (a2 : Int32) : ∀ r, f_LRd_readTruth N h a1 a2 = some r → mI X m_LRd_readTruth 64 [.ref (xa X 10), .int a1, .int a2] h r.1 r.2 := fun r hr => c_LRd_readTruth_B X N (f_LRd_readUnit N) 63 (by decide) (c_LRd_readUnit X N) h a1 a2 r hr
theorem c_LRd_readCondition (X : mu_X) (N : Nat) (h : mu_H) (a1 : Int32) (a2 : Int32) : ∀ r, f_LRd_readCondition N h a1 a2 = some r → mI X m_LRd_readCondition 65 [.ref (xa X 10), .int a1, .int a2] h r.1 r.2 := fun r hr => c_LRd_readCondition_B X N (f_LRd_readUnit N) 63 (by decide) (c_LRd_readUnit X N) h a1 a2 r hr
set_option maxRecDepth 20000 in
theorem cb_LRd_readClause (X : mu_X) (N : Nat) (h : mu_H) : aG X m_LRd_readClause (rmk 66) (fun _ => ax X) (fun _ _ _ => True) 0 0 (fun r : Int32 × mu_H => qI X r.1 r.2) (f_LRd_readClause N h) 0 [(0, .ref (xa X 10))] [] h := by
  unfold f_LRd_readClause
  refine ro_aload_n (pc := 0) 0 dX2_readClause_0 rfl rfl ?_
  refine ro_bipush (v := 121) (pc := 1) dX2_readClause_1 (by decide) ?_
  refine ro_cvI (pc := 3) (kc := 3) (avs := [.int 121]) (st := []) ok_LRd_skip wd_509 cl_10 cv_10 rfl ⟨by decide, by decide⟩ ⟨Nat.zero_le _, Nat.zero_le _⟩ (c_LRd_skip X N h 121) rfl rfl (Nat.le_of_ble_eq_true rfl) dX2_readClause_3 (fun x1 h2 => ?_)
  refine ro_if_eq (tgt := 18) (pc := 6) dX2_readClause_6 (by decide) (fun _ => ?_) (fun _ => ?_)
  · skip
    refine ro_iconst (v := 0) (pc := 18) dX2_readClause_18 (by decide) ?_
    exact ro_zret (pc := 19) rfl rfl rfl dX2_readClause_19
  · skip
    refine ro_aload_n (pc := 9) 0 dX2_readClause_9 rfl rfl ?_
    refine ro_bipush (v := 58) (pc := 10) dX2_readClause_10 (by decide) ?_
    refine ro_cvI (pc := 12) (kc := 3) (avs := [.int 58]) (st := []) ok_LRd_skip wd_509 cl_10 cv_10 rfl ⟨by decide, by decide⟩ ⟨Nat.zero_le _, Nat.zero_le _⟩ (c_LRd_skip X N h2 58) rfl rfl (Nat.le_of_ble_eq_true rfl) dX2_readClause_12 (fun x4 h5 => ?_)
    refine ro_if_ne (tgt := 20) (pc := 15) dX2_readClause_15 (by decide) (fun _ => ?_) (fun _ => ?_)
    · skip
      refine ro_aload_n (pc := 20) 0 dX2_readClause_20 rfl rfl ?_
      refine ro_cvI (pc := 21) (kc := 2) (avs := []) (st := []) ok_LRd_next wd_513 cl_10 cv_10 rfl ⟨by decide, by decide⟩ ⟨Nat.zero_le _, Nat.zero_le _⟩ (c_LRd_next X N h5) rfl rfl (Nat.le_of_ble_eq_true rfl) dX2_readClause_21 (fun x7 h8 => ?_)
      refine ro_bipush (v := 33) (pc := 24) dX2_readClause_24 (by decide) ?_
      refine ro_jn (pcj := 43) (lvs := fun (s : Int32 × mu_H) => [(0, .ref (xa X 10))]) (hs := fun (s : Int32 × mu_H) => s.2) (sts := fun (s : Int32 × mu_H) => [.int s.1]) (fun s => ?_) (fun j10 hj10 => ?_)
      · obtain ⟨x11, h12⟩ := s; try dsimp only
        refine ro_istore_n (pc := 43) (lv' := [(1, .int x11), (0, .ref (xa X 10))]) dX2_readClause_43 rfl (by decide) rfl ?_
        refine ro_iload_n (pc := 44) 0 dX2_readClause_44 rfl rfl ?_
        refine ro_jn (pcj := 58) (lvs := fun (s : mu_H) => [(0, .ref (xa X 10)), (1, .int x11)]) (hs := fun (s : mu_H) => s) (sts := fun (s : mu_H) => []) (fun h14 => ?_) (fun j13 hj13 => ?_)
        · try dsimp only
          refine ro_iload_n (pc := 58) 1 dX2_readClause_58 rfl rfl ?_
          refine ro_jn (pcj := 72) (lvs := fun (s : mu_H) => [(0, .ref (xa X 10)), (1, .int x11)]) (hs := fun (s : mu_H) => s) (sts := fun (s : mu_H) => []) (fun h16 => ?_) (fun j15 hj15 => ?_)
          · try dsimp only
            refine ro_aload_n (pc := 72) 0 dX2_readClause_72 rfl rfl ?_
            refine ro_iconst (v := 0) (pc := 73) dX2_readClause_73 (by decide) ?_
            refine ro_iload_n (pc := 74) 1 dX2_readClause_74 rfl rfl ?_
            refine ro_cvI (pc := 75) (kc := 65) (avs := [.int 0, .int x11]) (st := []) ok_LRd_readCondition wd_545 cl_10 cv_10 rfl ⟨by decide, by decide⟩ ⟨Nat.zero_le _, Nat.zero_le _⟩ (c_LRd_readCondition X N h16 0 x11) rfl rfl (Nat.le_of_ble_eq_true rfl) dX2_readClause_75 (fun x17 h18 => ?_)
            refine ro_if_eq (tgt := 90) (pc := 78) dX2_readClause_78 (by decide) (fun _ => ?_) (fun _ => ?_)
            · skip
              refine ro_iconst (v := 0) (pc := 90) dX2_readClause_90 (by decide) ?_
              exact ro_zret (pc := 91) rfl rfl rfl dX2_readClause_91
            · skip
              refine ro_aload_n (pc := 81) 0 dX2_readClause_81 rfl rfl ?_
              refine ro_bipush (v := 63) (pc := 82) dX2_readClause_82 (by decide) ?_
              refine ro_cvI (pc := 84) (kc := 3) (avs := [.int 63]) (st := []) ok_LRd_skip wd_509 cl_10 cv_10 rfl ⟨by decide, by decide⟩ ⟨Nat.zero_le _, Nat.zero_le _⟩ (c_LRd_skip X N h18 63) rfl rfl (Nat.le_of_ble_eq_true rfl) dX2_readClause_84 (fun x20 h21 => ?_)
              refine ro_if_ne (tgt := 92) (pc := 87) dX2_readClause_87 (by decide) (fun _ => ?_) (fun _ => ?_)
              · skip
                refine ro_aload_n (pc := 92) 0 dX2_readClause_92 rfl rfl ?_
                refine gf_X2_1 (pc := 93) wd_202 dX2_readClause_93 ?_
                refine ro_cvP (pc := 96) (kc := 1) (avs := []) (st := []) ok_Law_size wd_557 cl_11 cv_11 rfl ⟨by decide, by decide⟩ ⟨Nat.zero_le _, Nat.zero_le _⟩ (c_Law_size X N h21 11 isL_i11) rfl rfl (Nat.le_of_ble_eq_true rfl) dX2_readClause_96 (fun x23 => ?_)
                refine ro_istore_n (pc := 99) (lv' := [(2, .int x23), (0, .ref (xa X 10)), (1, .int x11)]) dX2_readClause_99 rfl (by decide) rfl ?_
                refine ro_aload_n (pc := 100) 1 dX2_readClause_100 rfl rfl ?_
                refine gf_X2_1 (pc := 101) wd_202 dX2_readClause_101 ?_
                refine ro_sipush (v := (-1000)) (pc := 104) dX2_readClause_104 (by decide) ?_
                refine ro_cvV (pc := 107) (kc := 1) (avs := [.int (-1000)]) (st := []) ok_Law_add wd_536 cl_11 cv_11 rfl ⟨by decide, by decide⟩ ⟨Nat.zero_le _, Nat.zero_le _⟩ (c_Law_add X N h21 11 isL_i11 (-1000)) rfl rfl (Nat.le_of_ble_eq_true rfl) dX2_readClause_107 (fun h24 => ?_)
                refine ro_aload_n (pc := 110) 1 dX2_readClause_110 rfl rfl ?_
                refine ro_iconst (v := 0) (pc := 111) dX2_readClause_111 (by decide) ?_
                refine ro_cvI (pc := 112) (kc := 33) (avs := [.int 0]) (st := []) ok_LRd_readSum wd_519 cl_10 cv_10 rfl ⟨by decide, by decide⟩ ⟨Nat.zero_le _, Nat.zero_le _⟩ (c_LRd_readSum X N h24 0) rfl rfl (Nat.le_of_ble_eq_true rfl) dX2_readClause_112 (fun x25 h26 => ?_)
                refine ro_if_ne (tgt := 120) (pc := 115) dX2_readClause_115 (by decide) (fun _ => ?_) (fun _ => ?_)
                · skip
                  refine ro_aload_n (pc := 120) 1 dX2_readClause_120 rfl rfl ?_
                  refine gf_X2_1 (pc := 121) wd_202 dX2_readClause_121 ?_
                  refine ro_bipush (v := (-59)) (pc := 124) dX2_readClause_124 (by decide) ?_
                  refine ro_cvV (pc := 126) (kc := 1) (avs := [.int (-59)]) (st := []) ok_Law_add wd_536 cl_11 cv_11 rfl ⟨by decide, by decide⟩ ⟨Nat.zero_le _, Nat.zero_le _⟩ (c_Law_add X N h26 11 isL_i11 (-59)) rfl rfl (Nat.le_of_ble_eq_true rfl) dX2_readClause_126 (fun h28 => ?_)
                  refine ro_aload_n (pc := 129) 1 dX2_readClause_129 rfl rfl ?_
                  refine gf_X2_1 (pc := 130) wd_202 dX2_readClause_130 ?_
                  refine ro_iload_n (pc := 133) 0 dX2_readClause_133 rfl rfl ?_
                  refine ro_cvV (pc := 134) (kc := 1) (avs := [.int x23]) (st := []) ok_Law_leapFrom wd_561 cl_11 cv_11 rfl ⟨by decide, by decide⟩ ⟨Nat.zero_le _, Nat.zero_le _⟩ (c_Law_leapFrom X N h28 11 isL_i11 x23) rfl rfl (Nat.le_of_ble_eq_true rfl) dX2_readClause_134 (fun h29 => ?_)
                  refine ro_iconst (v := 1) (pc := 137) dX2_readClause_137 (by decide) ?_
                  exact ro_zret (pc := 138) rfl rfl rfl dX2_readClause_138
                · skip
                  refine ro_iconst (v := 0) (pc := 118) dX2_readClause_118 (by decide) ?_
                  exact ro_zret (pc := 119) rfl rfl rfl dX2_readClause_119
              · skip
                refine ro_iconst (v := 0) (pc := 90) dX2_readClause_90 (by decide) ?_
                exact ro_zret (pc := 91) rfl rfl rfl dX2_readClause_91
          · skip
            refine ro_if_eq (tgt := 72) (pc := 59) dX2_readClause_59 (by decide) (fun _ => ?_) (fun _ => ?_)
            · skip
              exact hj15 h14
            · skip
              refine ro_aload_n (pc := 62) 0 dX2_readClause_62 rfl rfl ?_
              refine ro_cvI (pc := 63) (kc := 2) (avs := []) (st := []) ok_LRd_next wd_513 cl_10 cv_10 rfl ⟨by decide, by decide⟩ ⟨Nat.zero_le _, Nat.zero_le _⟩ (c_LRd_next X N h14) rfl rfl (Nat.le_of_ble_eq_true rfl) dX2_readClause_63 (fun x30 h31 => ?_)
              refine ro_csP (pc := 66) (kc := 1) (avs := [.int x30]) (st := []) ok_LRd_isComparison wd_542 ⟨by decide, by decide⟩ ⟨Nat.zero_le _, Nat.zero_le _⟩ (c_LRd_isComparison X N h31 x30) rfl rfl (Nat.le_of_ble_eq_true rfl) dX2_readClause_66 (fun x33 => ?_)
              refine ro_if_eq (tgt := 139) (pc := 69) dX2_readClause_69 (by decide) (fun _ => ?_) (fun _ => ?_)
              · skip
                refine ro_aload_n (pc := 139) 0 dX2_readClause_139 rfl rfl ?_
                refine gf_X2_1 (pc := 140) wd_202 dX2_readClause_140 ?_
                refine ro_bipush (v := (-59)) (pc := 143) dX2_readClause_143 (by decide) ?_
                refine ro_cvV (pc := 145) (kc := 1) (avs := [.int (-59)]) (st := []) ok_Law_add wd_536 cl_11 cv_11 rfl ⟨by decide, by decide⟩ ⟨Nat.zero_le _, Nat.zero_le _⟩ (c_Law_add X N h31 11 isL_i11 (-59)) rfl rfl (Nat.le_of_ble_eq_true rfl) dX2_readClause_145 (fun h34 => ?_)
                refine ro_iconst (v := 1) (pc := 148) dX2_readClause_148 (by decide) ?_
                exact ro_zret (pc := 149) rfl rfl rfl dX2_readClause_149
              · skip
                exact hj15 h31
        · skip
          refine ro_if_eq (tgt := 58) (pc := 45) dX2_readClause_45 (by decide) (fun _ => ?_) (fun _ => ?_)
          · skip
            refine ro_lv [1, 0] rfl ?_
            exact hj13 h12
          · skip
            refine ro_aload_n (pc := 48) 1 dX2_readClause_48 rfl rfl ?_
            refine ro_iconst (v := 0) (pc := 49) dX2_readClause_49 (by decide) ?_
            refine ro_cvI (pc := 50) (kc := 33) (avs := [.int 0]) (st := []) ok_LRd_readSum wd_519 cl_10 cv_10 rfl ⟨by decide, by decide⟩ ⟨Nat.zero_le _, Nat.zero_le _⟩ (c_LRd_readSum X N h12 0) rfl rfl (Nat.le_of_ble_eq_true rfl) dX2_readClause_50 (fun x35 h36 => ?_)
            refine ro_if_ne (tgt := 58) (pc := 53) dX2_readClause_53 (by decide) (fun _ => ?_) (fun _ => ?_)
            · skip
              refine ro_lv [1, 0] rfl ?_
              exact hj13 h36
            · skip
              refine ro_iconst (v := 0) (pc := 56) dX2_readClause_56 (by decide) ?_
              exact ro_zret (pc := 57) rfl rfl rfl dX2_readClause_57
      · skip
        refine ro_jn (pcj := 42) (lvs := fun (s : mu_H) => [(0, .ref (xa X 10))]) (hs := fun (s : mu_H) => s) (sts := fun (s : mu_H) => []) (fun h39 => ?_) (fun j38 hj38 => ?_)
        · try dsimp only
          refine ro_iconst (v := 0) (pc := 42) dX2_readClause_42 (by decide) ?_
          exact hj10 (0, h39)
        · skip
          refine ro_icmp_eq (tgt := 42) (pc := 26) dX2_readClause_26 (by decide) (fun _ => ?_) (fun _ => ?_)
          · skip
            exact hj38 h8
          · skip
            refine ro_aload_n (pc := 29) 0 dX2_readClause_29 rfl rfl ?_
            refine ro_cvI (pc := 30) (kc := 2) (avs := []) (st := []) ok_LRd_next wd_513 cl_10 cv_10 rfl ⟨by decide, by decide⟩ ⟨Nat.zero_le _, Nat.zero_le _⟩ (c_LRd_next X N h8) rfl rfl (Nat.le_of_ble_eq_true rfl) dX2_readClause_30 (fun x40 h41 => ?_)
            refine ro_bipush (v := 40) (pc := 33) dX2_readClause_33 (by decide) ?_
            refine ro_icmp_eq (tgt := 42) (pc := 35) dX2_readClause_35 (by decide) (fun _ => ?_) (fun _ => ?_)
            · skip
              exact hj38 h41
            · skip
              refine ro_iconst (v := 1) (pc := 38) dX2_readClause_38 (by decide) ?_
              refine ro_goto (tgt := 43) (pc := 39) dX2_readClause_39 (by decide) ?_
              exact hj10 (1, h41)
    · skip
      refine ro_iconst (v := 0) (pc := 18) dX2_readClause_18 (by decide) ?_
      exact ro_zret (pc := 19) rfl rfl rfl dX2_readClause_19
theorem c_LRd_readClause (X : mu_X) (N : Nat) (h : mu_H) : ∀ r, f_LRd_readClause N h = some r → mI X m_LRd_readClause 66 [.ref (xa X 10)] h r.1 r.2 := fun r hr => mI_of (by decide) rfl (Nat.le_of_ble_eq_true rfl) rfl (cb_LRd_readClause X N h r hr)
set_option maxRecDepth 20000 in
theorem cb_LRd_firstWrong (X : mu_X) (N : Nat) (h : mu_H) : aG X m_LRd_firstWrong (rmk 67) (fun _ => ax X) (fun _ _ _ => True) 0 0 (fun r : Int32 × mu_H => qI X r.1 r.2) (f_LRd_firstWrong N h) 0 [(0, .ref (xa X 10))] [] h := by
  unfold f_LRd_firstWrong
  refine ro_aload_n (pc := 0) 0 dX2_firstWrong_0 rfl rfl ?_
  refine ro_iconst (v := 0) (pc := 1) dX2_firstWrong_1 (by decide) ?_
  refine pf_X2_2 (pc := 2) wd_203 dX2_firstWrong_2 ?_
  refine ro_bnh (fun h1 => ?_)
  refine ro_aload_n (pc := 5) 0 dX2_firstWrong_5 rfl rfl ?_
  refine gf_X2_1 (pc := 6) wd_202 dX2_firstWrong_6 ?_
  refine ro_cvV (pc := 9) (kc := 1) (avs := []) (st := []) ok_Law_empty wd_501 cl_11 cv_11 rfl ⟨by decide, by decide⟩ ⟨Nat.zero_le _, Nat.zero_le _⟩ (c_Law_empty X N h1 11 isL_i11) rfl rfl (Nat.le_of_ble_eq_true rfl) dX2_firstWrong_9 (fun h2 => ?_)
  refine ro_iconst (v := 0) (pc := 12) dX2_firstWrong_12 (by decide) ?_
  refine ro_istore_n (pc := 13) (lv' := [(1, .int 0), (0, .ref (xa X 10))]) dX2_firstWrong_13 rfl (by decide) rfl ?_
  refine ro_jn (pcj := 28) (lvs := fun (s : mu_H) => [(0, .ref (xa X 10))]) (hs := fun (s : mu_H) => s) (sts := fun (s : mu_H) => []) (fun h4 => ?_) (fun k3 hk3 => ?_)
  · try dsimp only
    refine ro_aload_n (pc := 28) 0 dX2_firstWrong_28 rfl rfl ?_
    refine gf_X2_2 (pc := 29) wd_203 dX2_firstWrong_29 ?_
    exact ro_iret (pc := 32) rfl rfl dX2_firstWrong_32
  · skip
    refine ro_jn (pcj := 51) (lvs := fun (s : mu_H) => [(0, .ref (xa X 10))]) (hs := fun (s : mu_H) => s) (sts := fun (s : mu_H) => []) (fun h6 => ?_) (fun k5 hk5 => ?_)
    · try dsimp only
      refine ro_aload_n (pc := 51) 0 dX2_firstWrong_51 rfl rfl ?_
      refine gf_X2_2 (pc := 52) wd_203 dX2_firstWrong_52 ?_
      exact ro_iret (pc := 55) rfl rfl dX2_firstWrong_55
    · skip
      refine ro_jn (pcj := 62) (lvs := fun (s : mu_H) => [(0, .ref (xa X 10))]) (hs := fun (s : mu_H) => s) (sts := fun (s : mu_H) => []) (fun h8 => ?_) (fun k7 hk7 => ?_)
      · try dsimp only
        refine ro_aload_n (pc := 62) 0 dX2_firstWrong_62 rfl rfl ?_
        refine gf_X2_2 (pc := 63) wd_203 dX2_firstWrong_63 ?_
        exact ro_iret (pc := 66) rfl rfl dX2_firstWrong_66
      · skip
        refine ro_lv [1, 0] rfl ?_
        refine ro_lp (pc := 14) (lvs := fun (s : Int32 × mu_H) => [(0, .ref (xa X 10)), (1, .int s.1)]) (hs := fun (s : Int32 × mu_H) => s.2) (fun rec9 hrec9 s => ?_) N (0, h2)
        obtain ⟨x10, h11⟩ := s; unfold f_LRd_firstWrong_L14; try dsimp only
        refine ro_iload_n (pc := 14) 1 dX2_firstWrong_14 rfl rfl ?_
        refine ro_sipush (v := 240) (pc := 15) dX2_firstWrong_15 (by decide) ?_
        refine ro_icmp_gt (tgt := 62) (pc := 18) dX2_firstWrong_18 (by decide) (fun _ => ?_) (fun _ => ?_)
        · skip
          refine ro_lv [0] rfl ?_
          exact hk7 h11
        · skip
          refine ro_aload_n (pc := 21) 0 dX2_firstWrong_21 rfl rfl ?_
          refine ro_cvI (pc := 22) (kc := 66) (avs := []) (st := []) ok_LRd_readClause wd_505 cl_10 cv_10 rfl ⟨by decide, by decide⟩ ⟨Nat.zero_le _, Nat.zero_le _⟩ (c_LRd_readClause X N h11) rfl rfl (Nat.le_of_ble_eq_true rfl) dX2_firstWrong_22 (fun x12 h13 => ?_)
          refine ro_if_ne (tgt := 33) (pc := 25) dX2_firstWrong_25 (by decide) (fun _ => ?_) (fun _ => ?_)
          · skip
            refine ro_aload_n (pc := 33) 0 dX2_firstWrong_33 rfl rfl ?_
            refine ro_cvI (pc := 34) (kc := 2) (avs := []) (st := []) ok_LRd_next wd_513 cl_10 cv_10 rfl ⟨by decide, by decide⟩ ⟨Nat.zero_le _, Nat.zero_le _⟩ (c_LRd_next X N h13) rfl rfl (Nat.le_of_ble_eq_true rfl) dX2_firstWrong_34 (fun x15 h16 => ?_)
            refine ro_if_ne (tgt := 42) (pc := 37) dX2_firstWrong_37 (by decide) (fun _ => ?_) (fun _ => ?_)
            · skip
              refine ro_aload_n (pc := 42) 0 dX2_firstWrong_42 rfl rfl ?_
              refine ro_bipush (v := 59) (pc := 43) dX2_firstWrong_43 (by decide) ?_
              refine ro_cvI (pc := 45) (kc := 3) (avs := [.int 59]) (st := []) ok_LRd_skip wd_509 cl_10 cv_10 rfl ⟨by decide, by decide⟩ ⟨Nat.zero_le _, Nat.zero_le _⟩ (c_LRd_skip X N h16 59) rfl rfl (Nat.le_of_ble_eq_true rfl) dX2_firstWrong_45 (fun x18 h19 => ?_)
              refine ro_if_ne (tgt := 56) (pc := 48) dX2_firstWrong_48 (by decide) (fun _ => ?_) (fun _ => ?_)
              · skip
                refine ro_iinc (pc := 56) (v := x10 + 1) (lv' := [(1, .int (x10 + 1)), (0, .ref (xa X 10))]) 1 dX2_firstWrong_56 rfl rfl (by decide) rfl ?_
                refine ro_goto (tgt := 14) (pc := 59) dX2_firstWrong_59 (by decide) ?_
                refine ro_lv [1, 0] rfl ?_
                exact hrec9 (x10 + 1, h19)
              · skip
                refine ro_lv [0] rfl ?_
                exact hk5 h19
            · skip
              refine ro_iconst (v := (-1)) (pc := 40) dX2_firstWrong_40 (by decide) ?_
              exact ro_iret (pc := 41) rfl rfl dX2_firstWrong_41
          · skip
            refine ro_lv [0] rfl ?_
            exact hk3 h13
theorem c_LRd_firstWrong (X : mu_X) (N : Nat) (h : mu_H) : ∀ r, f_LRd_firstWrong N h = some r → mI X m_LRd_firstWrong 67 [.ref (xa X 10)] h r.1 r.2 := fun r hr => mI_of (by decide) rfl (Nat.le_of_ble_eq_true rfl) rfl (cb_LRd_firstWrong X N h r hr)
set_option maxRecDepth 20000 in
theorem cb_PRd_addRow (X : mu_X) (N : Nat) (h : mu_H) (a1 : Int32) : aG X m_PRd_addRow (rmk 2) (fun _ => ax X) (fun _ _ _ => True) 0 0 (fun r : Int32 × mu_H => qI X r.1 r.2) (f_PRd_addRow N h a1) 0 [(0, .ref (xa X 6)), (1, .int a1)] [] h := by
  unfold f_PRd_addRow
  refine ro_iload_n (pc := 0) 1 dX5_addRow_0 rfl rfl ?_
  refine ro_if_ne (tgt := 11) (pc := 1) dX5_addRow_1 (by decide) (fun _ => ?_) (fun _ => ?_)
  · skip
    refine ro_iload_n (pc := 11) 1 dX5_addRow_11 rfl rfl ?_
    refine ro_iconst (v := 1) (pc := 12) dX5_addRow_12 (by decide) ?_
    refine ro_icmp_ne (tgt := 26) (pc := 13) dX5_addRow_13 (by decide) (fun _ => ?_) (fun _ => ?_)
    · skip
      refine ro_aload_n (pc := 26) 0 dX5_addRow_26 rfl rfl ?_
      refine gf_X5_1 (pc := 27) wd_167 dX5_addRow_27 ?_
      refine ro_cvI (pc := 30) (kc := 1) (avs := []) (st := []) ok_Par_addHouse wd_466 cl_7 cv_7 rfl ⟨by decide, by decide⟩ ⟨Nat.zero_le _, Nat.zero_le _⟩ (c_Par_addHouse X N h 7 isP_i7) rfl rfl (Nat.le_of_ble_eq_true rfl) dX5_addRow_30 (fun x1 h2 => ?_)
      exact ro_iret (pc := 33) rfl rfl dX5_addRow_33
    · skip
      refine ro_aload_n (pc := 16) 0 dX5_addRow_16 rfl rfl ?_
      refine gf_X5_1 (pc := 17) wd_167 dX5_addRow_17 ?_
      refine ro_cvI (pc := 20) (kc := 1) (avs := []) (st := []) ok_Par_addStretch wd_462 cl_7 cv_7 rfl ⟨by decide, by decide⟩ ⟨Nat.zero_le _, Nat.zero_le _⟩ (c_Par_addStretch X N h 7 isP_i7) rfl rfl (Nat.le_of_ble_eq_true rfl) dX5_addRow_20 (fun x4 h5 => ?_)
      refine ro_goto (tgt := 33) (pc := 23) dX5_addRow_23 (by decide) ?_
      exact ro_iret (pc := 33) rfl rfl dX5_addRow_33
  · skip
    refine ro_aload_n (pc := 4) 0 dX5_addRow_4 rfl rfl ?_
    refine ro_iconst (v := 1) (pc := 5) dX5_addRow_5 (by decide) ?_
    refine pf_X5_2 (pc := 6) rfl rfl wd_168 dX5_addRow_6 ?_
    refine ro_bnh (fun h7 => ?_)
    refine ro_iconst (v := 0) (pc := 9) dX5_addRow_9 (by decide) ?_
    exact ro_iret (pc := 10) rfl rfl dX5_addRow_10
theorem c_PRd_addRow (X : mu_X) (N : Nat) (h : mu_H) (a1 : Int32) : ∀ r, f_PRd_addRow N h a1 = some r → mI X m_PRd_addRow 2 [.ref (xa X 6), .int a1] h r.1 r.2 := fun r hr => mI_of (by decide) rfl (Nat.le_of_ble_eq_true rfl) rfl (cb_PRd_addRow X N h a1 r hr)
set_option maxRecDepth 20000 in
theorem cb_PRd_setAsWithout (X : mu_X) (N : Nat) (h : mu_H) (a1 : Int32) (a2 : Int32) : aG X m_PRd_setAsWithout (rmk 2) (fun _ => ax X) (fun _ _ _ => True) 0 0 (fun r : mu_H => qV X r) (f_PRd_setAsWithout N h a1 a2) 0 [(0, .ref (xa X 6)), (1, .int a1), (2, .int a2)] [] h := by
  unfold f_PRd_setAsWithout
  refine ro_gets (kk := 0) (pc := 0) rfl wd_423 dX5_setAsWithout_0 ?_
  refine ro_iload_n (pc := 3) 1 dX5_setAsWithout_3 rfl rfl ?_
  refine ti_0 (pc := 4) dX5_setAsWithout_4 ?_
  refine ro_bn (fun x1 => ?_)
  refine ro_istore_n (pc := 5) (lv' := [(3, .int x1), (0, .ref (xa X 6)), (1, .int a1), (2, .int a2)]) dX5_setAsWithout_5 rfl (by decide) rfl ?_
  refine ro_iload_n (pc := 6) 0 dX5_setAsWithout_6 rfl rfl ?_
  refine ro_istore (pc := 7) (lv' := [(4, .int x1), (3, .int x1), (0, .ref (xa X 6)), (1, .int a1), (2, .int a2)]) dX5_setAsWithout_7 (by decide) rfl ?_
  refine ro_lv [2, 3, 4, 1, 0] rfl ?_
  refine ro_lp (pc := 9) (lvs := fun (s : Int32 × mu_H) => [(0, .ref (xa X 6)), (1, .int a1), (2, .int a2), (3, .int x1), (4, .int s.1)]) (hs := fun (s : Int32 × mu_H) => s.2) (fun rec2 hrec2 s => ?_) N (x1, h)
  obtain ⟨x3, h4⟩ := s; unfold f_PRd_setAsWithout_L9; try dsimp only
  refine ro_iload (pc := 9) 4 dX5_setAsWithout_9 rfl ?_
  refine ro_gets (kk := 0) (pc := 11) rfl wd_423 dX5_setAsWithout_11 ?_
  refine ro_iload_n (pc := 14) 1 dX5_setAsWithout_14 rfl rfl ?_
  refine ro_iconst (v := 1) (pc := 15) dX5_setAsWithout_15 (by decide) ?_
  refine ro_iadd (pc := 16) dX5_setAsWithout_16 ?_
  refine ti_0 (pc := 17) dX5_setAsWithout_17 ?_
  refine ro_icmp_ge (tgt := 45) (pc := 18) dX5_setAsWithout_18 (by decide) (fun _ => ?_) (fun _ => ?_)
  · skip
    exact ro_vret (pc := 45) rfl rfl dX5_setAsWithout_45
  · skip
    refine ro_aload_n (pc := 21) 0 dX5_setAsWithout_21 rfl rfl ?_
    refine gf_X5_1 (pc := 22) wd_167 dX5_setAsWithout_22 ?_
    refine ro_iload_n (pc := 25) 2 dX5_setAsWithout_25 rfl rfl ?_
    refine ro_iload (pc := 26) 4 dX5_setAsWithout_26 rfl ?_
    refine ro_iload_n (pc := 28) 3 dX5_setAsWithout_28 rfl rfl ?_
    refine ro_isub (pc := 29) dX5_setAsWithout_29 ?_
    refine ro_gets (kk := 1) (pc := 30) rfl wd_425 dX5_setAsWithout_30 ?_
    refine ro_iload (pc := 33) 4 dX5_setAsWithout_33 rfl ?_
    refine ti_1 (pc := 35) dX5_setAsWithout_35 ?_
    refine ro_cvV (pc := 36) (kc := 1) (avs := [.int a2, .int (x3 - x1), .int (sv_1.getD x3.toNatClampNeg 0)]) (st := []) ok_Par_set wd_427 cl_7 cv_7 rfl ⟨by decide, by decide⟩ ⟨Nat.zero_le _, Nat.zero_le _⟩ (c_Par_set X N h4 7 isP_i7 a2 (x3 - x1) (sv_1.getD x3.toNatClampNeg 0)) rfl rfl (Nat.le_of_ble_eq_true rfl) dX5_setAsWithout_36 (fun h5 => ?_)
    refine ro_iinc (pc := 39) (v := x3 + 1) (lv' := [(4, .int (x3 + 1)), (0, .ref (xa X 6)), (1, .int a1), (2, .int a2), (3, .int x1)]) 4 dX5_setAsWithout_39 rfl rfl (by decide) rfl ?_
    refine ro_goto (tgt := 9) (pc := 42) dX5_setAsWithout_42 (by decide) ?_
    refine ro_lv [1, 2, 3, 4, 0] rfl ?_
    exact hrec2 (x3 + 1, h5)
theorem c_PRd_setAsWithout (X : mu_X) (N : Nat) (h : mu_H) (a1 : Int32) (a2 : Int32) : ∀ r, f_PRd_setAsWithout N h a1 a2 = some r → mV X m_PRd_setAsWithout 2 [.ref (xa X 6), .int a1, .int a2] h r := fun r hr => mV_of (by decide) rfl (Nat.le_of_ble_eq_true rfl) rfl (cb_PRd_setAsWithout X N h a1 a2 r hr)
set_option maxRecDepth 20000 in
theorem cb_PRd_sortOf (X : mu_X) (N : Nat) (h : mu_H) (a0 : Int32) : aG X m_PRd_sortOf (rmk 1) (fun _ => ax X) (fun _ _ _ => True) 0 0 (fun r : Int32 => qI X r h) (f_PRd_sortOf N h a0) 0 [(0, .int a0)] [] h := by
  unfold f_PRd_sortOf
  refine ro_iload_n (pc := 0) 0 dX5_sortOf_0 rfl rfl ?_
  refine ro_bipush (v := 115) (pc := 1) dX5_sortOf_1 (by decide) ?_
  refine ro_icmp_ne (tgt := 8) (pc := 3) dX5_sortOf_3 (by decide) (fun _ => ?_) (fun _ => ?_)
  · skip
    refine ro_iload_n (pc := 8) 0 dX5_sortOf_8 rfl rfl ?_
    refine ro_bipush (v := 114) (pc := 9) dX5_sortOf_9 (by decide) ?_
    refine ro_icmp_ne (tgt := 16) (pc := 11) dX5_sortOf_11 (by decide) (fun _ => ?_) (fun _ => ?_)
    · skip
      refine ro_iload_n (pc := 16) 0 dX5_sortOf_16 rfl rfl ?_
      refine ro_bipush (v := 104) (pc := 17) dX5_sortOf_17 (by decide) ?_
      refine ro_icmp_ne (tgt := 26) (pc := 19) dX5_sortOf_19 (by decide) (fun _ => ?_) (fun _ => ?_)
      · skip
        refine ro_iconst (v := (-1)) (pc := 26) dX5_sortOf_26 (by decide) ?_
        exact ro_iret (pc := 27) rfl rfl dX5_sortOf_27
      · skip
        refine ro_iconst (v := 2) (pc := 22) dX5_sortOf_22 (by decide) ?_
        refine ro_goto (tgt := 27) (pc := 23) dX5_sortOf_23 (by decide) ?_
        exact ro_iret (pc := 27) rfl rfl dX5_sortOf_27
    · skip
      refine ro_iconst (v := 1) (pc := 14) dX5_sortOf_14 (by decide) ?_
      exact ro_iret (pc := 15) rfl rfl dX5_sortOf_15
  · skip
    refine ro_iconst (v := 0) (pc := 6) dX5_sortOf_6 (by decide) ?_
    exact ro_iret (pc := 7) rfl rfl dX5_sortOf_7
theorem c_PRd_sortOf (X : mu_X) (N : Nat) (h : mu_H) (a0 : Int32) : ∀ r, f_PRd_sortOf N h a0 = some r → mI X m_PRd_sortOf 1 [.int a0] h r h := fun r hr => mI_of (by decide) rfl (Nat.le_of_ble_eq_true rfl) rfl (cb_PRd_sortOf X N h a0 r hr)
set_option maxRecDepth 20000 in
theorem cb_PRd_hasRoomFor (X : mu_X) (N : Nat) (h : mu_H) (a1 : Int32) : aG X m_PRd_hasRoomFor (rmk 2) (fun _ => ax X) (fun _ _ _ => True) 0 0 (fun r : Int32 => qI X r h) (f_PRd_hasRoomFor N h a1) 0 [(0, .ref (xa X 6)), (1, .int a1)] [] h := by
  unfold f_PRd_hasRoomFor
  refine ro_iload_n (pc := 0) 1 dX5_hasRoomFor_0 rfl rfl ?_
  refine ro_if_ne (tgt := 17) (pc := 1) dX5_hasRoomFor_1 (by decide) (fun _ => ?_) (fun _ => ?_)
  · skip
    refine ro_iload_n (pc := 17) 1 dX5_hasRoomFor_17 rfl rfl ?_
    refine ro_iconst (v := 1) (pc := 18) dX5_hasRoomFor_18 (by decide) ?_
    refine ro_icmp_ne (tgt := 42) (pc := 19) dX5_hasRoomFor_19 (by decide) (fun _ => ?_) (fun _ => ?_)
    · skip
      refine ro_aload_n (pc := 42) 0 dX5_hasRoomFor_42 rfl rfl ?_
      refine gf_X5_1 (pc := 43) wd_167 dX5_hasRoomFor_43 ?_
      refine ro_cvP (pc := 46) (kc := 1) (avs := []) (st := []) ok_Par_houses wd_454 cl_7 cv_7 rfl ⟨by decide, by decide⟩ ⟨Nat.zero_le _, Nat.zero_le _⟩ (c_Par_houses X N h 7 isP_i7) rfl rfl (Nat.le_of_ble_eq_true rfl) dX5_hasRoomFor_46 (fun x1 => ?_)
      refine ro_bipush (v := 6) (pc := 49) dX5_hasRoomFor_49 (by decide) ?_
      refine ro_icmp_ge (tgt := 58) (pc := 51) dX5_hasRoomFor_51 (by decide) (fun _ => ?_) (fun _ => ?_)
      · skip
        refine ro_iconst (v := 0) (pc := 58) dX5_hasRoomFor_58 (by decide) ?_
        exact ro_zret (pc := 59) rfl rfl rfl dX5_hasRoomFor_59
      · skip
        refine ro_iconst (v := 1) (pc := 54) dX5_hasRoomFor_54 (by decide) ?_
        refine ro_goto (tgt := 59) (pc := 55) dX5_hasRoomFor_55 (by decide) ?_
        exact ro_zret (pc := 59) rfl rfl rfl dX5_hasRoomFor_59
    · skip
      refine ro_aload_n (pc := 22) 0 dX5_hasRoomFor_22 rfl rfl ?_
      refine gf_X5_1 (pc := 23) wd_167 dX5_hasRoomFor_23 ?_
      refine ro_cvP (pc := 26) (kc := 1) (avs := []) (st := []) ok_Par_stretches wd_450 cl_7 cv_7 rfl ⟨by decide, by decide⟩ ⟨Nat.zero_le _, Nat.zero_le _⟩ (c_Par_stretches X N h 7 isP_i7) rfl rfl (Nat.le_of_ble_eq_true rfl) dX5_hasRoomFor_26 (fun x2 => ?_)
      refine ro_bipush (v := 9) (pc := 29) dX5_hasRoomFor_29 (by decide) ?_
      refine ro_icmp_ge (tgt := 38) (pc := 31) dX5_hasRoomFor_31 (by decide) (fun _ => ?_) (fun _ => ?_)
      · skip
        refine ro_iconst (v := 0) (pc := 38) dX5_hasRoomFor_38 (by decide) ?_
        refine ro_goto (tgt := 59) (pc := 39) dX5_hasRoomFor_39 (by decide) ?_
        exact ro_zret (pc := 59) rfl rfl rfl dX5_hasRoomFor_59
      · skip
        refine ro_iconst (v := 1) (pc := 34) dX5_hasRoomFor_34 (by decide) ?_
        refine ro_goto (tgt := 59) (pc := 35) dX5_hasRoomFor_35 (by decide) ?_
        exact ro_zret (pc := 59) rfl rfl rfl dX5_hasRoomFor_59
  · skip
    refine ro_aload_n (pc := 4) 0 dX5_hasRoomFor_4 rfl rfl ?_
    refine gf_X5_2 (pc := 5) wd_168 dX5_hasRoomFor_5 ?_
    refine ro_if_ne (tgt := 15) (pc := 8) dX5_hasRoomFor_8 (by decide) (fun _ => ?_) (fun _ => ?_)
    · skip
      refine ro_iconst (v := 0) (pc := 15) dX5_hasRoomFor_15 (by decide) ?_
      exact ro_zret (pc := 16) rfl rfl rfl dX5_hasRoomFor_16
    · skip
      refine ro_iconst (v := 1) (pc := 11) dX5_hasRoomFor_11 (by decide) ?_
      refine ro_goto (tgt := 16) (pc := 12) dX5_hasRoomFor_12 (by decide) ?_
      exact ro_zret (pc := 16) rfl rfl rfl dX5_hasRoomFor_16
theorem c_PRd_hasRoomFor (X : mu_X) (N : Nat) (h : mu_H) (a1 : Int32) : ∀ r, f_PRd_hasRoomFor N h a1 = some r → mI X m_PRd_hasRoomFor 2 [.ref (xa X 6), .int a1] h r h := fun r hr => mI_of (by decide) rfl (Nat.le_of_ble_eq_true rfl) rfl (cb_PRd_hasRoomFor X N h a1 r hr)
set_option maxRecDepth 20000 in
theorem cb_PRd_letterOf (X : mu_X) (N : Nat) (h : mu_H) (a0 : Int32) (a1 : Int32) : aG X m_PRd_letterOf (rmk 1) (fun _ => ax X) (fun _ _ _ => True) 0 0 (fun r : Int32 => qI X r h) (f_PRd_letterOf N h a0 a1) 0 [(0, .int a0), (1, .int a1)] [] h := by
  unfold f_PRd_letterOf
  refine ro_gets (kk := 0) (pc := 0) rfl wd_423 dX5_letterOf_0 ?_
  refine ro_iload_n (pc := 3) 0 dX5_letterOf_3 rfl rfl ?_
  refine ti_0 (pc := 4) dX5_letterOf_4 ?_
  refine ro_bn (fun x1 => ?_)
  refine ro_istore_n (pc := 5) (lv' := [(2, .int x1), (0, .int a0), (1, .int a1)]) dX5_letterOf_5 rfl (by decide) rfl ?_
  refine ro_lv [1, 2, 0] rfl ?_
  refine ro_lp (pc := 6) (lvs := fun (s : Int32) => [(0, .int a0), (1, .int a1), (2, .int s)]) (hs := fun (s : Int32) => h) (fun rec2 hrec2 x3 => ?_) N x1
  unfold f_PRd_letterOf_L6; try dsimp only
  refine ro_iload_n (pc := 6) 2 dX5_letterOf_6 rfl rfl ?_
  refine ro_gets (kk := 0) (pc := 7) rfl wd_423 dX5_letterOf_7 ?_
  refine ro_iload_n (pc := 10) 0 dX5_letterOf_10 rfl rfl ?_
  refine ro_iconst (v := 1) (pc := 11) dX5_letterOf_11 (by decide) ?_
  refine ro_iadd (pc := 12) dX5_letterOf_12 ?_
  refine ti_0 (pc := 13) dX5_letterOf_13 ?_
  refine ro_icmp_ge (tgt := 34) (pc := 14) dX5_letterOf_14 (by decide) (fun _ => ?_) (fun _ => ?_)
  · skip
    refine ro_iconst (v := (-1)) (pc := 34) dX5_letterOf_34 (by decide) ?_
    exact ro_iret (pc := 35) rfl rfl dX5_letterOf_35
  · skip
    refine ro_gets (kk := 2) (pc := 17) rfl wd_474 dX5_letterOf_17 ?_
    refine ro_iload_n (pc := 20) 2 dX5_letterOf_20 rfl rfl ?_
    refine ti_2 (pc := 21) dX5_letterOf_21 ?_
    refine ro_iload_n (pc := 22) 1 dX5_letterOf_22 rfl rfl ?_
    refine ro_icmp_ne (tgt := 28) (pc := 23) dX5_letterOf_23 (by decide) (fun _ => ?_) (fun _ => ?_)
    · skip
      refine ro_iinc (pc := 28) (v := x3 + 1) (lv' := [(2, .int (x3 + 1)), (0, .int a0), (1, .int a1)]) 2 dX5_letterOf_28 rfl rfl (by decide) rfl ?_
      refine ro_goto (tgt := 6) (pc := 31) dX5_letterOf_31 (by decide) ?_
      refine ro_lv [1, 2, 0] rfl ?_
      exact hrec2 (x3 + 1)
    · skip
      refine ro_iload_n (pc := 26) 2 dX5_letterOf_26 rfl rfl ?_
      exact ro_iret (pc := 27) rfl rfl dX5_letterOf_27
theorem c_PRd_letterOf (X : mu_X) (N : Nat) (h : mu_H) (a0 : Int32) (a1 : Int32) : ∀ r, f_PRd_letterOf N h a0 a1 = some r → mI X m_PRd_letterOf 1 [.int a0, .int a1] h r h := fun r hr => mI_of (by decide) rfl (Nat.le_of_ble_eq_true rfl) rfl (cb_PRd_letterOf X N h a0 a1 r hr)
set_option maxRecDepth 20000 in
theorem cb_PRd_readNumber (X : mu_X) (N : Nat) (h : mu_H) (a1 : Int32) (a2 : Int32) (a3 : Int32) : aG X m_PRd_readNumber (rmk 3) (fun _ => ax X) (fun _ _ _ => True) 0 0 (fun r : Int32 × mu_H => qI X r.1 r.2) (f_PRd_readNumber N h a1 a2 a3) 0 [(0, .ref (xa X 6)), (1, .int a1), (2, .int a2), (3, .int a3)] [] h := by
  unfold f_PRd_readNumber
  refine ro_aload_n (pc := 0) 0 dX5_readNumber_0 rfl rfl ?_
  refine gf_X5_0 (pc := 1) wd_166 dX5_readNumber_1 ?_
  refine ro_aload_n (pc := 4) 0 dX5_readNumber_4 rfl rfl ?_
  refine gf_X5_3 (pc := 5) wd_169 dX5_readNumber_5 ?_
  refine ro_cvP (pc := 8) (kc := 2) (avs := [.int (h.1 6 3)]) (st := []) ok_Tap_isDigit wd_480 cl_1 cv_1 rfl ⟨by decide, by decide⟩ ⟨Nat.zero_le _, Nat.zero_le _⟩ (c_Tap_isDigit X N h (h.1 6 3)) rfl rfl (Nat.le_of_ble_eq_true rfl) dX5_readNumber_8 (fun x1 => ?_)
  refine ro_if_ne (tgt := 16) (pc := 11) dX5_readNumber_11 (by decide) (fun _ => ?_) (fun _ => ?_)
  · skip
    refine ro_aload_n (pc := 16) 0 dX5_readNumber_16 rfl rfl ?_
    refine gf_X5_0 (pc := 17) wd_166 dX5_readNumber_17 ?_
    refine ro_aload_n (pc := 20) 0 dX5_readNumber_20 rfl rfl ?_
    refine gf_X5_3 (pc := 21) wd_169 dX5_readNumber_21 ?_
    refine ro_cvP (pc := 24) (kc := 1) (avs := [.int (h.1 6 3)]) (st := []) ok_Tap_sign wd_439 cl_1 cv_1 rfl ⟨by decide, by decide⟩ ⟨Nat.zero_le _, Nat.zero_le _⟩ (c_Tap_sign X N h (h.1 6 3)) rfl rfl (Nat.le_of_ble_eq_true rfl) dX5_readNumber_24 (fun x2 => ?_)
    refine ro_bipush (v := 48) (pc := 27) dX5_readNumber_27 (by decide) ?_
    refine ro_isub (pc := 29) dX5_readNumber_29 ?_
    refine ro_bn (fun x3 => ?_)
    refine ro_istore (pc := 30) (lv' := [(4, .int x3), (0, .ref (xa X 6)), (1, .int a1), (2, .int a2), (3, .int a3)]) dX5_readNumber_30 (by decide) rfl ?_
    refine ro_aload_n (pc := 32) 1 dX5_readNumber_32 rfl rfl ?_
    refine ro_dup (pc := 33) dX5_readNumber_33 rfl ?_
    refine gf_X5_3 (pc := 34) wd_169 dX5_readNumber_34 ?_
    refine ro_iconst (v := 1) (pc := 37) dX5_readNumber_37 (by decide) ?_
    refine ro_iadd (pc := 38) dX5_readNumber_38 ?_
    refine pf_X5_3 (pc := 39) wd_169 dX5_readNumber_39 ?_
    refine ro_bnh (fun h4 => ?_)
    refine ro_aload_n (pc := 42) 1 dX5_readNumber_42 rfl rfl ?_
    refine gf_X5_0 (pc := 43) wd_166 dX5_readNumber_43 ?_
    refine ro_aload_n (pc := 46) 1 dX5_readNumber_46 rfl rfl ?_
    refine gf_X5_3 (pc := 47) wd_169 dX5_readNumber_47 ?_
    refine ro_cvP (pc := 50) (kc := 2) (avs := [.int (h4.1 6 3)]) (st := []) ok_Tap_isDigit wd_480 cl_1 cv_1 rfl ⟨by decide, by decide⟩ ⟨Nat.zero_le _, Nat.zero_le _⟩ (c_Tap_isDigit X N h4 (h4.1 6 3)) rfl rfl (Nat.le_of_ble_eq_true rfl) dX5_readNumber_50 (fun x5 => ?_)
    refine ro_jn (pcj := 88) (lvs := fun (s : Int32 × mu_H) => [(0, .ref (xa X 6)), (1, .int a1), (2, .int a2), (3, .int a3), (4, .int s.1)]) (hs := fun (s : Int32 × mu_H) => s.2) (sts := fun (s : Int32 × mu_H) => []) (fun s => ?_) (fun j6 hj6 => ?_)
    · obtain ⟨x7, h8⟩ := s; try dsimp only
      refine ro_aload_n (pc := 88) 0 dX5_readNumber_88 rfl rfl ?_
      refine gf_X5_0 (pc := 89) wd_166 dX5_readNumber_89 ?_
      refine ro_aload_n (pc := 92) 0 dX5_readNumber_92 rfl rfl ?_
      refine gf_X5_3 (pc := 93) wd_169 dX5_readNumber_93 ?_
      refine ro_cvP (pc := 96) (kc := 2) (avs := [.int (h8.1 6 3)]) (st := []) ok_Tap_isDigit wd_480 cl_1 cv_1 rfl ⟨by decide, by decide⟩ ⟨Nat.zero_le _, Nat.zero_le _⟩ (c_Tap_isDigit X N h8 (h8.1 6 3)) rfl rfl (Nat.le_of_ble_eq_true rfl) dX5_readNumber_96 (fun x9 => ?_)
      refine ro_if_eq (tgt := 104) (pc := 99) dX5_readNumber_99 (by decide) (fun _ => ?_) (fun _ => ?_)
      · skip
        refine ro_iload (pc := 104) 4 dX5_readNumber_104 rfl ?_
        refine ro_gets (kk := 3) (pc := 106) rfl wd_485 dX5_readNumber_106 ?_
        refine ro_iload_n (pc := 109) 1 dX5_readNumber_109 rfl rfl ?_
        refine ti_3 (pc := 110) dX5_readNumber_110 ?_
        refine ro_jn (pcj := 124) (lvs := fun (s : Unit) => [(0, .ref (xa X 6))]) (hs := fun (s : Unit) => h8) (sts := fun (s : Unit) => []) (fun s => ?_) (fun j10 hj10 => ?_)
        · try dsimp only
          refine ro_aload_n (pc := 124) 0 dX5_readNumber_124 rfl rfl ?_
          refine ro_dup (pc := 125) dX5_readNumber_125 rfl ?_
          refine gf_X5_3 (pc := 126) wd_169 dX5_readNumber_126 ?_
          refine ro_iconst (v := 1) (pc := 129) dX5_readNumber_129 (by decide) ?_
          refine ro_isub (pc := 130) dX5_readNumber_130 ?_
          refine pf_X5_3 (pc := 131) wd_169 dX5_readNumber_131 ?_
          refine ro_bnh (fun h11 => ?_)
          refine ro_iconst (v := 0) (pc := 134) dX5_readNumber_134 (by decide) ?_
          exact ro_zret (pc := 135) rfl rfl rfl dX5_readNumber_135
        · skip
          refine ro_icmp_lt (tgt := 124) (pc := 111) dX5_readNumber_111 (by decide) (fun _ => ?_) (fun _ => ?_)
          · skip
            refine ro_lv [0] rfl ?_
            exact hj10 ()
          · skip
            refine ro_iload (pc := 114) 4 dX5_readNumber_114 rfl ?_
            refine ro_gets (kk := 4) (pc := 116) rfl wd_487 dX5_readNumber_116 ?_
            refine ro_iload_n (pc := 119) 1 dX5_readNumber_119 rfl rfl ?_
            refine ti_4 (pc := 120) dX5_readNumber_120 ?_
            refine ro_icmp_le (tgt := 136) (pc := 121) dX5_readNumber_121 (by decide) (fun _ => ?_) (fun _ => ?_)
            · skip
              refine ro_aload_n (pc := 136) 0 dX5_readNumber_136 rfl rfl ?_
              refine gf_X5_1 (pc := 137) wd_167 dX5_readNumber_137 ?_
              refine ro_iload_n (pc := 140) 2 dX5_readNumber_140 rfl rfl ?_
              refine ro_iload_n (pc := 141) 3 dX5_readNumber_141 rfl rfl ?_
              refine ro_iload (pc := 142) 4 dX5_readNumber_142 rfl ?_
              refine ro_cvV (pc := 144) (kc := 1) (avs := [.int a2, .int a3, .int x7]) (st := []) ok_Par_set wd_427 cl_7 cv_7 rfl ⟨by decide, by decide⟩ ⟨Nat.zero_le _, Nat.zero_le _⟩ (c_Par_set X N h8 7 isP_i7 a2 a3 x7) rfl rfl (Nat.le_of_ble_eq_true rfl) dX5_readNumber_144 (fun h12 => ?_)
              refine ro_iconst (v := 1) (pc := 147) dX5_readNumber_147 (by decide) ?_
              exact ro_zret (pc := 148) rfl rfl rfl dX5_readNumber_148
            · skip
              refine ro_lv [0] rfl ?_
              exact hj10 ()
      · skip
        refine ro_iconst (v := 0) (pc := 102) dX5_readNumber_102 (by decide) ?_
        exact ro_zret (pc := 103) rfl rfl rfl dX5_readNumber_103
    · skip
      refine ro_if_eq (tgt := 88) (pc := 53) dX5_readNumber_53 (by decide) (fun _ => ?_) (fun _ => ?_)
      · skip
        refine ro_lv [1, 2, 3, 4, 0] rfl ?_
        exact hj6 (x3, h4)
      · skip
        refine ro_iload (pc := 56) 0 dX5_readNumber_56 rfl ?_
        refine ro_bipush (v := 10) (pc := 58) dX5_readNumber_58 (by decide) ?_
        refine ro_imul (pc := 60) dX5_readNumber_60 ?_
        refine ro_aload_n (pc := 61) 1 dX5_readNumber_61 rfl rfl ?_
        refine gf_X5_0 (pc := 62) wd_166 dX5_readNumber_62 ?_
        refine ro_aload_n (pc := 65) 1 dX5_readNumber_65 rfl rfl ?_
        refine gf_X5_3 (pc := 66) wd_169 dX5_readNumber_66 ?_
        refine ro_cvP (pc := 69) (kc := 1) (avs := [.int (h4.1 6 3)]) (st := [.int (x3 * 10)]) ok_Tap_sign wd_439 cl_1 cv_1 rfl ⟨by decide, by decide⟩ ⟨Nat.zero_le _, Nat.zero_le _⟩ (c_Tap_sign X N h4 (h4.1 6 3)) rfl rfl (Nat.le_of_ble_eq_true rfl) dX5_readNumber_69 (fun x13 => ?_)
        refine ro_iadd (pc := 72) dX5_readNumber_72 ?_
        refine ro_bipush (v := 48) (pc := 73) dX5_readNumber_73 (by decide) ?_
        refine ro_isub (pc := 75) dX5_readNumber_75 ?_
        refine ro_bn (fun x14 => ?_)
        refine ro_istore (pc := 76) (lv' := [(4, .int x14), (0, .ref (xa X 6)), (1, .int a1), (2, .int a2), (3, .int a3)]) dX5_readNumber_76 (by decide) rfl ?_
        refine ro_aload_n (pc := 78) 1 dX5_readNumber_78 rfl rfl ?_
        refine ro_dup (pc := 79) dX5_readNumber_79 rfl ?_
        refine gf_X5_3 (pc := 80) wd_169 dX5_readNumber_80 ?_
        refine ro_iconst (v := 1) (pc := 83) dX5_readNumber_83 (by decide) ?_
        refine ro_iadd (pc := 84) dX5_readNumber_84 ?_
        refine pf_X5_3 (pc := 85) wd_169 dX5_readNumber_85 ?_
        refine ro_bnh (fun h15 => ?_)
        refine ro_lv [1, 2, 3, 4, 0] rfl ?_
        exact hj6 (x14, h15)
  · skip
    refine ro_iconst (v := 0) (pc := 14) dX5_readNumber_14 (by decide) ?_
    exact ro_zret (pc := 15) rfl rfl rfl dX5_readNumber_15
theorem c_PRd_readNumber (X : mu_X) (N : Nat) (h : mu_H) (a1 : Int32) (a2 : Int32) (a3 : Int32) : ∀ r, f_PRd_readNumber N h a1 a2 a3 = some r → mI X m_PRd_readNumber 3 [.ref (xa X 6), .int a1, .int a2, .int a3] h r.1 r.2 := fun r hr => mI_of (by decide) rfl (Nat.le_of_ble_eq_true rfl) rfl (cb_PRd_readNumber X N h a1 a2 a3 r hr)
set_option maxRecDepth 20000 in
theorem cb_PRd_readClause (X : mu_X) (N : Nat) (h : mu_H) : aG X m_PRd_readClause (rmk 4) (fun _ => ax X) (fun _ _ _ => True) 0 0 (fun r : Int32 × mu_H => qI X r.1 r.2) (f_PRd_readClause N h) 0 [(0, .ref (xa X 6))] [] h := by
  unfold f_PRd_readClause
  refine ro_aload_n (pc := 0) 0 dX5_readClause_0 rfl rfl ?_
  refine ro_aload_n (pc := 1) 0 dX5_readClause_1 rfl rfl ?_
  refine gf_X5_0 (pc := 2) wd_166 dX5_readClause_2 ?_
  refine ro_aload_n (pc := 5) 0 dX5_readClause_5 rfl rfl ?_
  refine gf_X5_3 (pc := 6) wd_169 dX5_readClause_6 ?_
  refine ro_cvP (pc := 9) (kc := 1) (avs := [.int (h.1 6 3)]) (st := [.ref (xa X 6)]) ok_Tap_pastBlanks wd_435 cl_1 cv_1 rfl ⟨by decide, by decide⟩ ⟨Nat.zero_le _, Nat.zero_le _⟩ (c_Tap_pastBlanks X N h (h.1 6 3)) rfl rfl (Nat.le_of_ble_eq_true rfl) dX5_readClause_9 (fun x1 => ?_)
  refine pf_X5_3 (pc := 12) wd_169 dX5_readClause_12 ?_
  refine ro_bnh (fun h2 => ?_)
  refine ro_aload_n (pc := 15) 0 dX5_readClause_15 rfl rfl ?_
  refine gf_X5_0 (pc := 16) wd_166 dX5_readClause_16 ?_
  refine ro_aload_n (pc := 19) 0 dX5_readClause_19 rfl rfl ?_
  refine gf_X5_3 (pc := 20) wd_169 dX5_readClause_20 ?_
  refine ro_cvP (pc := 23) (kc := 1) (avs := [.int (h2.1 6 3)]) (st := []) ok_Tap_sign wd_439 cl_1 cv_1 rfl ⟨by decide, by decide⟩ ⟨Nat.zero_le _, Nat.zero_le _⟩ (c_Tap_sign X N h2 (h2.1 6 3)) rfl rfl (Nat.le_of_ble_eq_true rfl) dX5_readClause_23 (fun x3 => ?_)
  refine ro_csP (pc := 26) (kc := 1) (avs := [.int x3]) (st := []) ok_PRd_sortOf wd_443 ⟨by decide, by decide⟩ ⟨Nat.zero_le _, Nat.zero_le _⟩ (c_PRd_sortOf X N h2 x3) rfl rfl (Nat.le_of_ble_eq_true rfl) dX5_readClause_26 (fun x4 => ?_)
  refine ro_istore_n (pc := 29) (lv' := [(1, .int x4), (0, .ref (xa X 6))]) dX5_readClause_29 rfl (by decide) rfl ?_
  refine ro_iload_n (pc := 30) 0 dX5_readClause_30 rfl rfl ?_
  refine ro_iconst (v := (-1)) (pc := 31) dX5_readClause_31 (by decide) ?_
  refine ro_icmp_eq (tgt := 43) (pc := 32) dX5_readClause_32 (by decide) (fun _ => ?_) (fun _ => ?_)
  · skip
    refine ro_iconst (v := 0) (pc := 43) dX5_readClause_43 (by decide) ?_
    exact ro_zret (pc := 44) rfl rfl rfl dX5_readClause_44
  · skip
    refine ro_aload_n (pc := 35) 1 dX5_readClause_35 rfl rfl ?_
    refine ro_iload_n (pc := 36) 0 dX5_readClause_36 rfl rfl ?_
    refine ro_cvP (pc := 37) (kc := 2) (avs := [.int x4]) (st := []) ok_PRd_hasRoomFor wd_446 cl_6 cv_6 rfl ⟨by decide, by decide⟩ ⟨Nat.zero_le _, Nat.zero_le _⟩ (c_PRd_hasRoomFor X N h2 x4) rfl rfl (Nat.le_of_ble_eq_true rfl) dX5_readClause_37 (fun x5 => ?_)
    refine ro_if_ne (tgt := 45) (pc := 40) dX5_readClause_40 (by decide) (fun _ => ?_) (fun _ => ?_)
    · skip
      refine ro_aload_n (pc := 45) 1 dX5_readClause_45 rfl rfl ?_
      refine ro_dup (pc := 46) dX5_readClause_46 rfl ?_
      refine gf_X5_3 (pc := 47) wd_169 dX5_readClause_47 ?_
      refine ro_iconst (v := 1) (pc := 50) dX5_readClause_50 (by decide) ?_
      refine ro_iadd (pc := 51) dX5_readClause_51 ?_
      refine pf_X5_3 (pc := 52) wd_169 dX5_readClause_52 ?_
      refine ro_bnh (fun h6 => ?_)
      refine ro_aload_n (pc := 55) 1 dX5_readClause_55 rfl rfl ?_
      refine ro_iload_n (pc := 56) 0 dX5_readClause_56 rfl rfl ?_
      refine ro_cvI (pc := 57) (kc := 2) (avs := [.int x4]) (st := []) ok_PRd_addRow wd_458 cl_6 cv_6 rfl ⟨by decide, by decide⟩ ⟨Nat.zero_le _, Nat.zero_le _⟩ (c_PRd_addRow X N h6 x4) rfl rfl (Nat.le_of_ble_eq_true rfl) dX5_readClause_57 (fun x7 h8 => ?_)
      refine ro_istore_n (pc := 60) (lv' := [(2, .int x7), (1, .int x4), (0, .ref (xa X 6))]) dX5_readClause_60 rfl (by decide) rfl ?_
      refine ro_aload_n (pc := 61) 2 dX5_readClause_61 rfl rfl ?_
      refine ro_iload_n (pc := 62) 1 dX5_readClause_62 rfl rfl ?_
      refine ro_iload_n (pc := 63) 0 dX5_readClause_63 rfl rfl ?_
      refine ro_cvV (pc := 64) (kc := 2) (avs := [.int x4, .int x7]) (st := []) ok_PRd_setAsWithout wd_419 cl_6 cv_6 rfl ⟨by decide, by decide⟩ ⟨Nat.zero_le _, Nat.zero_le _⟩ (c_PRd_setAsWithout X N h8 x4 x7) rfl rfl (Nat.le_of_ble_eq_true rfl) dX5_readClause_64 (fun h10 => ?_)
      refine ro_iconst (v := 0) (pc := 67) dX5_readClause_67 (by decide) ?_
      refine ro_istore_n (pc := 68) (lv' := [(3, .int 0), (2, .int x7), (1, .int x4), (0, .ref (xa X 6))]) dX5_readClause_68 rfl (by decide) rfl ?_
      refine ro_iconst (v := 0) (pc := 69) dX5_readClause_69 (by decide) ?_
      refine ro_istore (pc := 70) (lv' := [(4, .int 0), (3, .int 0), (2, .int x7), (1, .int x4), (0, .ref (xa X 6))]) dX5_readClause_70 (by decide) rfl ?_
      refine ro_lv [4, 3, 2, 1, 0] rfl ?_
      refine ro_lp (pc := 72) (lvs := fun (s : Int32 × Int32 × mu_H) => [(0, .ref (xa X 6)), (1, .int x4), (2, .int x7), (3, .int s.1), (4, .int s.2.1)]) (hs := fun (s : Int32 × Int32 × mu_H) => s.2.2) (fun rec11 hrec11 s => ?_) N (0, 0, h10)
      obtain ⟨x12, x13, h14⟩ := s; unfold f_PRd_readClause_L72; try dsimp only
      refine ro_iload (pc := 72) 4 dX5_readClause_72 rfl ?_
      refine ro_sipush (v := 240) (pc := 74) dX5_readClause_74 (by decide) ?_
      refine ro_icmp_gt (tgt := 211) (pc := 77) dX5_readClause_77 (by decide) (fun _ => ?_) (fun _ => ?_)
      · skip
        refine ro_iconst (v := 0) (pc := 211) dX5_readClause_211 (by decide) ?_
        exact ro_zret (pc := 212) rfl rfl rfl dX5_readClause_212
      · skip
        refine ro_aload_n (pc := 80) 0 dX5_readClause_80 rfl rfl ?_
        refine ro_aload_n (pc := 81) 0 dX5_readClause_81 rfl rfl ?_
        refine gf_X5_0 (pc := 82) wd_166 dX5_readClause_82 ?_
        refine ro_aload_n (pc := 85) 0 dX5_readClause_85 rfl rfl ?_
        refine gf_X5_3 (pc := 86) wd_169 dX5_readClause_86 ?_
        refine ro_cvP (pc := 89) (kc := 1) (avs := [.int (h14.1 6 3)]) (st := [.ref (xa X 6)]) ok_Tap_pastBlanks wd_435 cl_1 cv_1 rfl ⟨by decide, by decide⟩ ⟨Nat.zero_le _, Nat.zero_le _⟩ (c_Tap_pastBlanks X N h14 (h14.1 6 3)) rfl rfl (Nat.le_of_ble_eq_true rfl) dX5_readClause_89 (fun x15 => ?_)
        refine pf_X5_3 (pc := 92) wd_169 dX5_readClause_92 ?_
        refine ro_bnh (fun h16 => ?_)
        refine ro_aload_n (pc := 95) 0 dX5_readClause_95 rfl rfl ?_
        refine gf_X5_3 (pc := 96) wd_169 dX5_readClause_96 ?_
        refine ro_aload_n (pc := 99) 0 dX5_readClause_99 rfl rfl ?_
        refine gf_X5_0 (pc := 100) wd_166 dX5_readClause_100 ?_
        refine ro_cvP (pc := 103) (kc := 1) (avs := []) (st := [.int (h16.1 6 3)]) ok_Tap_size wd_470 cl_1 cv_1 rfl ⟨by decide, by decide⟩ ⟨Nat.zero_le _, Nat.zero_le _⟩ (c_Tap_size X N h16) rfl rfl (Nat.le_of_ble_eq_true rfl) dX5_readClause_103 (fun x17 => ?_)
        refine ro_icmp_ge (tgt := 125) (pc := 106) dX5_readClause_106 (by decide) (fun _ => ?_) (fun _ => ?_)
        · skip
          refine ro_iconst (v := 1) (pc := 125) dX5_readClause_125 (by decide) ?_
          exact ro_zret (pc := 126) rfl rfl rfl dX5_readClause_126
        · skip
          refine ro_aload_n (pc := 109) 0 dX5_readClause_109 rfl rfl ?_
          refine gf_X5_0 (pc := 110) wd_166 dX5_readClause_110 ?_
          refine ro_aload_n (pc := 113) 0 dX5_readClause_113 rfl rfl ?_
          refine gf_X5_3 (pc := 114) wd_169 dX5_readClause_114 ?_
          refine ro_cvP (pc := 117) (kc := 1) (avs := [.int (h16.1 6 3)]) (st := []) ok_Tap_sign wd_439 cl_1 cv_1 rfl ⟨by decide, by decide⟩ ⟨Nat.zero_le _, Nat.zero_le _⟩ (c_Tap_sign X N h16 (h16.1 6 3)) rfl rfl (Nat.le_of_ble_eq_true rfl) dX5_readClause_117 (fun x18 => ?_)
          refine ro_bipush (v := 59) (pc := 120) dX5_readClause_120 (by decide) ?_
          refine ro_icmp_ne (tgt := 127) (pc := 122) dX5_readClause_122 (by decide) (fun _ => ?_) (fun _ => ?_)
          · skip
            refine ro_iload_n (pc := 127) 1 dX5_readClause_127 rfl rfl ?_
            refine ro_aload_n (pc := 128) 0 dX5_readClause_128 rfl rfl ?_
            refine gf_X5_0 (pc := 129) wd_166 dX5_readClause_129 ?_
            refine ro_aload_n (pc := 132) 0 dX5_readClause_132 rfl rfl ?_
            refine gf_X5_3 (pc := 133) wd_169 dX5_readClause_133 ?_
            refine ro_cvP (pc := 136) (kc := 1) (avs := [.int (h16.1 6 3)]) (st := [.int x4]) ok_Tap_sign wd_439 cl_1 cv_1 rfl ⟨by decide, by decide⟩ ⟨Nat.zero_le _, Nat.zero_le _⟩ (c_Tap_sign X N h16 (h16.1 6 3)) rfl rfl (Nat.le_of_ble_eq_true rfl) dX5_readClause_136 (fun x19 => ?_)
            refine ro_csP (pc := 139) (kc := 1) (avs := [.int x4, .int x19]) (st := []) ok_PRd_letterOf wd_471 ⟨by decide, by decide⟩ ⟨Nat.zero_le _, Nat.zero_le _⟩ (c_PRd_letterOf X N h16 x4 x19) rfl rfl (Nat.le_of_ble_eq_true rfl) dX5_readClause_139 (fun x20 => ?_)
            refine ro_istore (pc := 142) (lv' := [(5, .int x20), (0, .ref (xa X 6)), (1, .int x4), (2, .int x7), (3, .int x12), (4, .int x13)]) dX5_readClause_142 (by decide) rfl ?_
            refine ro_iload (pc := 144) 0 dX5_readClause_144 rfl ?_
            refine ro_iconst (v := (-1)) (pc := 146) dX5_readClause_146 (by decide) ?_
            refine ro_icmp_eq (tgt := 159) (pc := 147) dX5_readClause_147 (by decide) (fun _ => ?_) (fun _ => ?_)
            · skip
              refine ro_iconst (v := 0) (pc := 159) dX5_readClause_159 (by decide) ?_
              exact ro_zret (pc := 160) rfl rfl rfl dX5_readClause_160
            · skip
              refine ro_iload_n (pc := 150) 4 dX5_readClause_150 rfl rfl ?_
              refine ro_iload (pc := 151) 0 dX5_readClause_151 rfl ?_
              refine ro_ishr (pc := 153) dX5_readClause_153 ?_
              refine ro_iconst (v := 1) (pc := 154) dX5_readClause_154 (by decide) ?_
              refine ro_iand (pc := 155) dX5_readClause_155 ?_
              refine ro_if_eq (tgt := 161) (pc := 156) dX5_readClause_156 (by decide) (fun _ => ?_) (fun _ => ?_)
              · skip
                refine ro_iload_n (pc := 161) 4 dX5_readClause_161 rfl rfl ?_
                refine ro_iconst (v := 1) (pc := 162) dX5_readClause_162 (by decide) ?_
                refine ro_iload (pc := 163) 0 dX5_readClause_163 rfl ?_
                refine ro_ishl (pc := 165) dX5_readClause_165 ?_
                refine ro_ior (pc := 166) dX5_readClause_166 ?_
                refine ro_bn (fun x21 => ?_)
                refine ro_istore_n (pc := 167) (lv' := [(3, .int x21), (5, .int x20), (0, .ref (xa X 6)), (1, .int x4), (2, .int x7), (4, .int x13)]) dX5_readClause_167 rfl (by decide) rfl ?_
                refine ro_aload_n (pc := 168) 2 dX5_readClause_168 rfl rfl ?_
                refine ro_aload_n (pc := 169) 2 dX5_readClause_169 rfl rfl ?_
                refine gf_X5_0 (pc := 170) wd_166 dX5_readClause_170 ?_
                refine ro_aload_n (pc := 173) 2 dX5_readClause_173 rfl rfl ?_
                refine gf_X5_3 (pc := 174) wd_169 dX5_readClause_174 ?_
                refine ro_iconst (v := 1) (pc := 177) dX5_readClause_177 (by decide) ?_
                refine ro_iadd (pc := 178) dX5_readClause_178 ?_
                refine ro_cvP (pc := 179) (kc := 1) (avs := [.int ((h16.1 6 3) + 1)]) (st := [.ref (xa X 6)]) ok_Tap_pastBlanks wd_435 cl_1 cv_1 rfl ⟨by decide, by decide⟩ ⟨Nat.zero_le _, Nat.zero_le _⟩ (c_Tap_pastBlanks X N h16 ((h16.1 6 3) + 1)) rfl rfl (Nat.le_of_ble_eq_true rfl) dX5_readClause_179 (fun x22 => ?_)
                refine pf_X5_3 (pc := 182) wd_169 dX5_readClause_182 ?_
                refine ro_bnh (fun h23 => ?_)
                refine ro_aload_n (pc := 185) 2 dX5_readClause_185 rfl rfl ?_
                refine ro_iload (pc := 186) 1 dX5_readClause_186 rfl ?_
                refine ro_iload_n (pc := 188) 4 dX5_readClause_188 rfl rfl ?_
                refine ro_iload (pc := 189) 1 dX5_readClause_189 rfl ?_
                refine ro_gets (kk := 0) (pc := 191) rfl wd_423 dX5_readClause_191 ?_
                refine ro_iload_n (pc := 194) 3 dX5_readClause_194 rfl rfl ?_
                refine ti_0 (pc := 195) dX5_readClause_195 ?_
                refine ro_isub (pc := 196) dX5_readClause_196 ?_
                refine ro_cvI (pc := 197) (kc := 3) (avs := [.int x20, .int x7, .int (x20 - (sv_0.getD x4.toNatClampNeg 0))]) (st := []) ok_PRd_readNumber wd_476 cl_6 cv_6 rfl ⟨by decide, by decide⟩ ⟨Nat.zero_le _, Nat.zero_le _⟩ (c_PRd_readNumber X N h23 x20 x7 (x20 - (sv_0.getD x4.toNatClampNeg 0))) rfl rfl (Nat.le_of_ble_eq_true rfl) dX5_readClause_197 (fun x24 h25 => ?_)
                refine ro_if_ne (tgt := 205) (pc := 200) dX5_readClause_200 (by decide) (fun _ => ?_) (fun _ => ?_)
                · skip
                  refine ro_iinc (pc := 205) (v := x13 + 1) (lv' := [(4, .int (x13 + 1)), (3, .int x21), (5, .int x20), (0, .ref (xa X 6)), (1, .int x4), (2, .int x7)]) 5 dX5_readClause_205 rfl rfl (by decide) rfl ?_
                  refine ro_goto (tgt := 72) (pc := 208) dX5_readClause_208 (by decide) ?_
                  refine ro_lv [3, 4, 5, 1, 0] rfl ?_
                  exact hrec11 (x21, x13 + 1, h25)
                · skip
                  refine ro_iconst (v := 0) (pc := 203) dX5_readClause_203 (by decide) ?_
                  exact ro_zret (pc := 204) rfl rfl rfl dX5_readClause_204
              · skip
                refine ro_iconst (v := 0) (pc := 159) dX5_readClause_159 (by decide) ?_
                exact ro_zret (pc := 160) rfl rfl rfl dX5_readClause_160
          · skip
            refine ro_iconst (v := 1) (pc := 125) dX5_readClause_125 (by decide) ?_
            exact ro_zret (pc := 126) rfl rfl rfl dX5_readClause_126
    · skip
      refine ro_iconst (v := 0) (pc := 43) dX5_readClause_43 (by decide) ?_
      exact ro_zret (pc := 44) rfl rfl rfl dX5_readClause_44
theorem c_PRd_readClause (X : mu_X) (N : Nat) (h : mu_H) : ∀ r, f_PRd_readClause N h = some r → mI X m_PRd_readClause 4 [.ref (xa X 6)] h r.1 r.2 := fun r hr => mI_of (by decide) rfl (Nat.le_of_ble_eq_true rfl) rfl (cb_PRd_readClause X N h r hr)
set_option maxRecDepth 20000 in
theorem cb_PRd_firstWrong (X : mu_X) (N : Nat) (h : mu_H) : aG X m_PRd_firstWrong (rmk 5) (fun _ => ax X) (fun _ _ _ => True) 0 0 (fun r : Int32 × mu_H => qI X r.1 r.2) (f_PRd_firstWrong N h) 0 [(0, .ref (xa X 6))] [] h := by
  unfold f_PRd_firstWrong
  refine ro_aload_n (pc := 0) 0 dX5_firstWrong_0 rfl rfl ?_
  refine ro_iconst (v := 0) (pc := 1) dX5_firstWrong_1 (by decide) ?_
  refine pf_X5_3 (pc := 2) wd_169 dX5_firstWrong_2 ?_
  refine ro_bnh (fun h1 => ?_)
  refine ro_aload_n (pc := 5) 0 dX5_firstWrong_5 rfl rfl ?_
  refine ro_iconst (v := 0) (pc := 6) dX5_firstWrong_6 (by decide) ?_
  refine pf_X5_2 (pc := 7) rfl rfl wd_168 dX5_firstWrong_7 ?_
  refine ro_bnh (fun h2 => ?_)
  refine ro_aload_n (pc := 10) 0 dX5_firstWrong_10 rfl rfl ?_
  refine gf_X5_1 (pc := 11) wd_167 dX5_firstWrong_11 ?_
  refine ro_cvV (pc := 14) (kc := 1) (avs := []) (st := []) ok_Par_empty wd_415 cl_7 cv_7 rfl ⟨by decide, by decide⟩ ⟨Nat.zero_le _, Nat.zero_le _⟩ (c_Par_empty X N h2 7 isP_i7) rfl rfl (Nat.le_of_ble_eq_true rfl) dX5_firstWrong_14 (fun h3 => ?_)
  refine ro_aload_n (pc := 17) 0 dX5_firstWrong_17 rfl rfl ?_
  refine ro_iconst (v := 0) (pc := 18) dX5_firstWrong_18 (by decide) ?_
  refine ro_iconst (v := 0) (pc := 19) dX5_firstWrong_19 (by decide) ?_
  refine ro_cvV (pc := 20) (kc := 2) (avs := [.int 0, .int 0]) (st := []) ok_PRd_setAsWithout wd_419 cl_6 cv_6 rfl ⟨by decide, by decide⟩ ⟨Nat.zero_le _, Nat.zero_le _⟩ (c_PRd_setAsWithout X N h3 0 0) rfl rfl (Nat.le_of_ble_eq_true rfl) dX5_firstWrong_20 (fun h4 => ?_)
  refine ro_iconst (v := 0) (pc := 23) dX5_firstWrong_23 (by decide) ?_
  refine ro_istore_n (pc := 24) (lv' := [(1, .int 0), (0, .ref (xa X 6))]) dX5_firstWrong_24 rfl (by decide) rfl ?_
  refine ro_jn (pcj := 39) (lvs := fun (s : mu_H) => [(0, .ref (xa X 6))]) (hs := fun (s : mu_H) => s) (sts := fun (s : mu_H) => []) (fun h6 => ?_) (fun k5 hk5 => ?_)
  · try dsimp only
    refine ro_aload_n (pc := 39) 0 dX5_firstWrong_39 rfl rfl ?_
    refine gf_X5_3 (pc := 40) wd_169 dX5_firstWrong_40 ?_
    exact ro_iret (pc := 43) rfl rfl dX5_firstWrong_43
  · skip
    refine ro_jn (pcj := 77) (lvs := fun (s : mu_H) => [(0, .ref (xa X 6))]) (hs := fun (s : mu_H) => s) (sts := fun (s : mu_H) => []) (fun h8 => ?_) (fun k7 hk7 => ?_)
    · try dsimp only
      refine ro_aload_n (pc := 77) 0 dX5_firstWrong_77 rfl rfl ?_
      refine gf_X5_1 (pc := 78) wd_167 dX5_firstWrong_78 ?_
      refine ro_cvP (pc := 81) (kc := 1) (avs := []) (st := []) ok_Par_stretches wd_450 cl_7 cv_7 rfl ⟨by decide, by decide⟩ ⟨Nat.zero_le _, Nat.zero_le _⟩ (c_Par_stretches X N h8 7 isP_i7) rfl rfl (Nat.le_of_ble_eq_true rfl) dX5_firstWrong_81 (fun x9 => ?_)
      refine ro_jn (pcj := 112) (lvs := fun (s : Int32) => [(0, .ref (xa X 6))]) (hs := fun (s : Int32) => h8) (sts := fun (s : Int32) => [.int s]) (fun x11 => ?_) (fun j10 hj10 => ?_)
      · try dsimp only
        refine ro_istore_n (pc := 112) (lv' := [(1, .int x11), (0, .ref (xa X 6))]) dX5_firstWrong_112 rfl (by decide) rfl ?_
        refine ro_iload_n (pc := 113) 0 dX5_firstWrong_113 rfl rfl ?_
        refine ro_if_eq (tgt := 121) (pc := 114) dX5_firstWrong_114 (by decide) (fun _ => ?_) (fun _ => ?_)
        · skip
          refine ro_aload_n (pc := 121) 1 dX5_firstWrong_121 rfl rfl ?_
          refine gf_X5_0 (pc := 122) wd_166 dX5_firstWrong_122 ?_
          refine ro_cvP (pc := 125) (kc := 1) (avs := []) (st := []) ok_Tap_size wd_470 cl_1 cv_1 rfl ⟨by decide, by decide⟩ ⟨Nat.zero_le _, Nat.zero_le _⟩ (c_Tap_size X N h8) rfl rfl (Nat.le_of_ble_eq_true rfl) dX5_firstWrong_125 (fun x12 => ?_)
          exact ro_iret (pc := 128) rfl rfl dX5_firstWrong_128
        · skip
          refine ro_iconst (v := (-1)) (pc := 117) dX5_firstWrong_117 (by decide) ?_
          refine ro_goto (tgt := 128) (pc := 118) dX5_firstWrong_118 (by decide) ?_
          exact ro_iret (pc := 128) rfl rfl dX5_firstWrong_128
      · skip
        refine ro_jn (pcj := 111) (lvs := fun (s : Unit) => [(0, .ref (xa X 6))]) (hs := fun (s : Unit) => h8) (sts := fun (s : Unit) => []) (fun s => ?_) (fun j13 hj13 => ?_)
        · try dsimp only
          refine ro_iconst (v := 0) (pc := 111) dX5_firstWrong_111 (by decide) ?_
          exact hj10 0
        · skip
          refine ro_if_le (tgt := 111) (pc := 84) dX5_firstWrong_84 (by decide) (fun _ => ?_) (fun _ => ?_)
          · skip
            exact hj13 ()
          · skip
            refine ro_aload_n (pc := 87) 0 dX5_firstWrong_87 rfl rfl ?_
            refine gf_X5_1 (pc := 88) wd_167 dX5_firstWrong_88 ?_
            refine ro_cvP (pc := 91) (kc := 1) (avs := []) (st := []) ok_Par_houses wd_454 cl_7 cv_7 rfl ⟨by decide, by decide⟩ ⟨Nat.zero_le _, Nat.zero_le _⟩ (c_Par_houses X N h8 7 isP_i7) rfl rfl (Nat.le_of_ble_eq_true rfl) dX5_firstWrong_91 (fun x14 => ?_)
            refine ro_if_le (tgt := 111) (pc := 94) dX5_firstWrong_94 (by decide) (fun _ => ?_) (fun _ => ?_)
            · skip
              exact hj13 ()
            · skip
              refine ro_aload_n (pc := 97) 0 dX5_firstWrong_97 rfl rfl ?_
              refine gf_X5_1 (pc := 98) wd_167 dX5_firstWrong_98 ?_
              refine ro_cvP (pc := 101) (kc := 2) (avs := []) (st := []) ok_Par_hasLoop wd_489 cl_7 cv_7 rfl ⟨by decide, by decide⟩ ⟨Nat.zero_le _, Nat.zero_le _⟩ (c_Par_hasLoop X N h8 7 isP_i7) rfl rfl (Nat.le_of_ble_eq_true rfl) dX5_firstWrong_101 (fun x15 => ?_)
              refine ro_if_ne (tgt := 111) (pc := 104) dX5_firstWrong_104 (by decide) (fun _ => ?_) (fun _ => ?_)
              · skip
                exact hj13 ()
              · skip
                refine ro_iconst (v := 1) (pc := 107) dX5_firstWrong_107 (by decide) ?_
                refine ro_goto (tgt := 112) (pc := 108) dX5_firstWrong_108 (by decide) ?_
                exact hj10 1
    · skip
      refine ro_jn (pcj := 58) (lvs := fun (s : mu_H) => [(0, .ref (xa X 6))]) (hs := fun (s : mu_H) => s) (sts := fun (s : mu_H) => []) (fun h17 => ?_) (fun k16 hk16 => ?_)
      · try dsimp only
        refine ro_goto (tgt := 77) (pc := 58) dX5_firstWrong_58 (by decide) ?_
        exact hk7 h17
      · skip
        refine ro_lv [1, 0] rfl ?_
        refine ro_lp (pc := 25) (lvs := fun (s : Int32 × mu_H) => [(0, .ref (xa X 6)), (1, .int s.1)]) (hs := fun (s : Int32 × mu_H) => s.2) (fun rec18 hrec18 s => ?_) N (0, h4)
        obtain ⟨x19, h20⟩ := s; unfold f_PRd_firstWrong_L25; try dsimp only
        refine ro_iload_n (pc := 25) 1 dX5_firstWrong_25 rfl rfl ?_
        refine ro_sipush (v := 240) (pc := 26) dX5_firstWrong_26 (by decide) ?_
        refine ro_icmp_gt (tgt := 77) (pc := 29) dX5_firstWrong_29 (by decide) (fun _ => ?_) (fun _ => ?_)
        · skip
          refine ro_lv [0] rfl ?_
          exact hk7 h20
        · skip
          refine ro_aload_n (pc := 32) 0 dX5_firstWrong_32 rfl rfl ?_
          refine ro_cvI (pc := 33) (kc := 4) (avs := []) (st := []) ok_PRd_readClause wd_431 cl_6 cv_6 rfl ⟨by decide, by decide⟩ ⟨Nat.zero_le _, Nat.zero_le _⟩ (c_PRd_readClause X N h20) rfl rfl (Nat.le_of_ble_eq_true rfl) dX5_firstWrong_33 (fun x21 h22 => ?_)
          refine ro_if_ne (tgt := 44) (pc := 36) dX5_firstWrong_36 (by decide) (fun _ => ?_) (fun _ => ?_)
          · skip
            refine ro_aload_n (pc := 44) 0 dX5_firstWrong_44 rfl rfl ?_
            refine gf_X5_3 (pc := 45) wd_169 dX5_firstWrong_45 ?_
            refine ro_aload_n (pc := 48) 0 dX5_firstWrong_48 rfl rfl ?_
            refine gf_X5_0 (pc := 49) wd_166 dX5_firstWrong_49 ?_
            refine ro_cvP (pc := 52) (kc := 1) (avs := []) (st := [.int (h22.1 6 3)]) ok_Tap_size wd_470 cl_1 cv_1 rfl ⟨by decide, by decide⟩ ⟨Nat.zero_le _, Nat.zero_le _⟩ (c_Tap_size X N h22) rfl rfl (Nat.le_of_ble_eq_true rfl) dX5_firstWrong_52 (fun x24 => ?_)
            refine ro_icmp_lt (tgt := 61) (pc := 55) dX5_firstWrong_55 (by decide) (fun _ => ?_) (fun _ => ?_)
            · skip
              refine ro_aload_n (pc := 61) 0 dX5_firstWrong_61 rfl rfl ?_
              refine ro_dup (pc := 62) dX5_firstWrong_62 rfl ?_
              refine gf_X5_3 (pc := 63) wd_169 dX5_firstWrong_63 ?_
              refine ro_iconst (v := 1) (pc := 66) dX5_firstWrong_66 (by decide) ?_
              refine ro_iadd (pc := 67) dX5_firstWrong_67 ?_
              refine pf_X5_3 (pc := 68) wd_169 dX5_firstWrong_68 ?_
              refine ro_bnh (fun h25 => ?_)
              refine ro_iinc (pc := 71) (v := x19 + 1) (lv' := [(1, .int (x19 + 1)), (0, .ref (xa X 6))]) 1 dX5_firstWrong_71 rfl rfl (by decide) rfl ?_
              refine ro_goto (tgt := 25) (pc := 74) dX5_firstWrong_74 (by decide) ?_
              refine ro_lv [1, 0] rfl ?_
              exact hrec18 (x19 + 1, h25)
            · skip
              refine ro_lv [0] rfl ?_
              exact hk16 h22
          · skip
            refine ro_lv [0] rfl ?_
            exact hk5 h22
theorem c_PRd_firstWrong (X : mu_X) (N : Nat) (h : mu_H) : ∀ r, f_PRd_firstWrong N h = some r → mI X m_PRd_firstWrong 5 [.ref (xa X 6)] h r.1 r.2 := fun r hr => mI_of (by decide) rfl (Nat.le_of_ble_eq_true rfl) rfl (cb_PRd_firstWrong X N h r hr)
