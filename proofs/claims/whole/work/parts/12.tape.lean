def m_Tap_sign : mu_M := (RX10, yX10_sign, cX10_sign, 2, some .int)
theorem ok_Tap_sign : mOKv m_Tap_sign 1 := ⟨wd_440, wd_441, wd_96, wd_442, by decide, by decide, by decide +kernel⟩
def m_Tap_isDigit : mu_M := (RX10, yX10_isDigit, cX10_isDigit, 3, some .boolean)
theorem ok_Tap_isDigit : mOKv m_Tap_isDigit 1 := ⟨wd_482, wd_483, wd_96, wd_484, by decide, by decide, by decide +kernel⟩
def m_Tap_pastBlanks : mu_M := (RX10, yX10_pastBlanks, cX10_pastBlanks, 3, some .int)
theorem ok_Tap_pastBlanks : mOKv m_Tap_pastBlanks 1 := ⟨wd_436, wd_437, wd_96, wd_438, by decide, by decide, by decide +kernel⟩
def m_Tap_add : mu_M := (RX10, yX10_add, cX10_add, 4, none)
theorem ok_Tap_add : mOKv m_Tap_add 1 := ⟨wd_396, wd_397, wd_96, wd_398, by decide, by decide, by decide +kernel⟩
def m_Tap_signsIn : mu_M := (RX10, yX10_signsIn, cX10_signsIn, 3, some .int)
theorem ok_Tap_signsIn : mOKs m_Tap_signsIn 1 := ⟨wd_389, wd_96, wd_390, by decide, by decide, by decide +kernel⟩
def m_Tap_shorten : mu_M := (RX10, yX10_shorten, cX10_shorten, 2, some .boolean)
theorem ok_Tap_shorten : mOKv m_Tap_shorten 1 := ⟨wd_404, wd_405, wd_96, wd_406, by decide, by decide, by decide +kernel⟩
def m_Tap_size : mu_M := (RX10, yX10_size, cX10_size, 1, some .int)
theorem ok_Tap_size : mOKv m_Tap_size 0 := ⟨wd_392, wd_393, wd_96, wd_394, by decide, by decide, by decide +kernel⟩
def f_Tap_sign (N : Nat) (h : mu_H) (a1 : Int32) : Option Int32 :=
  if a1 < 0 then
    some 0
  else
    if h.1 1 1 ≤ a1 then
      some 0
    else
      gd (ix a1 240) <|
      some ((h.1 2 a1.toNatClampNeg) &&& 255)
def f_Tap_isDigit (N : Nat) (h : mu_H) (a1 : Int32) : Option Int32 :=
  (f_Tap_sign N h a1).bind fun x1 =>
  if x1 < 48 then
    some 0
  else
    if 57 < x1 then
      some 0
    else
      some 1
def f_Tap_pastBlanks_L2 (N : Nat) (h : mu_H) (rec1 : Int32 → Option Int32) : Int32 → Option Int32 := fun (x2 : Int32) =>
  if h.1 1 1 ≤ x2 then
    some x2
  else
    (f_Tap_sign N h x2).bind fun x3 =>
    if x3 = 32 then
      rec1 (x2 + 1)
    else
      some x2
def f_Tap_pastBlanks (N : Nat) (h : mu_H) (a1 : Int32) : Option Int32 :=
  lp (f_Tap_pastBlanks_L2 N h) N a1
def f_Tap_add_L3 (a1 : Int32) (rec1 : (Int32 × mu_H) → Option mu_H) : (Int32 × mu_H) → Option mu_H := fun ((x2, h3) : Int32 × mu_H) =>
  if x2 < 0 then
    some h3
  else
    bn (((a1.toUInt32 >>> (x2.toUInt32 &&& Int32.toUInt32 31)).toInt32) &&& 255) fun x4 =>
    jn (fun (h6 : mu_H) =>
      rec1 (x2 + (-8), h6)) fun j5 =>
    if x4 = 0 then
      j5 h3
    else
      if 240 ≤ h3.1 1 1 then
        j5 h3
      else
        gd (ix (h3.1 1 1) 240) <|
        bn (ui h3 2 (h3.1 1 1).toNatClampNeg (vp_nar .byte x4.toInt8.toInt32)) fun h7 =>
        bn (ui h7 1 1 ((h7.1 1 1) + 1)) fun h8 =>
        j5 h8
def f_Tap_add (N : Nat) (h : mu_H) (a1 : Int32) : Option mu_H :=
  lp (f_Tap_add_L3 a1) N (24, h)
def f_Tap_signsIn_L5 (a0 : Int32) (rec1 : (Int32 × Int32) → Option Int32) : (Int32 × Int32) → Option Int32 := fun ((x2, x3) : Int32 × Int32) =>
  if x3 < 0 then
    some x2
  else
    jn (fun (x5 : Int32) =>
      rec1 (x5, x3 + (-8))) fun j4 =>
    if ((a0.toUInt32 >>> (x3.toUInt32 &&& Int32.toUInt32 31)).toInt32) &&& 255 = 0 then
      j4 x2
    else
      j4 (x2 + 1)
def f_Tap_signsIn (N : Nat) (h : mu_H) (a0 : Int32) : Option Int32 :=
  lp (f_Tap_signsIn_L5 a0) N (0, 24)
def f_Tap_shorten (N : Nat) (h : mu_H) (a1 : Int32) : Option (Int32 × mu_H) :=
  if a1 < 0 then
    some (0, h)
  else
    if a1 ≤ h.1 1 1 then
      bn (ui h 1 1 a1) fun h1 =>
      some (1, h1)
    else
      some (0, h)
def f_Tap_size (N : Nat) (h : mu_H) : Option Int32 :=
  some (h.1 1 1)
set_option maxRecDepth 20000 in
theorem cb_Tap_sign (X : mu_X) (N : Nat) (h : mu_H) (a1 : Int32) : aG X m_Tap_sign (rmk 1) (fun _ => ax X) (fun _ _ => True) 0 0 (fun r : Int32 => qI X r h) (f_Tap_sign N h a1) 0 [(0, .ref (xa X 1)), (1, .int a1)] [] h := by
  unfold f_Tap_sign
  refine ro_iload_n (pc := 0) 1 dX10_sign_0 rfl rfl ?_
  refine ro_if_lt (tgt := 25) (pc := 1) dX10_sign_1 (by decide) (fun _ => ?_) (fun _ => ?_)
  · skip
    refine ro_iconst (v := 0) (pc := 25) dX10_sign_25 (by decide) ?_
    exact ro_iret (pc := 26) rfl rfl dX10_sign_26
  · skip
    refine ro_iload_n (pc := 4) 1 dX10_sign_4 rfl rfl ?_
    refine ro_aload_n (pc := 5) 0 dX10_sign_5 rfl rfl ?_
    refine gf_X10_1 (pc := 6) wd_131 dX10_sign_6 ?_
    refine ro_icmp_ge (tgt := 25) (pc := 9) dX10_sign_9 (by decide) (fun _ => ?_) (fun _ => ?_)
    · skip
      refine ro_iconst (v := 0) (pc := 25) dX10_sign_25 (by decide) ?_
      exact ro_iret (pc := 26) rfl rfl dX10_sign_26
    · skip
      refine ro_aload_n (pc := 12) 0 dX10_sign_12 rfl rfl ?_
      refine gf_X10_0 (pc := 13) wd_130 dX10_sign_13 ?_
      refine ro_iload_n (pc := 16) 1 dX10_sign_16 rfl rfl ?_
      refine ro_bald (pc := 17) (n := 240) cl_2 cv_2 dX10_sign_17 ?_
      refine ro_sipush (v := 255) (pc := 18) dX10_sign_18 (by decide) ?_
      refine ro_iand (pc := 21) dX10_sign_21 ?_
      refine ro_goto (tgt := 26) (pc := 22) dX10_sign_22 (by decide) ?_
      exact ro_iret (pc := 26) rfl rfl dX10_sign_26
theorem c_Tap_sign (X : mu_X) (N : Nat) (h : mu_H) (a1 : Int32) : ∀ r, f_Tap_sign N h a1 = some r → mI X m_Tap_sign 1 [.ref (xa X 1), .int a1] h r h := fun r hr => mI_of (by decide) rfl (Nat.le_of_ble_eq_true rfl) rfl (cb_Tap_sign X N h a1 r hr)
set_option maxRecDepth 20000 in
theorem cb_Tap_isDigit (X : mu_X) (N : Nat) (h : mu_H) (a1 : Int32) : aG X m_Tap_isDigit (rmk 2) (fun _ => ax X) (fun _ _ => True) 0 0 (fun r : Int32 => qI X r h) (f_Tap_isDigit N h a1) 0 [(0, .ref (xa X 1)), (1, .int a1)] [] h := by
  unfold f_Tap_isDigit
  refine ro_aload_n (pc := 0) 0 dX10_isDigit_0 rfl rfl ?_
  refine ro_iload_n (pc := 1) 1 dX10_isDigit_1 rfl rfl ?_
  refine ro_cvP (pc := 2) (kc := 1) (avs := [.int a1]) (st := []) ok_Tap_sign wd_439 cl_1 cv_1 rfl ⟨by decide, by decide⟩ ⟨Nat.zero_le _, Nat.zero_le _⟩ (c_Tap_sign X N h a1) rfl rfl (Nat.le_of_ble_eq_true rfl) dX10_isDigit_2 (fun x1 => ?_)
  refine ro_istore_n (pc := 5) (lv' := [(2, .int x1), (0, .ref (xa X 1)), (1, .int a1)]) dX10_isDigit_5 rfl (by decide) rfl ?_
  refine ro_iload_n (pc := 6) 0 dX10_isDigit_6 rfl rfl ?_
  refine ro_bipush (v := 48) (pc := 7) dX10_isDigit_7 (by decide) ?_
  refine ro_icmp_lt (tgt := 22) (pc := 9) dX10_isDigit_9 (by decide) (fun _ => ?_) (fun _ => ?_)
  · skip
    refine ro_iconst (v := 0) (pc := 22) dX10_isDigit_22 (by decide) ?_
    exact ro_zret (pc := 23) rfl rfl rfl dX10_isDigit_23
  · skip
    refine ro_iload_n (pc := 12) 0 dX10_isDigit_12 rfl rfl ?_
    refine ro_bipush (v := 57) (pc := 13) dX10_isDigit_13 (by decide) ?_
    refine ro_icmp_gt (tgt := 22) (pc := 15) dX10_isDigit_15 (by decide) (fun _ => ?_) (fun _ => ?_)
    · skip
      refine ro_iconst (v := 0) (pc := 22) dX10_isDigit_22 (by decide) ?_
      exact ro_zret (pc := 23) rfl rfl rfl dX10_isDigit_23
    · skip
      refine ro_iconst (v := 1) (pc := 18) dX10_isDigit_18 (by decide) ?_
      refine ro_goto (tgt := 23) (pc := 19) dX10_isDigit_19 (by decide) ?_
      exact ro_zret (pc := 23) rfl rfl rfl dX10_isDigit_23
theorem c_Tap_isDigit (X : mu_X) (N : Nat) (h : mu_H) (a1 : Int32) : ∀ r, f_Tap_isDigit N h a1 = some r → mI X m_Tap_isDigit 2 [.ref (xa X 1), .int a1] h r h := fun r hr => mI_of (by decide) rfl (Nat.le_of_ble_eq_true rfl) rfl (cb_Tap_isDigit X N h a1 r hr)
set_option maxRecDepth 20000 in
theorem cb_Tap_pastBlanks (X : mu_X) (N : Nat) (h : mu_H) (a1 : Int32) : aG X m_Tap_pastBlanks (rmk 2) (fun _ => ax X) (fun _ _ => True) 0 0 (fun r : Int32 => qI X r h) (f_Tap_pastBlanks N h a1) 0 [(0, .ref (xa X 1)), (1, .int a1)] [] h := by
  unfold f_Tap_pastBlanks
  refine ro_iload_n (pc := 0) 1 dX10_pastBlanks_0 rfl rfl ?_
  refine ro_istore_n (pc := 1) (lv' := [(2, .int a1), (0, .ref (xa X 1)), (1, .int a1)]) dX10_pastBlanks_1 rfl (by decide) rfl ?_
  refine ro_lv [1, 0] rfl ?_
  refine ro_lp (pc := 2) (lvs := fun (s : Int32) => [(0, .ref (xa X 1)), (2, .int s)]) (hs := fun (s : Int32) => h) (fun rec1 hrec1 x2 => ?_) N a1
  unfold f_Tap_pastBlanks_L2; try dsimp only
  refine ro_iload_n (pc := 2) 1 dX10_pastBlanks_2 rfl rfl ?_
  refine ro_aload_n (pc := 3) 0 dX10_pastBlanks_3 rfl rfl ?_
  refine gf_X10_1 (pc := 4) wd_131 dX10_pastBlanks_4 ?_
  refine ro_icmp_ge (tgt := 26) (pc := 7) dX10_pastBlanks_7 (by decide) (fun _ => ?_) (fun _ => ?_)
  · skip
    refine ro_iload_n (pc := 26) 1 dX10_pastBlanks_26 rfl rfl ?_
    exact ro_iret (pc := 27) rfl rfl dX10_pastBlanks_27
  · skip
    refine ro_aload_n (pc := 10) 0 dX10_pastBlanks_10 rfl rfl ?_
    refine ro_iload_n (pc := 11) 1 dX10_pastBlanks_11 rfl rfl ?_
    refine ro_cvP (pc := 12) (kc := 1) (avs := [.int x2]) (st := []) ok_Tap_sign wd_439 cl_1 cv_1 rfl ⟨by decide, by decide⟩ ⟨Nat.zero_le _, Nat.zero_le _⟩ (c_Tap_sign X N h x2) rfl rfl (Nat.le_of_ble_eq_true rfl) dX10_pastBlanks_12 (fun x3 => ?_)
    refine ro_bipush (v := 32) (pc := 15) dX10_pastBlanks_15 (by decide) ?_
    refine ro_icmp_ne (tgt := 26) (pc := 17) dX10_pastBlanks_17 (by decide) (fun _ => ?_) (fun _ => ?_)
    · skip
      refine ro_iload_n (pc := 26) 1 dX10_pastBlanks_26 rfl rfl ?_
      exact ro_iret (pc := 27) rfl rfl dX10_pastBlanks_27
    · skip
      refine ro_iinc (pc := 20) (v := x2 + 1) (lv' := [(2, .int (x2 + 1)), (0, .ref (xa X 1))]) 1 dX10_pastBlanks_20 rfl rfl (by decide) rfl ?_
      refine ro_goto (tgt := 2) (pc := 23) dX10_pastBlanks_23 (by decide) ?_
      refine ro_lv [1, 0] rfl ?_
      exact hrec1 (x2 + 1)
theorem c_Tap_pastBlanks (X : mu_X) (N : Nat) (h : mu_H) (a1 : Int32) : ∀ r, f_Tap_pastBlanks N h a1 = some r → mI X m_Tap_pastBlanks 2 [.ref (xa X 1), .int a1] h r h := fun r hr => mI_of (by decide) rfl (Nat.le_of_ble_eq_true rfl) rfl (cb_Tap_pastBlanks X N h a1 r hr)
set_option maxRecDepth 20000 in
theorem cb_Tap_add (X : mu_X) (N : Nat) (h : mu_H) (a1 : Int32) : aG X m_Tap_add (rmk 1) (fun _ => ax X) (fun _ _ => True) 0 0 (fun r : mu_H => qV X r) (f_Tap_add N h a1) 0 [(0, .ref (xa X 1)), (1, .int a1)] [] h := by
  unfold f_Tap_add
  refine ro_bipush (v := 24) (pc := 0) dX10_add_0 (by decide) ?_
  refine ro_istore_n (pc := 2) (lv' := [(2, .int 24), (0, .ref (xa X 1)), (1, .int a1)]) dX10_add_2 rfl (by decide) rfl ?_
  refine ro_lv [1, 2, 0] rfl ?_
  refine ro_lp (pc := 3) (lvs := fun (s : Int32 × mu_H) => [(0, .ref (xa X 1)), (1, .int a1), (2, .int s.1)]) (hs := fun (s : Int32 × mu_H) => s.2) (fun rec1 hrec1 s => ?_) N (24, h)
  obtain ⟨x2, h3⟩ := s; unfold f_Tap_add_L3; try dsimp only
  refine ro_iload_n (pc := 3) 2 dX10_add_3 rfl rfl ?_
  refine ro_if_lt (tgt := 56) (pc := 4) dX10_add_4 (by decide) (fun _ => ?_) (fun _ => ?_)
  · skip
    exact ro_vret (pc := 56) rfl rfl dX10_add_56
  · skip
    refine ro_iload_n (pc := 7) 1 dX10_add_7 rfl rfl ?_
    refine ro_iload_n (pc := 8) 2 dX10_add_8 rfl rfl ?_
    refine ro_iushr (pc := 9) dX10_add_9 ?_
    refine ro_sipush (v := 255) (pc := 10) dX10_add_10 (by decide) ?_
    refine ro_iand (pc := 13) dX10_add_13 ?_
    refine ro_bn (fun x4 => ?_)
    refine ro_istore_n (pc := 14) (lv' := [(3, .int x4), (0, .ref (xa X 1)), (1, .int a1), (2, .int x2)]) dX10_add_14 rfl (by decide) rfl ?_
    refine ro_iload_n (pc := 15) 0 dX10_add_15 rfl rfl ?_
    refine ro_jn (pcj := 50) (lvs := fun (s : mu_H) => [(0, .ref (xa X 1)), (1, .int a1), (2, .int x2)]) (hs := fun (s : mu_H) => s) (sts := fun (s : mu_H) => []) (fun h6 => ?_) (fun j5 hj5 => ?_)
    · try dsimp only
      refine ro_iinc (pc := 50) (v := x2 + (-8)) (lv' := [(2, .int (x2 + (-8))), (0, .ref (xa X 1)), (1, .int a1)]) 2 dX10_add_50 rfl rfl (by decide) rfl ?_
      refine ro_goto (tgt := 3) (pc := 53) dX10_add_53 (by decide) ?_
      refine ro_lv [1, 2, 0] rfl ?_
      exact hrec1 (x2 + (-8), h6)
    · skip
      refine ro_if_eq (tgt := 50) (pc := 16) dX10_add_16 (by decide) (fun _ => ?_) (fun _ => ?_)
      · skip
        refine ro_lv [1, 2, 3] rfl ?_
        exact hj5 h3
      · skip
        refine ro_aload_n (pc := 19) 1 dX10_add_19 rfl rfl ?_
        refine gf_X10_1 (pc := 20) wd_131 dX10_add_20 ?_
        refine ro_sipush (v := 240) (pc := 23) dX10_add_23 (by decide) ?_
        refine ro_icmp_ge (tgt := 50) (pc := 26) dX10_add_26 (by decide) (fun _ => ?_) (fun _ => ?_)
        · skip
          refine ro_lv [1, 2, 3] rfl ?_
          exact hj5 h3
        · skip
          refine ro_aload_n (pc := 29) 1 dX10_add_29 rfl rfl ?_
          refine gf_X10_0 (pc := 30) wd_130 dX10_add_30 ?_
          refine ro_aload_n (pc := 33) 1 dX10_add_33 rfl rfl ?_
          refine gf_X10_1 (pc := 34) wd_131 dX10_add_34 ?_
          refine ro_iload_n (pc := 37) 0 dX10_add_37 rfl rfl ?_
          refine ro_i2b (pc := 38) dX10_add_38 ?_
          refine ro_bast (pc := 39) (n := 240) cl_2 cv_2 dX10_add_39 ?_
          refine ro_bnh (fun h7 => ?_)
          refine ro_aload_n (pc := 40) 1 dX10_add_40 rfl rfl ?_
          refine ro_dup (pc := 41) dX10_add_41 rfl ?_
          refine gf_X10_1 (pc := 42) wd_131 dX10_add_42 ?_
          refine ro_iconst (v := 1) (pc := 45) dX10_add_45 (by decide) ?_
          refine ro_iadd (pc := 46) dX10_add_46 ?_
          refine pf_X10_1 (pc := 47) wd_131 dX10_add_47 ?_
          refine ro_bnh (fun h8 => ?_)
          refine ro_lv [1, 2, 3] rfl ?_
          exact hj5 h8
theorem c_Tap_add (X : mu_X) (N : Nat) (h : mu_H) (a1 : Int32) : ∀ r, f_Tap_add N h a1 = some r → mV X m_Tap_add 1 [.ref (xa X 1), .int a1] h r := fun r hr => mV_of (by decide) rfl (Nat.le_of_ble_eq_true rfl) rfl (cb_Tap_add X N h a1 r hr)
set_option maxRecDepth 20000 in
theorem cb_Tap_signsIn (X : mu_X) (N : Nat) (h : mu_H) (a0 : Int32) : aG X m_Tap_signsIn (rmk 1) (fun _ => ax X) (fun _ _ => True) 0 0 (fun r : Int32 => qI X r h) (f_Tap_signsIn N h a0) 0 [(0, .int a0)] [] h := by
  unfold f_Tap_signsIn
  refine ro_iconst (v := 0) (pc := 0) dX10_signsIn_0 (by decide) ?_
  refine ro_istore_n (pc := 1) (lv' := [(1, .int 0), (0, .int a0)]) dX10_signsIn_1 rfl (by decide) rfl ?_
  refine ro_bipush (v := 24) (pc := 2) dX10_signsIn_2 (by decide) ?_
  refine ro_istore_n (pc := 4) (lv' := [(2, .int 24), (1, .int 0), (0, .int a0)]) dX10_signsIn_4 rfl (by decide) rfl ?_
  refine ro_lv [2, 1, 0] rfl ?_
  refine ro_lp (pc := 5) (lvs := fun (s : Int32 × Int32) => [(0, .int a0), (1, .int s.1), (2, .int s.2)]) (hs := fun (s : Int32 × Int32) => h) (fun rec1 hrec1 s => ?_) N (0, 24)
  obtain ⟨x2, x3⟩ := s; unfold f_Tap_signsIn_L5; try dsimp only
  refine ro_iload_n (pc := 5) 2 dX10_signsIn_5 rfl rfl ?_
  refine ro_if_lt (tgt := 28) (pc := 6) dX10_signsIn_6 (by decide) (fun _ => ?_) (fun _ => ?_)
  · skip
    refine ro_iload_n (pc := 28) 1 dX10_signsIn_28 rfl rfl ?_
    exact ro_iret (pc := 29) rfl rfl dX10_signsIn_29
  · skip
    refine ro_iload_n (pc := 9) 0 dX10_signsIn_9 rfl rfl ?_
    refine ro_iload_n (pc := 10) 2 dX10_signsIn_10 rfl rfl ?_
    refine ro_iushr (pc := 11) dX10_signsIn_11 ?_
    refine ro_sipush (v := 255) (pc := 12) dX10_signsIn_12 (by decide) ?_
    refine ro_iand (pc := 15) dX10_signsIn_15 ?_
    refine ro_jn (pcj := 22) (lvs := fun (s : Int32) => [(0, .int a0), (1, .int s), (2, .int x3)]) (hs := fun (s : Int32) => h) (sts := fun (s : Int32) => []) (fun x5 => ?_) (fun j4 hj4 => ?_)
    · try dsimp only
      refine ro_iinc (pc := 22) (v := x3 + (-8)) (lv' := [(2, .int (x3 + (-8))), (0, .int a0), (1, .int x5)]) 2 dX10_signsIn_22 rfl rfl (by decide) rfl ?_
      refine ro_goto (tgt := 5) (pc := 25) dX10_signsIn_25 (by decide) ?_
      refine ro_lv [1, 2, 0] rfl ?_
      exact hrec1 (x5, x3 + (-8))
    · skip
      refine ro_if_eq (tgt := 22) (pc := 16) dX10_signsIn_16 (by decide) (fun _ => ?_) (fun _ => ?_)
      · skip
        exact hj4 x2
      · skip
        refine ro_iinc (pc := 19) (v := x2 + 1) (lv' := [(1, .int (x2 + 1)), (0, .int a0), (2, .int x3)]) 1 dX10_signsIn_19 rfl rfl (by decide) rfl ?_
        refine ro_lv [1, 0, 2] rfl ?_
        exact hj4 (x2 + 1)
theorem c_Tap_signsIn (X : mu_X) (N : Nat) (h : mu_H) (a0 : Int32) : ∀ r, f_Tap_signsIn N h a0 = some r → mI X m_Tap_signsIn 1 [.int a0] h r h := fun r hr => mI_of (by decide) rfl (Nat.le_of_ble_eq_true rfl) rfl (cb_Tap_signsIn X N h a0 r hr)
set_option maxRecDepth 20000 in
theorem cb_Tap_shorten (X : mu_X) (N : Nat) (h : mu_H) (a1 : Int32) : aG X m_Tap_shorten (rmk 1) (fun _ => ax X) (fun _ _ => True) 0 0 (fun r : Int32 × mu_H => qI X r.1 r.2) (f_Tap_shorten N h a1) 0 [(0, .ref (xa X 1)), (1, .int a1)] [] h := by
  unfold f_Tap_shorten
  refine ro_iload_n (pc := 0) 1 dX10_shorten_0 rfl rfl ?_
  refine ro_if_lt (tgt := 12) (pc := 1) dX10_shorten_1 (by decide) (fun _ => ?_) (fun _ => ?_)
  · skip
    refine ro_iconst (v := 0) (pc := 12) dX10_shorten_12 (by decide) ?_
    exact ro_zret (pc := 13) rfl rfl rfl dX10_shorten_13
  · skip
    refine ro_iload_n (pc := 4) 1 dX10_shorten_4 rfl rfl ?_
    refine ro_aload_n (pc := 5) 0 dX10_shorten_5 rfl rfl ?_
    refine gf_X10_1 (pc := 6) wd_131 dX10_shorten_6 ?_
    refine ro_icmp_le (tgt := 14) (pc := 9) dX10_shorten_9 (by decide) (fun _ => ?_) (fun _ => ?_)
    · skip
      refine ro_aload_n (pc := 14) 0 dX10_shorten_14 rfl rfl ?_
      refine ro_iload_n (pc := 15) 1 dX10_shorten_15 rfl rfl ?_
      refine pf_X10_1 (pc := 16) wd_131 dX10_shorten_16 ?_
      refine ro_bnh (fun h1 => ?_)
      refine ro_iconst (v := 1) (pc := 19) dX10_shorten_19 (by decide) ?_
      exact ro_zret (pc := 20) rfl rfl rfl dX10_shorten_20
    · skip
      refine ro_iconst (v := 0) (pc := 12) dX10_shorten_12 (by decide) ?_
      exact ro_zret (pc := 13) rfl rfl rfl dX10_shorten_13
theorem c_Tap_shorten (X : mu_X) (N : Nat) (h : mu_H) (a1 : Int32) : ∀ r, f_Tap_shorten N h a1 = some r → mI X m_Tap_shorten 1 [.ref (xa X 1), .int a1] h r.1 r.2 := fun r hr => mI_of (by decide) rfl (Nat.le_of_ble_eq_true rfl) rfl (cb_Tap_shorten X N h a1 r hr)
set_option maxRecDepth 20000 in
theorem cb_Tap_size (X : mu_X) (N : Nat) (h : mu_H) : aG X m_Tap_size (rmk 1) (fun _ => ax X) (fun _ _ => True) 0 0 (fun r : Int32 => qI X r h) (f_Tap_size N h) 0 [(0, .ref (xa X 1))] [] h := by
  unfold f_Tap_size
  refine ro_aload_n (pc := 0) 0 dX10_size_0 rfl rfl ?_
  refine gf_X10_1 (pc := 1) wd_131 dX10_size_1 ?_
  exact ro_iret (pc := 4) rfl rfl dX10_size_4
theorem c_Tap_size (X : mu_X) (N : Nat) (h : mu_H) : ∀ r, f_Tap_size N h = some r → mI X m_Tap_size 1 [.ref (xa X 1)] h r h := fun r hr => mI_of (by decide) rfl (Nat.le_of_ble_eq_true rfl) rfl (cb_Tap_size X N h r hr)
