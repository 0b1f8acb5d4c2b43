/-! work, years -/
theorem dr_v (D : Int64) {n : Nat} (h1 : 1 ≤ n) (h2 : n ≤ 100) : ∃ k, k < n ∧ (((D.toUInt64 >>> ((33 : Int32).toInt64.toUInt64 &&& Int64.toUInt64 63)).toInt64) - ((D.toUInt64 >>> ((33 : Int32).toInt64.toUInt64 &&& Int64.toUInt64 63)).toInt64) / (nI n).toInt64 * (nI n).toInt64).toInt32 = nI k := by
  have e33 : ((33 : Int32).toInt64.toUInt64 &&& Int64.toUInt64 63).toNat % 64 = 33 := by decide
  have hy : (D.toUInt64 >>> ((33 : Int32).toInt64.toUInt64 &&& Int64.toUInt64 63)).toNat < 2147483648 := by
    rw [UInt64.toNat_shiftRight, e33, Nat.shiftRight_eq_div_pow]
    have := D.toUInt64.toNat_lt
    omega
  generalize (D.toUInt64 >>> ((33 : Int32).toInt64.toUInt64 &&& Int64.toUInt64 63)) = y at hy
  have hx : y.toInt64.toInt = (y.toNat : Int) := by
    show y.toBitVec.toInt = _
    rw [BitVec.toInt_eq_toNat_of_lt (by show 2 * y.toNat < 2 ^ 64; omega)]
    rfl
  have hn : (nI n).toInt64.toInt = (n : Int) := by rw [Int32.toInt_toInt64, nI_toInt (by omega)]
  have hq : y.toNat / n * n ≤ y.toNat := Nat.div_mul_le_self _ _
  have hq2 : y.toNat / n ≤ y.toNat := Nat.div_le_self _ _
  have hm : y.toNat % n < n := Nat.mod_lt _ (by omega)
  have hdm : y.toNat / n * n + y.toNat % n = y.toNat := Nat.div_add_mod' _ _
  have hd : (y.toInt64 / (nI n).toInt64).toInt = ((y.toNat / n : Nat) : Int) := by
    rw [Int64.toInt_div, hx, hn, ← Int.ofNat_tdiv]
    generalize y.toNat / n = q at hq2
    exact Int.bmod_eq_of_le (by omega) (by omega)
  have hmu : (y.toInt64 / (nI n).toInt64 * (nI n).toInt64).toInt = ((y.toNat / n * n : Nat) : Int) := by
    rw [Int64.toInt_mul, hd, hn, ← Int.natCast_mul]
    exact Int.bmod_eq_of_le (by omega) (by omega)
  have hs : (y.toInt64 - y.toInt64 / (nI n).toInt64 * (nI n).toInt64).toInt = ((y.toNat % n : Nat) : Int) := by
    rw [Int64.toInt_sub, hmu, hx, show ((y.toNat : Int) - ((y.toNat / n * n : Nat) : Int)) = ((y.toNat % n : Nat) : Int) by omega]
    exact Int.bmod_eq_of_le (by omega) (by omega)
  refine ⟨y.toNat % n, hm, Int32.toInt_inj.mp ?_⟩
  rw [Int64.toInt_toInt32, hs, nI_toInt (by omega)]
  exact Int.bmod_eq_of_le (by omega) (by omega)
theorem Ist_w {s u : Nat} {x : Int32} {R L M : Nat → Int32} (h : Ist s u R L M) : Ist s u (upd R 32 x) L (upd M 31 x) := by
  obtain ⟨q1, q2, q3, ⟨n, hn, q4, q5, q6, q7⟩, q8, q9⟩ := h
  refine ⟨fun j hj => ?_, ?_, ?_, ⟨n, hn, ?_, ?_, ?_, fun i hi w hw => ?_⟩, fun r hr => ?_, fun a ha => ?_⟩
  · rw [upd_n (by omega), upd_n (by omega)]; exact q1 j hj
  · rw [upd_s, upd_s]
  · rw [upd_n (by omega), upd_n (by omega)]; exact q3
  · rw [upd_n (by omega)]; exact q4
  · rw [upd_n (by omega)]; exact q5
  · rw [upd_n (by omega)]; exact q6
  · rw [upd_n (by omega)]; exact q7 i hi w hw
  · rw [upd_n (by omega), upd_n (by omega)]; exact q8 r hr
  · rw [upd_n (by omega), upd_n (by omega)]; exact q9 a ha
theorem wdy_2 {N s u : Nat} {hc hm : mu_H} {o : Option (List Cla)} (hN : 3000 ≤ N) (hX : Cx hc hm s u o) {a r k ow : Nat} (ha : a < u) (hr : r < s) (hk : k < 4) (hcm : k = 2 ∨ k = 3 ∨ cme hc a r = true) (how : hc.1 15 (18 + a) = nI ow) (ho1 : 1 ≤ ow) (ho9 : ow ≤ 9) : ∃ hc' hm', f_Lab_workDay N hc (nI a) (nI r) (nI k) = some hc' ∧ f_Mod_workNow N hm (nI a) (nI r) (nI k) = some hm' ∧ sc [15, 26, 29, 32, 35, 36] hc hc' ∧ sM [60, 61, 68] [] hm hm' ∧ Ist s u (hc'.1 15) (hc.1 16) (hm'.1 68) ∧ hc'.1 15 33 = hc.1 15 33 ∧ hc'.1 15 r = hm'.1 68 r ∧ hc'.2 = hc.2 ∧ hm'.2 = hm.2 := by
  obtain ⟨hp, hl, hnow⟩ := hX
  have h9 := hp.1
  have h6 := hp.2.1
  obtain ⟨w, hw, ew, ew2⟩ := wear_2 hnow (show r < 9 by omega)
  have how2 : hm.1 68 (18 + a) = nI ow := (hnow.1 (18 + a) (by omega)).symm.trans how
  have eb : hm.1 68 30 = hc.1 15 30 := (hnow.1 30 (by decide)).symm
  have e32 : hm.1 68 31 = hc.1 15 32 := hnow.2.1.symm
  obtain ⟨pr, hpr, ep, ep2⟩ := P_rul (k := 2) hp (show 0 < s by omega) (by decide)
  obtain ⟨h4, h2, x1, x2, f1, f2, g1, g2⟩ := eff_2 (w := w) hN hp hl hnow ha hr hw hk hcm
  have hv := efv_le (h := hc) (o := o) (a := a) (r := r) (k := k) (w := w)
  generalize efv hc o a r k w = v at x1 x2 hv
  have y15 : h4.1 15 = hc.1 15 := f1 15 (by decide)
  have y4 : h4.1 4 = hc.1 4 := f1 4 (by decide)
  have y68 : h2.1 68 = hm.1 68 := f2.1 68 (by decide) (by decide)
  have y65 : h2.1 65 = hm.1 65 := f2.1 65 (by decide) (by decide)
  have z30 : (30 : Int32).toNatClampNeg = 30 := rfl
  have z31 : (31 : Int32).toNatClampNeg = 31 := rfl
  have z32 : (32 : Int32).toNatClampNeg = 32 := rfl
  have z2 : (2 : Int32).toNatClampNeg = 2 := rfl
  have i30 : ix 30 34 = true := rfl
  have i32 : ix 32 34 = true := rfl
  have j30 : ix 30 214 = true := rfl
  have j31 : ix 31 214 = true := rfl
  have i2 : ix 2 3 = true := rfl
  have i280 : ix 2 80 = true := rfl
  -- the wear that is left
  have hleft : (nI w - nI v).toInt = (w : Int) - v := pk_sub_toInt (by omega) (by omega)
  have zz : (0 : Int32).toInt = 0 := rfl
  have cl : ∀ {α : Type} (g : Int32 → α), (if 0 ≤ nI w - nI v then g (nI w - nI v) else g 0) = g (nI (w - v)) := by
    intro α g
    by_cases c : v ≤ w
    · rw [if_pos (Int32.le_iff_toInt_le.mpr (by omega)), sub_n c (by omega)]
    · rw [if_neg (fun q => by have := Int32.le_iff_toInt_le.mp q; omega), show w - v = 0 by omega]; rfl
  have cm : z_mmax 0 (nI w - nI v) = nI (w - v) := by
    rw [z_mmax]
    by_cases c : v < w
    · rw [if_pos (Int32.lt_iff_toInt_lt.mpr (by omega)), sub_n (by omega) (by omega)]
    · rw [if_neg (fun q => by have := Int32.lt_iff_toInt_lt.mp q; omega), show w - v = 0 by omega]; rfl
  have hdn : f_Mod_doesNow N hm (nI a) (nI r) (nI k) = some (nI v, h2) := by
    rw [f_Mod_doesNow, show 0 + nI r = nI r from add0 _, ix_nI (show r < 214 by omega) (by decide), gd_t, nI_clamp (show r < 2147483648 by omega), ew2, x2]
    rfl
  obtain ⟨R1, hR1⟩ : ∃ R1, R1 = upd (upd (upd (hc.1 15) r (nI (w - v))) (18 + a) (nI (ow - 1))) 32 (hc.1 15 32 + 1) := ⟨_, rfl⟩
  obtain ⟨M1, hM1⟩ : ∃ M1, M1 = upd (upd (upd (hm.1 68) r (nI (w - v))) (18 + a) (nI (ow - 1))) 31 (hc.1 15 32 + 1) := ⟨_, rfl⟩
  have hI1 : Ist s u R1 (hc.1 16) M1 := by
    rw [hR1, hM1]
    exact Ist_w (Ist_u (Ist_u hnow (by omega) (fun _ => ⟨⟨w - v, by omega, rfl⟩, hr⟩) (by omega) (by omega) (by omega)) (by omega) (by omega) (by omega) (fun _ _ => ⟨⟨ow - 1, by omega, rfl⟩, by omega⟩) (by omega))
  have u1 : ui (ui (ui h4 15 r (nI (w - v))) 15 (18 + a) (nI (ow - 1))) 15 32 (hc.1 15 32 + 1) = ur h4 15 R1 := by
    rw [hR1, show ui h4 15 r (nI (w - v)) = ur h4 15 (upd (h4.1 15) r (nI (w - v))) from rfl, ui_ur, ui_ur, y15]
  have u2 : ui (ui (ui h2 68 r (nI (w - v))) 68 (18 + a) (nI (ow - 1))) 68 31 (hc.1 15 32 + 1) = ur h2 68 M1 := by
    rw [hM1, show ui h2 68 r (nI (w - v)) = ur h2 68 (upd (h2.1 68) r (nI (w - v))) from rfl, ui_ur, ui_ur, y68]
  have b1 : R1 30 = hc.1 15 30 := by rw [hR1, upd_n (by omega), upd_n (by omega), upd_n (by omega)]
  have b2 : M1 30 = hc.1 15 30 := by rw [hM1, upd_n (by omega), upd_n (by omega), upd_n (by omega)]; exact eb
  have b3 : R1 33 = hc.1 15 33 := by rw [hR1, upd_n (by omega), upd_n (by omega), upd_n (by omega)]
  have s1 : nI ow - 1 = nI (ow - 1) := sub_r (m := 1) (show 1 ≤ ow by omega) (by omega)
  have hcc : f_Lab_workDay N hc (nI a) (nI r) (nI k) = if nI k = 2 then some (ur h4 15 (upd R1 30 (hc.1 15 30 + nI pr))) else some (ur h4 15 R1) := by
    have hwc := wearS (N := N) (h := hc) (o := 14) (show r < 34 by omega)
    rw [show hc.1 (14 + 1) r = nI w from ew] at hwc
    simp only [f_Lab_workDay, hwc, bd_some, x1, bi_some, bn_eq, jn_eq]
    rw [cl (g := fun x8 => (f_Sta_setWear N h4 14 (nI r) x8).bind fun h9 => (f_Sta_owed N h9 14 (nI a)).bind fun x10 => (f_Sta_setOwed N h9 14 (nI a) (x10 - 1)).bind fun h11 => (f_Sta_countWork N h11 14).bind fun h12 => if nI k = 2 then (f_Par_ofRules N h12 3 2).bind fun x13 => (f_Sta_addToBox N h12 14 x13).bind fun h14 => some h14 else some h12)]
    have h0r : 0 + nI r = nI r := add0 _
    simp (disch := omega) only [↓bn_eq, ↓jn_eq, ↓reduceIte, gd_t, bd_some, bn_eq, jn_eq, bi_some, if_pos, if_neg, i10, nI_lt_i, nI_le_i, nI_eq_i, ll_le, ll_lt, ll_eq, lr_le, lr_lt, lr_eq, ix_n, nI_clamp, nI_add, add_l, add_r, nI_mul, mul_l, mul_r, sub_n, sub_r, div_r, ite_some, if_true, if_false, and_self, and_true, true_and, false_and, and_false, Nat.reduceAdd, Nat.reduceMul, not_false_iff, not_true, f_Sta_setWear, f_Sta_owed, f_Sta_setOwed, f_Sta_countWork, f_Par_ofRules, f_Sta_addToBox, h0r, ui_g, y15, how, s1, z30, z32, z2, i30, i32, i280, u1, ur_g, y4, ep, b1, ui_ur]
  have hmm : f_Mod_workNow N hm (nI a) (nI r) (nI k) = if nI k = 2 then some (ur h2 68 (upd M1 30 (hc.1 15 30 + nI pr))) else some (ur h2 68 (upd M1 30 (hc.1 15 30 + 0))) := by
    have h0r : 0 + nI r = nI r := add0 _
    simp (disch := omega) only [↓bn_eq, ↓jn_eq, ↓reduceIte, gd_t, bd_some, bn_eq, jn_eq, bi_some, if_pos, if_neg, i10, nI_lt_i, nI_le_i, nI_eq_i, ll_le, ll_lt, ll_eq, lr_le, lr_lt, lr_eq, ix_n, nI_clamp, nI_add, add_l, add_r, nI_mul, mul_l, mul_r, sub_n, sub_r, div_r, ite_some, if_true, if_false, and_self, and_true, true_and, false_and, and_false, Nat.reduceAdd, Nat.reduceMul, not_false_iff, not_true, f_Mod_workNow, h0r, hdn, ew2, cm, y68, ui_g, how2, s1, z30, z31, z2, j30, j31, i2, e32, u2, ur_g, y65, ep2, b2, ui_ur, eb]
  by_cases c : nI k = 2
  · refine ⟨ur h4 15 (upd R1 30 (hc.1 15 30 + nI pr)), ur h2 68 (upd M1 30 (hc.1 15 30 + nI pr)), by rw [hcc, if_pos c], by rw [hmm, if_pos c], sc_trans (sc_mono f1 (by decide)) (sc_ur (by decide)), sM_trans (sM_mono f2 (by decide) (by decide)) (sM_ur (by decide) (by decide)), ?_, ?_, ?_, g1, g2⟩
    · rw [ur_1, ur_1]
      exact Ist_u hI1 (by omega) (by omega) (by omega) (by omega) (by omega)
    · rw [ur_1, upd_n (by omega), b3]
    · rw [ur_1, ur_1, upd_n (by omega), upd_n (by omega)]; exact hI1.1 r (by omega)
  · refine ⟨ur h4 15 R1, ur h2 68 (upd M1 30 (hc.1 15 30 + 0)), by rw [hcc, if_neg c], by rw [hmm, if_neg c], sc_trans (sc_mono f1 (by decide)) (sc_ur (by decide)), sM_trans (sM_mono f2 (by decide) (by decide)) (sM_ur (by decide) (by decide)), ?_, ?_, ?_, g1, g2⟩
    · rw [ur_1, ur_1, upd_self (show M1 30 = hc.1 15 30 + 0 by rw [b2]; exact (Int32.add_zero _).symm)]
      exact hI1
    · rw [ur_1, b3]
    · rw [ur_1, ur_1, upd_n (by omega)]; exact hI1.1 r (by omega)
theorem op_work {N : Nat} (hN : 9000 ≤ N) (a1 a2 a3 : Int32) (hc hm : mu_H) (hI : Inv (mg hc hm)) : ∃ r hc' hm', f_Owe_work N hc a1 a2 a3 = some (r, hc') ∧ f_Mod_work N hm a1 a2 a3 = some (r, hm') ∧ (∀ c, 51 ≤ c → hc'.1 c = hc.1 c) ∧ (∀ c, c < 51 → hm'.1 c = hm.1 c) ∧ Inv (mg hc' hm') := by
  have hI0 := hI
  obtain ⟨s, u, hp, ⟨nse, hsee⟩, hnow, himg, hpas, htap, hlaw, href⟩ := hI
  have h9 := hp.1
  have h6 := hp.2.1
  have k1 := c_isH (N := N) (h := hc) (o := 3) hp.2.2.2.2.1 a1
  have k2 := m_isH (N := N) (h := hm) hp.2.2.2.2.2.2.1 h6 a1
  have k3 := c_isS (N := N) (h := hc) (o := 3) hp.2.2.2.1 a2
  have k4 := m_isS (N := N) (h := hm) hp.2.2.2.2.2.1 h9 a2
  have h10 : ¬ (1 : Int32) = 0 := by decide
  have r0 := ref_c (N := N) (k := 0) (h := hc) (by decide)
  have r1 := ref_c (N := N) (k := 1) (h := hc) (by decide)
  have r2 := ref_c (N := N) (k := 2) (h := hc) (by decide)
  have m0 := ref_m (N := N) (k := 0) (h := hm) (by decide)
  have m1 := ref_m (N := N) (k := 1) (h := hm) (by decide)
  have m2 := ref_m (N := N) (k := 2) (h := hm) (by decide)
  rw [show nI 0 = (0 : Int32) from rfl] at r0 m0
  rw [show nI 1 = (1 : Int32) from rfl] at r1 m1
  rw [show nI 2 = (2 : Int32) from rfl] at r2 m2
  have k5 : f_Mod_in N hm a3 0 3 = some (if 0 ≤ a3 ∧ a3 < nI 4 then 1 else 0) := m_in (n := 4) (by decide) a3
  rcases in_or a1 u (by omega) with ⟨a, ha, rfl, q1, q2⟩ | no1
  · rcases in_or a2 s (by omega) with ⟨r, hr, rfl, q3, q4⟩ | no2
    · rcases in_or a3 4 (by decide) with ⟨k, hk, rfl, q5, q6⟩ | no3
      · have q5' : ¬ nI k < 0 := nlt_le.mpr q5
        have q6' : nI k < 4 := q6
        have hnow1 : Ist s u (hc.1 15) (hc.1 16) (hm.1 68) := hnow
        obtain ⟨⟨ow, ho9, how⟩, -, -⟩ := hnow1.2.2.2.2.2 a (by omega)
        have how2 : hm.1 68 (18 + a) = nI ow := (hnow1.1 (18 + a) (by omega)).symm.trans how
        obtain ⟨o, hl⟩ := HL_of hlaw
        obtain ⟨kc, km⟩ := come_c hp N ha hr
        simp only [f_Owe_work, f_Mod_work, k1, k2, k3, k4, k5, q1, q2, q3, q4, q5, q6, and_self, if_true, bd_some, if_neg h10, jn_eq, if_neg q5', if_pos q6', f_Lab_canWork, kc, km]
        by_cases c : 1 ≤ ow ∧ (k = 2 ∨ cme hc a r = true)
        · obtain ⟨m, hm3, -, hm33, -, -⟩ := hnow1.2.2.2.1
          obtain ⟨hc1, hm1, w1, w2, w3, w4, w5, -, -⟩ := keep_2 hN hnow hpas hm33 hm3
          have x15 : hc1.1 15 = hc.1 15 := w3 15 (by decide)
          have x16 : hc1.1 16 = hc.1 16 := w3 16 (by decide)
          have x68 : hm1.1 68 = hm.1 68 := w4.1 68 (by decide) (by decide)
          have hX1 : Cx hc1 hm1 s u o := ⟨Ipar_fr (mg_same w3 w4) (by decide) (by decide) hp, HL_fr w3 w4 (by decide) (by decide) (by decide) (by decide) hl, by rw [x15, x16, x68]; exact hnow1⟩
          have hcm : k = 2 ∨ k = 3 ∨ cme hc1 a r = true := by
            rcases c.2 with c | c
            · exact Or.inl c
            · refine Or.inr (Or.inr ?_)
              rw [cme_fr (w3 4 (by decide)) (w3 5 (by decide))]; exact c
          obtain ⟨hc2, hm2, v1, v2, v3, v4, v5, v6, v7, -, -⟩ := wdy_2 (N := N) (ow := ow) (by omega) hX1 ha hr hk hcm (by rw [x15]; exact how) c.1 ho9
          refine ⟨hc2.1 15 r, hc2, hm2, ?_, ?_, ?_⟩
          · simp (disch := omega) only [↓bn_eq, ↓jn_eq, ↓reduceIte, gd_t, bd_some, bn_eq, jn_eq, bi_some, if_pos, if_neg, i10, nI_lt_i, nI_le_i, nI_eq_i, ll_le, ll_lt, ll_eq, lr_le, lr_lt, lr_eq, ix_n, nI_clamp, nI_add, add_l, add_r, nI_mul, mul_l, mul_r, sub_n, sub_r, div_r, ite_some, if_true, if_false, and_self, and_true, true_and, false_and, and_false, Nat.reduceAdd, Nat.reduceMul, not_false_iff, not_true, f_Sta_owed, how, w1, v1, wearS (o := 14) (show r < 34 by omega)]
            rcases c.2 with c | c
            · subst c; rfl
            · simp only [c, if_true, h10, if_false]
              split <;> rfl
          · have h0r : 0 + nI r = nI r := add0 _
            simp (disch := omega) only [↓bn_eq, ↓jn_eq, ↓reduceIte, gd_t, bd_some, bn_eq, jn_eq, bi_some, if_pos, if_neg, i10, nI_lt_i, nI_le_i, nI_eq_i, ll_le, ll_lt, ll_eq, lr_le, lr_lt, lr_eq, ix_n, nI_clamp, nI_add, add_l, add_r, nI_mul, mul_l, mul_r, sub_n, sub_r, div_r, ite_some, if_true, if_false, and_self, and_true, true_and, false_and, and_false, Nat.reduceAdd, Nat.reduceMul, not_false_iff, not_true, how2, ref_n, w2, v2, h0r, ← v7]
            rcases c.2 with c | c
            · subst c; rfl
            · simp only [c, if_true, h10, if_false]
              split <;> rfl
          · refine act_I hp hsee himg htap hlaw href w3 w4 w5 (sc_mono v3 (by decide)) (sM_mono v4 (by decide) (by decide)) ?_ (Nat.le_refl m) (by omega) hm3 ?_ (fun k _ => by rw [v3 16 (by decide)])
            · show Ist s u (hc2.1 15) (hc2.1 16) (hm2.1 68)
              rw [v3 16 (by decide)]
              exact v5
            · rw [v6, x15]; exact hm33
        · refine ⟨-1, _, _, ?_, ?_, ref_I hI0 (show 2 < 5 by decide)⟩
          · simp (disch := omega) only [↓bn_eq, ↓jn_eq, ↓reduceIte, gd_t, bd_some, bn_eq, jn_eq, bi_some, if_pos, if_neg, i10, nI_lt_i, nI_le_i, nI_eq_i, ll_le, ll_lt, ll_eq, lr_le, lr_lt, lr_eq, ix_n, nI_clamp, nI_add, add_l, add_r, nI_mul, mul_l, mul_r, sub_n, sub_r, div_r, ite_some, if_true, if_false, and_self, and_true, true_and, false_and, and_false, Nat.reduceAdd, Nat.reduceMul, not_false_iff, not_true, f_Sta_owed, how, r2]
            by_cases d : ow < 1
            · rw [if_pos d]
            · have dk : ¬ nI k = 2 := fun q => c ⟨by omega, Or.inl (nI_inj (b := 2) (by omega) (by decide) q)⟩
              have dc : ¬ cme hc a r = true := fun q => c ⟨by omega, Or.inr q⟩
              simp [d, dc]
          · simp (disch := omega) only [↓bn_eq, ↓jn_eq, ↓reduceIte, gd_t, bd_some, bn_eq, jn_eq, bi_some, if_pos, if_neg, i10, nI_lt_i, nI_le_i, nI_eq_i, ll_le, ll_lt, ll_eq, lr_le, lr_lt, lr_eq, ix_n, nI_clamp, nI_add, add_l, add_r, nI_mul, mul_l, mul_r, sub_n, sub_r, div_r, ite_some, if_true, if_false, and_self, and_true, true_and, false_and, and_false, Nat.reduceAdd, Nat.reduceMul, not_false_iff, not_true, how2, m2, h10]
            by_cases d : ow = 0
            · rw [if_pos d]
            · have dk : ¬ nI k = 2 := fun q => c ⟨by omega, Or.inl (nI_inj (b := 2) (by omega) (by decide) q)⟩
              have dc : ¬ cme hc a r = true := fun q => c ⟨by omega, Or.inr q⟩
              simp [d, dc]
      · refine ⟨-1, _, _, ?_, ?_, ref_I hI0 (show 1 < 5 by decide)⟩
        · simp only [f_Owe_work, k1, k3, q1, q2, q3, q4, and_self, if_true, bd_some, if_neg h10, jn_eq, r1, bi_some]
          by_cases c : a3 < 0
          · rw [if_pos c]
          · rw [if_neg c, if_neg (show ¬ a3 < 4 from fun q => no3 ⟨nlt_le.mp c, q⟩)]
        · simp only [f_Mod_work, k2, k4, k5, q1, q2, q3, q4, and_self, if_true, bd_some, if_neg h10, jn_eq, if_neg no3, m1, bi_some]
    · refine ⟨-1, _, _, ?_, ?_, ref_I hI0 (show 0 < 5 by decide)⟩
      · simp only [f_Owe_work, k1, k3, q1, q2, and_self, if_true, bd_some, if_neg h10, jn_eq, if_neg no2, r0, bi_some]
      · simp only [f_Mod_work, k2, k4, q1, q2, and_self, if_true, bd_some, if_neg h10, jn_eq, if_neg no2, m0, bi_some]
  · refine ⟨-1, _, _, ?_, ?_, ref_I hI0 (show 0 < 5 by decide)⟩
    · simp only [f_Owe_work, k1, bd_some, if_neg no1, if_true, jn_eq, r0, bi_some]
    · simp only [f_Mod_work, k2, bd_some, if_neg no1, if_true, jn_eq, m0, bi_some, if_neg h10]
