/-! pay, ditch -/
theorem two_in {N : Nat} {h : mu_H} {a b : Nat} (ha : 0 < a) (hb : b < 1000) (hab : a ≤ b) (x : Int32) : f_Mod_in N h x (nI a) (nI b) = some (if x < nI a then 0 else if nI b < x then 0 else 1) := by
  simp only [f_Mod_in]
  by_cases c : x < nI a
  · simp [c]
  · by_cases d : nI b < x <;> simp [c, d]
theorem op_pay {N : Nat} (hN : 9000 ≤ N) (a1 a2 : Int32) (hc hm : mu_H) (hI : Inv (mg hc hm)) : ∃ r hc' hm', f_Owe_pay N hc a1 a2 = some (r, hc') ∧ f_Mod_pay N hm a1 a2 = some (r, hm') ∧ (∀ c, 51 ≤ c → hc'.1 c = hc.1 c) ∧ (∀ c, c < 51 → hm'.1 c = hm.1 c) ∧ Inv (mg hc' hm') := by
  have hI0 := hI
  obtain ⟨s, u, hp, ⟨nse, hsee⟩, hnow, himg, hpas, htap, hlaw, href⟩ := hI
  have h9 := hp.1
  have h6 := hp.2.1
  have e4 : hc.1 3 3 = nI u := hp.2.2.2.2.1
  have e6 : hm.1 51 26 = nI u := hp.2.2.2.2.2.2.1
  have k1 := c_isH (N := N) (o := 3) e4 a1
  have k2 := m_isH (N := N) e6 h6 a1
  have k3 := two_in (N := N) (h := hm) (a := 1) (b := 9) (by decide) (by decide) (by decide) a2
  have h10 : ¬ (1 : Int32) = 0 := by decide
  have r0 := ref_c (N := N) (k := 0) (h := hc) (by decide)
  have r1 := ref_c (N := N) (k := 1) (h := hc) (by decide)
  have r2 := ref_c (N := N) (k := 2) (h := hc) (by decide)
  have m0 := ref_m (N := N) (k := 0) (h := hm) (by decide)
  have m1 := ref_m (N := N) (k := 1) (h := hm) (by decide)
  have m2 := ref_m (N := N) (k := 2) (h := hm) (by decide)
  rw [show nI 0 = (0 : Int32) from rfl] at r0 m0
  rw [show nI 1 = (1 : Int32) from rfl] at r1 m1 k3
  rw [show nI 2 = (2 : Int32) from rfl] at r2 m2
  rw [show nI 9 = (9 : Int32) from rfl] at k3
  rcases in_or a1 u (by omega) with ⟨a, ha, rfl, q1, q2⟩ | hno
  · simp only [f_Owe_pay, f_Mod_pay, k1, k2, q1, q2, and_self, if_true, bd_some, if_neg h10, jn_eq, k3]
    by_cases c1 : a2 < 1
    · refine ⟨-1, _, _, ?_, ?_, ref_I hI0 (show 1 < 5 by decide)⟩
      · simp only [if_pos c1, r1, bi_some]
      · simp only [if_pos c1, if_true, m1, bi_some, if_neg h10]
    by_cases c9 : a2 ≤ 9
    · obtain ⟨n, hn, rfl⟩ := nI_of (x := a2) (fun q => c1 (by
        have a := Int32.lt_iff_toInt_lt.mp q
        apply Int32.lt_iff_toInt_lt.mpr
        have z0 : (0 : Int32).toInt = 0 := rfl
        have z1 : (1 : Int32).toInt = 1 := rfl
        omega))
      have hn9 : n ≤ 9 := (nI_leI hn (show 9 < 2 ^ 31 by decide)).mp c9
      have hn1 : 1 ≤ n := Decidable.byContradiction (fun q => c1 ((nI_ltI hn (show 1 < 2 ^ 31 by decide)).mpr (by omega)))
      have c9' : ¬ (9 : Int32) < nI n := nlt_le.mpr c9
      have hnow1 : Ist s u (hc.1 15) (hc.1 16) (hm.1 68) := hnow
      obtain ⟨⟨o, ho, eo⟩, -, -⟩ := hnow1.2.2.2.2.2 a (by omega)
      have eo2 : hm.1 68 (18 + a) = nI o := (hnow1.1 (18 + a) (by omega)).symm.trans eo
      have hs0 : 0 < s := by
        have := hp.2.2.1
        omega
      obtain ⟨⟨pr, hpr, epr⟩, epr2⟩ : (∃ pr, pr ≤ 9 ∧ hc.1 4 2 = nI pr) ∧ hm.1 65 2 = hc.1 4 2 := ⟨((hp.2.2.2.2.2.2.2.1 hs0).1 2 (by decide)).2, ((hp.2.2.2.2.2.2.2.1 hs0).1 2 (by decide)).1⟩
      have z30 : (30 : Int32).toNatClampNeg = 30 := rfl
      have z2 : (2 : Int32).toNatClampNeg = 2 := rfl
      have i30 : ix 30 34 = true := rfl
      have j30 : ix 30 214 = true := rfl
      have i2 : ix 2 3 = true := rfl
      have i280 : ix 2 80 = true := rfl
      by_cases c2 : n ≤ o
      · obtain ⟨m, hm3, -, hm33, -, -⟩ := hnow1.2.2.2.1
        obtain ⟨hc1, hm1, w1, w2, w3, w4, w5, -, -⟩ := keep_2 hN hnow hpas hm33 hm3
        have x15 : hc1.1 15 = hc.1 15 := w3 15 (by decide)
        have x4 : hc1.1 4 = hc.1 4 := w3 4 (by decide)
        have x68 : hm1.1 68 = hm.1 68 := w4.1 68 (by decide) (by decide)
        have x65 : hm1.1 65 = hm.1 65 := w4.1 65 (by decide) (by decide)
        have eb : hc.1 15 30 = hm.1 68 30 := hnow1.1 30 (by decide)
        refine ⟨hc.1 15 30 + nI n * nI pr, ui (ui hc1 15 (18 + a) (nI (o - n))) 15 30 (hc.1 15 30 + nI n * nI pr), ui (ui hm1 68 (18 + a) (nI (o - n))) 68 30 (hc.1 15 30 + nI n * nI pr), ?_, ?_, ?_⟩
        · simp only [if_neg c1, if_pos c9, f_Sta_owed]
          simp (disch := omega) only [gd_t, bd_some, bn_eq, jn_eq, bi_some, if_pos, if_neg, i10, nI_lt_i, nI_le_i, nI_eq_i, ll_le, ll_lt, ll_eq, lr_le, lr_lt, lr_eq, ix_n, nI_clamp, nI_add, add_l, add_r, nI_mul, mul_l, mul_r, sub_n, sub_r, div_r, ite_some, if_true, if_false, and_self, and_true, true_and, false_and, and_false, Nat.reduceAdd, Nat.reduceMul, not_false_iff, not_true, eo, w1, f_Sta_setOwed, f_Par_ofRules, f_Sta_addToBox, f_Sta_box, ui_g, x15, x4, z30, z2, i30, i280, epr]
        · simp only [if_neg c1, if_neg c9', if_neg h10]
          simp (disch := omega) only [gd_t, bd_some, bn_eq, jn_eq, bi_some, if_pos, if_neg, i10, nI_lt_i, nI_le_i, nI_eq_i, ll_le, ll_lt, ll_eq, lr_le, lr_lt, lr_eq, ix_n, nI_clamp, nI_add, add_l, add_r, nI_mul, mul_l, mul_r, sub_n, sub_r, div_r, ite_some, if_true, if_false, and_self, and_true, true_and, false_and, and_false, Nat.reduceAdd, Nat.reduceMul, not_false_iff, not_true, eo2, ref_n, if_true, w2, x68, ui_g, z30, z2, j30, i2, x65, epr2, epr, eb]
        · have f1 : sc [15, 16, 26, 29, 32, 35, 36] hc1 (ui (ui hc1 15 (18 + a) (nI (o - n))) 15 30 (hc.1 15 30 + nI n * nI pr)) := (sc_trans (sc_ui (by decide)) (sc_ui (by decide)))
          have f2 : sM [60, 61, 68] [] hm1 (ui (ui hm1 68 (18 + a) (nI (o - n))) 68 30 (hc.1 15 30 + nI n * nI pr)) := sM_trans (sM_ui (by decide) (by decide)) (sM_ui (by decide) (by decide))
          refine act_I hp hsee himg htap hlaw href w3 w4 w5 f1 f2 ?_ (Nat.le_refl m) (by omega) hm3 ?_ (fun k _ => ?_)
          · show Ist s u ((ui (ui hc1 15 (18 + a) (nI (o - n))) 15 30 (hc.1 15 30 + nI n * nI pr)).1 15) ((ui (ui hc1 15 (18 + a) (nI (o - n))) 15 30 (hc.1 15 30 + nI n * nI pr)).1 16) ((ui (ui hm1 68 (18 + a) (nI (o - n))) 68 30 (hc.1 15 30 + nI n * nI pr)).1 68)
            rw [ui_s, ui_s, ui_s, ui_s, ui_n (by decide), ui_n (by decide), x15, x68, w3 16 (by decide)]
            refine Ist_u (Ist_u hnow1 (by omega) (by omega) (by omega) (fun _ _ => ⟨⟨o - n, by omega, rfl⟩, by omega⟩) (by omega)) (by omega) (by omega) (by omega) (by omega) (by omega)
          · rw [ui_s, upd_n (by decide), ui_s, upd_n (by omega), x15]; exact hm33
          · rw [ui_n (by decide), ui_n (by decide)]
      · refine ⟨-1, _, _, ?_, ?_, ref_I hI0 (show 2 < 5 by decide)⟩
        · simp only [if_neg c1, if_pos c9, f_Sta_owed]
          simp (disch := omega) only [gd_t, bd_some, bn_eq, jn_eq, bi_some, if_pos, if_neg, i10, nI_lt_i, nI_le_i, nI_eq_i, ll_le, ll_lt, ll_eq, lr_le, lr_lt, lr_eq, ix_n, nI_clamp, nI_add, add_l, add_r, nI_mul, mul_l, mul_r, sub_n, sub_r, div_r, ite_some, if_true, if_false, and_self, and_true, true_and, false_and, and_false, Nat.reduceAdd, Nat.reduceMul, not_false_iff, not_true, eo, r2]
        · simp only [if_neg c1, if_neg c9', if_neg h10]
          simp (disch := omega) only [gd_t, bd_some, bn_eq, jn_eq, bi_some, if_pos, if_neg, i10, nI_lt_i, nI_le_i, nI_eq_i, ll_le, ll_lt, ll_eq, lr_le, lr_lt, lr_eq, ix_n, nI_clamp, nI_add, add_l, add_r, nI_mul, mul_l, mul_r, sub_n, sub_r, div_r, ite_some, if_true, if_false, and_self, and_true, true_and, false_and, and_false, Nat.reduceAdd, Nat.reduceMul, not_false_iff, not_true, eo2, m2, h10]
    · have c9' : (9 : Int32) < a2 := nle_lt.mp c9
      refine ⟨-1, _, _, ?_, ?_, ref_I hI0 (show 1 < 5 by decide)⟩
      · simp only [if_neg c1, if_neg c9, r1, bi_some]
      · simp only [if_neg c1, if_pos c9', if_true, m1, bi_some, if_neg h10]
  · refine ⟨-1, _, _, ?_, ?_, ref_I hI0 (show 0 < 5 by decide)⟩
    · simp only [f_Owe_pay, k1, if_neg hno, bd_some, if_true, r0, bi_some]
    · simp only [f_Mod_pay, k2, if_neg hno, bd_some, if_true, jn_eq, m0, bi_some, if_neg h10]
/-- the parish, seen from two heaps -/
theorem P_of0 {N : Nat} {hc hm : mu_H} {r s u : Nat} (hp : Ipar (mg hc hm) s u) (hr : r < s) : f_Mod_of N hm (nI r) 0 = some (pA hc r) := mof0 (N := N) hp hr
theorem P_of1 {N : Nat} {hc hm : mu_H} {r s u : Nat} (hp : Ipar (mg hc hm) s u) (hr : r < s) : f_Mod_of N hm (nI r) 1 = some (pB hc r) := mof1 (N := N) hp hr
theorem P_of4 {N : Nat} {hc hm : mu_H} {r s u : Nat} (hp : Ipar (mg hc hm) s u) (hr : r < s) : f_Mod_of N hm (nI r) 4 = some (pU hc r) := mof4 (N := N) hp hr
theorem P_tch {N : Nat} {hc hm : mu_H} {r s u : Nat} (hp : Ipar (mg hc hm) s u) (hr : r < s) (p : Int32) : f_Mod_isAt N hm (nI r) p = some (if tch hc r p = true then 1 else 0) := tch_m (N := N) hp hr p
theorem P_far {hc hm : mu_H} {s u : Nat} (hp : Ipar (mg hc hm) s u) (N : Nat) {a r : Nat} (ha : a < u) (hr : r < s) : (∃ d, d < 8 ∧ f_Par_stepsTo N hc 3 (nI a) (nI r) = some (nI d) ∧ f_Mod_haulOf N hm (nI a) (nI r) = some (nI d)) ∨ (f_Par_stepsTo N hc 3 (nI a) (nI r) = some (-1) ∧ f_Mod_haulOf N hm (nI a) (nI r) = some (nI 1000000)) := far (h := mg hc hm) hp N ha hr
theorem P_ur {hc hm : mu_H} {s u : Nat} (hp : Ipar (mg hc hm) s u) (f g : Nat → Int32) : Ipar (mg (ur hc 15 f) (ur hm 68 g)) s u := Ipar_fr (mg_same (A := [15]) (B := [68]) (K := []) (sc_ur (by decide)) (sM_ur (by decide) (by decide))) (by decide) (by decide) hp
def drc (h : mu_H) (r i : Nat) (R : Nat → Int32) : Nat → Int32 := if i = r then R else if tch h i (pB h r) = true then (if 9 ≤ R (9 + i) then R else upd R (9 + i) (R (9 + i) + 1)) else R
def drm (h : mu_H) (r i : Nat) (M : Nat → Int32) : Nat → Int32 := if i = r then M else if tch h i (pB h r) = true then upd M (9 + i) (z_mmin 9 (M (9 + i) + 1)) else M
