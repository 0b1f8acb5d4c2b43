/-! seen, law, end, what is refused -/
theorem ur_g {h : mu_H} {a c : Nat} {f : Nat → Int32} : (ur h a f).1 c = if c = a then f else h.1 c := rfl
theorem ur_ur {h : mu_H} {a : Nat} {f g : Nat → Int32} : ur (ur h a f) a g = ur h a g := by
  have : (ur (ur h a f) a g).1 = (ur h a g).1 := by
    funext c
    simp only [ur_g]
    split <;> rfl
  exact Prod.ext this rfl
theorem ui_ur {h : mu_H} {a k : Nat} {f : Nat → Int32} {x : Int32} : ui (ur h a f) a k x = ur h a (upd f k x) := by
  rw [ui, ur_ur, ur_1]
theorem ur_self {h : mu_H} {a : Nat} : ur h a (h.1 a) = h := by
  have : (ur h a (h.1 a)).1 = h.1 := by
    funext c
    simp only [ur_g]
    split
    · rename_i e; rw [e]
    · rfl
  exact Prod.ext this rfl
theorem s1_lt {n : Nat} (hn : n < 1073741824) (x : Int32) : (nI n - 1 < x) = ¬ (x < nI n) := by
  have hs : (nI n - 1).toInt = (n : Int) - 1 := pk_sub_toInt (a := n) (b := 1) hn (by decide)
  have hi : (nI n).toInt = (n : Int) := nI_toInt (by omega)
  rw [Int32.lt_iff_toInt_lt, Int32.lt_iff_toInt_lt, hs, hi]
  exact propext ⟨fun h => by omega, fun h => by omega⟩
theorem nle_i {x y : Int32} : (¬ x < y) = (y ≤ x) := propext nlt_le
theorem op_seen {N : Nat} (a1 a2 : Int32) (hc hm : mu_H) (hI : Inv (mg hc hm)) : ∃ r hc' hm', f_Owe_seen N hc a1 a2 = some (r, hc') ∧ f_Mod_seen N hm a1 a2 = some (r, hm') ∧ (∀ c, 51 ≤ c → hc'.1 c = hc.1 c) ∧ (∀ c, c < 51 → hm'.1 c = hm.1 c) ∧ Inv (mg hc' hm') := by
  have hI0 := hI
  obtain ⟨s, u, hp, ⟨nse, hsee⟩, hnow, himg, hpas, htap, hlaw, href⟩ := hI
  have h9 := hp.1
  have h6 := hp.2.1
  have e4 : hc.1 3 3 = nI u := hp.2.2.2.2.1
  have e5 : hm.1 51 25 = nI s := hp.2.2.2.2.2.1
  have e6 : hm.1 51 26 = nI u := hp.2.2.2.2.2.2.1
  have hsu := hp.2.2.1
  obtain ⟨n10, k1, k2, k3⟩ := hsee
  have k1 : hc.1 39 3 = nI nse := k1
  have k2 : hm.1 51 40 = nI nse := k2
  have k3 : ∀ i, i < nse → hm.1 73 i = hc.1 40 i ∧ hm.1 74 i = hc.1 41 i := k3
  have hz := nI_z (show s < 2 ^ 31 by omega)
  have h10 : ¬ (1 : Int32) = 0 := by decide
  have hw := pw_u h6
  simp only [f_Owe_seen, f_Sig_add, f_Mod_seen, f_Sig_allSets, f_Par_houses, e4, e5, e6, k1, k2, bd_some, sh_u h6, f_Mod_in, s1_lt (show 2 ^ u < 1073741824 by omega), hz]
  by_cases c1 : a1 < 1
  · refine ⟨-1, hc, hm, by simp only [if_pos c1]; rfl, ?_, fun _ _ => rfl, fun _ _ => rfl, hI0⟩
    by_cases d : s = 0
    · simp only [if_pos d]
    · simp only [if_neg d, if_pos c1, bd_some, if_true]
  by_cases c2 : nI (2 ^ u) ≤ a1
  · refine ⟨-1, hc, hm, by simp only [if_neg c1, if_pos c2]; rfl, ?_, fun _ _ => rfl, fun _ _ => rfl, hI0⟩
    by_cases d : s = 0
    · simp only [if_pos d]
    · simp only [if_neg d, if_neg c1, nle_i, if_pos c2, bd_some, if_true]
  have hs0 : ¬ s = 0 := fun q => by
    rw [hsu.mp q] at c2
    exact c2 (nlt_le.mp c1)
  simp only [if_neg c1, if_neg c2, if_neg hs0, nle_i, bd_some, if_neg h10]
  by_cases c3 : nse = 10
  · refine ⟨-1, hc, hm, ?_, ?_, fun _ _ => rfl, fun _ _ => rfl, hI0⟩
    · simp (disch := omega) only [gd_t, bd_some, bn_eq, jn_eq, bi_some, if_pos, if_neg, i10, nI_lt_i, nI_le_i, nI_eq_i, ll_le, ll_lt, ll_eq, lr_le, lr_lt, lr_eq, ix_n, nI_clamp, nI_add, add_l, add_r, nI_mul, mul_l, mul_r, sub_n, sub_r, div_r, ite_some, c3]
    · simp (disch := omega) only [gd_t, bd_some, bn_eq, jn_eq, bi_some, if_pos, if_neg, i10, nI_lt_i, nI_le_i, nI_eq_i, ll_le, ll_lt, ll_eq, lr_le, lr_lt, lr_eq, ix_n, nI_clamp, nI_add, add_l, add_r, nI_mul, mul_l, mul_r, sub_n, sub_r, div_r, ite_some, c3]
      rfl
  have i1 : ix (nI nse) 10 = true := ix_nI (by omega) (by decide)
  refine ⟨nI (nse + 1), ui (ui (ui hc 40 nse a1) 41 nse (vp_nar .boolean a2)) 39 3 (nI (nse + 1)), ui (ui (ui hm 73 nse a1) 74 nse (vp_nar .boolean a2)) 51 40 (nI (nse + 1)), ?_, ?_, ?_⟩
  · simp (disch := omega) only [gd_t, bd_some, bn_eq, jn_eq, bi_some, if_pos, if_neg, i10, nI_lt_i, nI_le_i, nI_eq_i, ll_le, ll_lt, ll_eq, lr_le, lr_lt, lr_eq, ix_n, nI_clamp, nI_add, add_l, add_r, nI_mul, mul_l, mul_r, sub_n, sub_r, div_r, ite_some, k1, ui_g, reduceCtorEq]
    simp only [show ¬ ((39 : Nat) = 40) by decide, show ¬ ((39 : Nat) = 41) by decide, false_and, if_false, k1, i1, gd_t, nI_clamp (show nse < 2147483648 by omega), add_r, and_self, if_true, bi_some]
  · simp (disch := omega) only [gd_t, bd_some, bn_eq, jn_eq, bi_some, if_pos, if_neg, i10, nI_lt_i, nI_le_i, nI_eq_i, ll_le, ll_lt, ll_eq, lr_le, lr_lt, lr_eq, ix_n, nI_clamp, nI_add, add_l, add_r, nI_mul, mul_l, mul_r, sub_n, sub_r, div_r, ite_some, k2, ui_g]
    simp only [show ¬ ((51 : Nat) = 73) by decide, show ¬ ((51 : Nat) = 74) by decide, false_and, if_false, k2, i1, gd_t, nI_clamp (show nse < 2147483648 by omega), add_r, and_self, if_true]
  have f1 : sc [39, 40, 41] hc (ui (ui (ui hc 40 nse a1) 41 nse (vp_nar .boolean a2)) 39 3 (nI (nse + 1))) := (sc_trans (sc_trans (sc_ui (by decide)) (sc_ui (by decide))) (sc_ui (by decide)))
  have f2 : sM [73, 74] [40] hm (ui (ui (ui hm 73 nse a1) 74 nse (vp_nar .boolean a2)) 51 40 (nI (nse + 1))) := sM_trans (sM_trans (sM_ui (by decide) (by decide)) (sM_ui (by decide) (by decide))) (sM_u5 (by decide))
  have e := mg_same f1 f2
  refine ⟨(hi_of f1 (by decide)), (lo_of f2 (by decide)), s, u, (Ipar_fr e (by decide) (by decide) hp), ⟨nse + 1, by omega, ?_, ?_, ?_⟩, (Inow_fr e (by decide) hnow), (Iimg_fr e (by decide) (by decide) himg), (Ipas_fr e (by decide) (by decide) hpas), (Itap_fr e (by decide) (by decide) htap), (Ilaw_fr e (by decide) (by decide) hlaw), (Iref_fr e (by decide) href)⟩
  · simp [mg_c, ui_g]
  · simp [mg_m, ui_g]
  · intro i hi
    simp only [mg_c (show 40 < 51 by decide), mg_c (show 41 < 51 by decide), mg_m (show ¬ 73 < 51 by decide), mg_m (show ¬ 74 < 51 by decide), ui_g]
    by_cases d : i = nse
    · simp [d]
    · have := k3 i (by omega)
      simp [d, this]
theorem op_law {N : Nat} (a1 : Int32) (hc hm : mu_H) (hI : Inv (mg hc hm)) : ∃ r hc' hm', f_Owe_law N hc a1 = some (r, hc') ∧ f_Mod_law N hm a1 = some (r, hm') ∧ (∀ c, 51 ≤ c → hc'.1 c = hc.1 c) ∧ (∀ c, c < 51 → hm'.1 c = hm.1 c) ∧ Inv (mg hc' hm') := by
  have hI0 := hI
  obtain ⟨s, u, hp, ⟨nse, hsee⟩, hnow, himg, hpas, htap, hlaw, href⟩ := hI
  obtain ⟨l, h4, k1, k2, k3, k4, k5⟩ := hlaw
  have k1 : hc.1 22 4 = nI l := k1
  have k2 : hm.1 51 13 = nI l := k2
  have h10 : ¬ (1 : Int32) = 0 := by decide
  simp only [f_Owe_law, f_Lab_holdTo, f_Mod_law, k1, k2, f_Mod_in, s1_lt (show l < 1073741824 by omega)]
  by_cases c1 : a1 < -1
  · exact ⟨0, hc, hm, by simp only [if_pos c1]; rfl, by simp only [if_pos c1]; rfl, fun _ _ => rfl, fun _ _ => rfl, hI0⟩
  by_cases c2 : a1 < nI l
  · refine ⟨1, ui hc 22 5 a1, ui hm 51 29 a1, by simp only [if_neg c1, if_pos c2]; rfl, by simp only [if_neg c1, c2, not_true, if_false, bd_some, if_neg h10]; rfl, ?_⟩
    have f1 : sc [22] hc (ui hc 22 5 a1) := (sc_ui (by decide))
    have f2 : sM [] [29] hm (ui hm 51 29 a1) := sM_u5 (by decide)
    have e := mg_same f1 f2
    have hcd : a1 = -1 ∨ ∃ j, j < l ∧ a1 = nI j := by
      by_cases d : a1 < 0
      · refine Or.inl ?_
        have a := Int32.lt_iff_toInt_lt.mp d
        have b := Int32.le_iff_toInt_le.mp (nlt_le.mp c1)
        have z1 : (-1 : Int32).toInt = -1 := rfl
        have z0 : (0 : Int32).toInt = 0 := rfl
        exact Int32.toInt_inj.mp (by omega)
      · obtain ⟨j, hj, rfl⟩ := nI_of d
        exact Or.inr ⟨j, (nI_ltI (by omega) (by omega)).mp c2, rfl⟩
    refine ⟨(hi_of f1 (by decide)), (lo_of f2 (by decide)), s, u, (Ipar_fr e (by decide) (by decide) hp), ⟨_, Isee_fr e (by decide) (by decide) hsee⟩, (Inow_fr e (by decide) hnow), (Iimg_fr e (by decide) (by decide) himg), (Ipas_fr e (by decide) (by decide) hpas), (Itap_fr e (by decide) (by decide) htap), ⟨l, h4, ?_, ?_, ?_, ?_, ?_⟩, (Iref_fr e (by decide) href)⟩
    · simp [mg_c, ui_g, k1]
    · simp [mg_m, ui_g, k2]
    · simp [mg_c, mg_m, ui_g]
    · simp only [mg_c (show 22 < 51 by decide), ui_g, and_self, if_true]
      exact hcd
    · simp only [e.1 24 (by decide) (by decide), e.1 25 (by decide) (by decide), e.1 27 (by decide) (by decide), e.1 28 (by decide) (by decide), e.1 30 (by decide) (by decide), e.1 31 (by decide) (by decide), e.1 33 (by decide) (by decide), e.1 34 (by decide) (by decide), e.1 53 (by decide) (by decide), e.1 54 (by decide) (by decide), e.1 56 (by decide) (by decide), e.1 57 (by decide) (by decide), e.1 58 (by decide) (by decide), e.1 59 (by decide) (by decide)]
      exact k5
  · exact ⟨0, hc, hm, by simp only [if_neg c1, if_neg c2]; rfl, by simp only [if_neg c1, c2, not_false_iff, if_true]; rfl, fun _ _ => rfl, fun _ _ => rfl, hI0⟩
theorem op_end {N : Nat} (a1 : Int32) (hc hm : mu_H) (hI : Inv (mg hc hm)) : ∃ r hc' hm', f_Owe_end N hc a1 = some (r, hc') ∧ f_Mod_end N hm a1 = some (r, hm') ∧ (∀ c, 51 ≤ c → hc'.1 c = hc.1 c) ∧ (∀ c, c < 51 → hm'.1 c = hm.1 c) ∧ Inv (mg hc' hm') := by
  have hI0 := hI
  obtain ⟨s, u, hp, ⟨nse, hsee⟩, hnow, himg, hpas, htap, hlaw, href⟩ := hI
  obtain ⟨n, hn, k1, k2, k3⟩ := htap
  have k1 : hc.1 1 1 = nI n := k1
  have k2 : hm.1 51 2 = nI n := k2
  simp only [f_Owe_end, f_Tap_shorten, f_Mod_end, k1, k2]
  by_cases c1 : a1 < 0
  · exact ⟨0, hc, hm, by simp only [if_pos c1]; rfl, by simp only [if_pos c1], fun _ _ => rfl, fun _ _ => rfl, hI0⟩
  by_cases c2 : a1 ≤ nI n
  · obtain ⟨j, hj, rfl⟩ := nI_of c1
    have hjn : j ≤ n := (nI_leI hj (by omega)).mp c2
    refine ⟨1, ui hc 1 1 (nI j), ui hm 51 2 (nI j), by simp only [if_neg c1, if_pos c2]; rfl, by simp only [if_neg c1, if_pos c2]; rfl, ?_⟩
    have f1 : sc [1] hc (ui hc 1 1 (nI j)) := (sc_ui (by decide))
    have f2 : sM [] [2] hm (ui hm 51 2 (nI j)) := sM_u5 (by decide)
    have e := mg_same f1 f2
    refine ⟨(hi_of f1 (by decide)), (lo_of f2 (by decide)), s, u, (Ipar_fr e (by decide) (by decide) hp), ⟨_, Isee_fr e (by decide) (by decide) hsee⟩, (Inow_fr e (by decide) hnow), (Iimg_fr e (by decide) (by decide) himg), (Ipas_fr e (by decide) (by decide) hpas), ⟨j, by omega, ?_, ?_, ?_⟩, (Ilaw_fr e (by decide) (by decide) hlaw), (Iref_fr e (by decide) href)⟩
    · simp [mg_c, ui_g]
    · simp [mg_m, ui_g]
    · simp only [e.1 2 (by decide) (by decide), e.1 52 (by decide) (by decide)]
      exact fun i hi => k3 i (by omega)
  · exact ⟨0, hc, hm, by simp only [if_neg c1, if_neg c2]; rfl, by simp only [if_neg c1, if_neg c2], fun _ _ => rfl, fun _ _ => rfl, hI0⟩
/-- both refuse -/
theorem ref_c {N k : Nat} {h : mu_H} (hk : k < 5) : f_Owe_refuse N h (nI k) = some (-1, ui h 50 k (h.1 50 k + 1)) := by
  simp (disch := omega) only [gd_t, bd_some, bn_eq, jn_eq, bi_some, if_pos, if_neg, i10, nI_lt_i, nI_le_i, nI_eq_i, ll_le, ll_lt, ll_eq, lr_le, lr_lt, lr_eq, ix_n, nI_clamp, nI_add, add_l, add_r, nI_mul, mul_l, mul_r, sub_n, sub_r, div_r, ite_some, f_Owe_refuse]
theorem ref_m {N k : Nat} {h : mu_H} (hk : k < 5) : f_Mod_isRefused N h (nI k) = some (1, ui h 69 k (h.1 69 k + 1)) := by
  simp (disch := omega) only [gd_t, bd_some, bn_eq, jn_eq, bi_some, if_pos, if_neg, i10, nI_lt_i, nI_le_i, nI_eq_i, ll_le, ll_lt, ll_eq, lr_le, lr_lt, lr_eq, ix_n, nI_clamp, nI_add, add_l, add_r, nI_mul, mul_l, mul_r, sub_n, sub_r, div_r, ite_some, f_Mod_isRefused, neg1]
  simp
theorem ref_n {N : Nat} {h : mu_H} : f_Mod_isRefused N h (-1) = some (0, h) := by
  simp [f_Mod_isRefused, jn_eq]
theorem ref_I {k : Nat} {hc hm : mu_H} (hI : Inv (mg hc hm)) (hk : k < 5) : (∀ c, 51 ≤ c → (ui hc 50 k (hc.1 50 k + 1)).1 c = hc.1 c) ∧ (∀ c, c < 51 → (ui hm 69 k (hm.1 69 k + 1)).1 c = hm.1 c) ∧ Inv (mg (ui hc 50 k (hc.1 50 k + 1)) (ui hm 69 k (hm.1 69 k + 1))) := by
  obtain ⟨s, u, hp, ⟨nse, hsee⟩, hnow, himg, hpas, htap, hlaw, href⟩ := hI
  have f1 : sc [50] hc (ui hc 50 k (hc.1 50 k + 1)) := (sc_ui (by decide))
  have f2 : sM [69] [] hm (ui hm 69 k (hm.1 69 k + 1)) := sM_ui (by decide) (by decide)
  have e := mg_same f1 f2
  refine ⟨(hi_of f1 (by decide)), (lo_of f2 (by decide)), s, u, (Ipar_fr e (by decide) (by decide) hp), ⟨_, Isee_fr e (by decide) (by decide) hsee⟩, (Inow_fr e (by decide) hnow), (Iimg_fr e (by decide) (by decide) himg), (Ipas_fr e (by decide) (by decide) hpas), (Itap_fr e (by decide) (by decide) htap), (Ilaw_fr e (by decide) (by decide) hlaw), ?_⟩
  intro j hj
  have := href j hj
  have hk5 : hc.1 50 k = hm.1 69 k := href k hk
  rw [mg_c (by decide), mg_m (by decide)] at this
  rw [mg_c (by decide), mg_m (by decide), ui_g, ui_g, hk5, this]
  by_cases d : j = k <;> simp [d]
