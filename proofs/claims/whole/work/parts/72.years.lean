/-! years -/
theorem ul_v {h : mu_H} {a k : Nat} {x : Int64} : (ul h a k x).2 a k = x := by
  rw [ul_1]
  simp [vp_updL]
def nxt (D : Int64) : Int64 := D * 6364136223846793005 + 1442695040888963407
theorem dw {n : Nat} (h1 : 1 ≤ n) (h2 : n ≤ 100) (D : Int64) : ∃ x, x < n ∧ (∀ (N : Nat) (h : mu_H), h.2 22 6 = D → f_Lab_draw N h (nI n) = some (nI x, ul h 22 6 (nxt D))) ∧ (∀ (N : Nat) (h : mu_H), h.2 51 33 = D → f_Mod_draw N h (nI n) = some (nI x, ul h 51 33 (nxt D))) := by
  obtain ⟨x, hx, e⟩ := dr_v (nxt D) h1 h2
  have hz : decide (¬ (nI n).toInt64 = 0) = true := by
    rw [decide_eq_true_eq]
    intro q
    have := congrArg Int64.toInt q
    rw [Int32.toInt_toInt64, nI_toInt (by omega)] at this
    have z : (0 : Int64).toInt = 0 := rfl
    omega
  refine ⟨x, hx, fun N h hD => ?_, fun N h hD => ?_⟩
  · have hl : (1 : Int32) ≤ nI n := (nI_leI (a := 1) (by decide) (by omega)).mpr h1
    rw [f_Lab_draw, bn_eq, hD, if_pos hl, hz, gd_t, show D * 6364136223846793005 + 1442695040888963407 = nxt D from rfl, ul_v, e]
  · rw [f_Mod_draw, bn_eq, hD, hz, gd_t, show D * 6364136223846793005 + 1442695040888963407 = nxt D from rfl, ul_v, e]
theorem Cx_1 {hc hm hc' hm' : mu_H} {s u : Nat} {o : Option (List Cla)} (h : Cx hc hm s u o) (e1 : hc'.1 = hc.1) (e2 : hm'.1 = hm.1) : Cx hc' hm' s u o := Cx_V h (fun c _ => by rw [e1]) ⟨fun c _ _ => by rw [e2], fun k _ => by rw [e2]⟩
/-- three draws: where and how -/
theorem dwn {N s u : Nat} {hc hm : mu_H} {o : Option (List Cla)} (hX : Cx hc hm s u o) {a : Nat} (ha : a < u) (hD : hc.2 22 6 = hm.2 51 33) : ∃ r k hc3 hm3, r < s ∧ k < 4 ∧ ¬ k = 2 ∧ hc3.1 = hc.1 ∧ hm3.1 = hm.1 ∧ hc3.2 22 6 = hm3.2 51 33 ∧ (∀ (j16 : (Int32 × Int32 × mu_H) → Option mu_H), ((f_Par_stretches N hc 3).bind fun x8 => bi (f_Lab_draw N hc x8) fun x9 h10 => bi (f_Lab_draw N h10 10) fun x12 h13 => (f_Par_ofHouse N h13 3 (nI a) 2).bind fun x15 => if x12 < x15 then j16 (x9, 0, h13) else bi (f_Lab_draw N h13 2) fun x21 h22 => if x21 = 0 then j16 (x9, 1, h22) else j16 (x9, 3, h22)) = j16 (nI r, nI k, hc3)) ∧ f_Mod_drawDay N hm (nI a) = ((f_Mod_comes N hm3 (nI a) (nI r)).bind fun x11 => if x11 = 0 then some hm3 else (f_Mod_workNow N hm3 (nI a) (nI r) (nI k)).bind fun h12 => some h12) := by
  have hp := hX.1
  have h9 := hp.1
  have h6 := hp.2.1
  have e3 : hc.1 3 2 = nI s := hp.2.2.2.1
  have e5 : hm.1 51 25 = nI s := hp.2.2.2.2.2.1
  have hs : 1 ≤ s := by
    have := hp.2.2.1
    omega
  obtain ⟨-, z9, -, c4, -, c6⟩ := P_ct hp ha
  obtain ⟨r, hr, d1, d2⟩ := dw hs (show s ≤ 100 by omega) (hc.2 22 6)
  obtain ⟨x, hx, d3, d4⟩ := dw (n := 10) (by decide) (by decide) (nxt (hc.2 22 6))
  obtain ⟨y, hy, d5, d6⟩ := dw (n := 2) (by decide) (by decide) (nxt (nxt (hc.2 22 6)))
  have d1 := d1 N hc rfl
  have d2 := d2 N hm hD.symm
  have d3 := d3 N (ul hc 22 6 (nxt (hc.2 22 6))) ul_v
  have d4 := d4 N (ul hm 51 33 (nxt (hc.2 22 6))) ul_v
  have d5 := d5 N (ul (ul hc 22 6 (nxt (hc.2 22 6))) 22 6 (nxt (nxt (hc.2 22 6)))) ul_v
  have d6 := d6 N (ul (ul hm 51 33 (nxt (hc.2 22 6))) 51 33 (nxt (nxt (hc.2 22 6)))) ul_v
  rw [show nI 10 = (10 : Int32) from rfl] at d3 d4
  rw [show nI 2 = (2 : Int32) from rfl] at d5 d6
  have g1 : ∀ h : mu_H, h.1 = hc.1 → f_Par_ofHouse N h 3 (nI a) 2 = some (nI (zl hc a)) := fun h e => by rw [ofH2 (by omega), e, c4]
  have g2 : ∀ h : mu_H, h.1 = hm.1 → f_Mod_ofHouse N h (nI a) 2 = some (nI (zl hc a)) := fun h e => by rw [mofH2 (by omega), e, c6]
  have hps : f_Par_stretches N hc 3 = some (nI s) := by rw [← e3]; rfl
  by_cases c1 : x < zl hc a
  · refine ⟨r, 0, ul (ul hc 22 6 (nxt (hc.2 22 6))) 22 6 (nxt (nxt (hc.2 22 6))), ul (ul hm 51 33 (nxt (hc.2 22 6))) 51 33 (nxt (nxt (hc.2 22 6))), hr, by decide, by decide, ?_, ?_, ?_, fun j16 => ?_, ?_⟩
    · rfl
    · rfl
    · rw [ul_v, ul_v]
    · rw [hps, bd_some, d1, bi_some, d3, bi_some, g1 (ul (ul hc 22 6 (nxt (hc.2 22 6))) 22 6 (nxt (nxt (hc.2 22 6)))) rfl, bd_some, if_pos ((nI_ltI (by omega) (by omega)).mpr c1)]
      rfl
    · rw [f_Mod_drawDay, e5, d2, bi_some, d4, bi_some, g2 (ul (ul hm 51 33 (nxt (hc.2 22 6))) 51 33 (nxt (nxt (hc.2 22 6)))) rfl, bd_some, jn_eq, if_neg (fun q => by have := (nI_leI (by omega) (by omega)).mp q; omega)]
      rfl
  · by_cases c2 : y = 0
    · subst c2
      refine ⟨r, 1, ul (ul (ul hc 22 6 (nxt (hc.2 22 6))) 22 6 (nxt (nxt (hc.2 22 6)))) 22 6 (nxt (nxt (nxt (hc.2 22 6)))), ul (ul (ul hm 51 33 (nxt (hc.2 22 6))) 51 33 (nxt (nxt (hc.2 22 6)))) 51 33 (nxt (nxt (nxt (hc.2 22 6)))), hr, by decide, by decide, ?_, ?_, ?_, fun j16 => ?_, ?_⟩
      · rfl
      · rfl
      · rw [ul_v, ul_v]
      · rw [hps, bd_some, d1, bi_some, d3, bi_some, g1 (ul (ul hc 22 6 (nxt (hc.2 22 6))) 22 6 (nxt (nxt (hc.2 22 6)))) rfl, bd_some, if_neg (fun q => c1 ((nI_ltI (by omega) (by omega)).mp q)), d5, bi_some, if_pos (show nI 0 = (0 : Int32) from rfl)]
        rfl
      · rw [f_Mod_drawDay, e5, d2, bi_some, d4, bi_some, g2 (ul (ul hm 51 33 (nxt (hc.2 22 6))) 51 33 (nxt (nxt (hc.2 22 6)))) rfl, bd_some, jn_eq, if_pos ((nI_leI (by omega) (by omega)).mpr (by omega)), d6, bi_some, if_pos (show nI 0 = (0 : Int32) from rfl)]
        rfl
    · refine ⟨r, 3, ul (ul (ul hc 22 6 (nxt (hc.2 22 6))) 22 6 (nxt (nxt (hc.2 22 6)))) 22 6 (nxt (nxt (nxt (hc.2 22 6)))), ul (ul (ul hm 51 33 (nxt (hc.2 22 6))) 51 33 (nxt (nxt (hc.2 22 6)))) 51 33 (nxt (nxt (nxt (hc.2 22 6)))), hr, by decide, by decide, ?_, ?_, ?_, fun j16 => ?_, ?_⟩
      · rfl
      · rfl
      · rw [ul_v, ul_v]
      · rw [hps, bd_some, d1, bi_some, d3, bi_some, g1 (ul (ul hc 22 6 (nxt (hc.2 22 6))) 22 6 (nxt (nxt (hc.2 22 6)))) rfl, bd_some, if_neg (fun q => c1 ((nI_ltI (by omega) (by omega)).mp q)), d5, bi_some, if_neg (nI_ne0 (by omega) (by omega))]
        rfl
      · rw [f_Mod_drawDay, e5, d2, bi_some, d4, bi_some, g2 (ul (ul hm 51 33 (nxt (hc.2 22 6))) 51 33 (nxt (nxt (hc.2 22 6)))) rfl, bd_some, jn_eq, if_pos ((nI_leI (by omega) (by omega)).mpr (by omega)), d6, bi_some, if_neg (nI_ne0 (by omega) (by omega))]
        rfl
/-- one house's drawn day -/
def Ys (hc0 hm0 : mu_H) (s u n : Nat) (o : Option (List Cla)) (hc hm : mu_H) : Prop := Cx hc hm s u o ∧ hc.2 22 6 = hm.2 51 33 ∧ hc.1 15 33 = nI n ∧ sc [15, 26, 29, 32, 35, 36] hc0 hc ∧ sM [60, 61, 68] [] hm0 hm
theorem ys_1 {N s u n : Nat} {hc0 hm0 hc hm : mu_H} {o : Option (List Cla)} (hN : 3000 ≤ N) (hY : Ys hc0 hm0 s u n o hc hm) {a : Nat} (ha : a < u) : ∃ hc' hm', Ys hc0 hm0 s u n o hc' hm' ∧ (∀ rec, f_Lab_workDrawnDays_L2 N rec (nI a, hc) = rec (nI (a + 1), hc')) ∧ (∀ k rec, f_Mod_years_L38 N k rec (nI a, hm) = rec (nI (a + 1), hm')) := by
  obtain ⟨hX, hD, h33, f1, f2⟩ := hY
  have hp := hX.1
  have h9 := hp.1
  have h6 := hp.2.1
  have e4 : hc.1 3 3 = nI u := hp.2.2.2.2.1
  have e6 : hm.1 51 26 = nI u := hp.2.2.2.2.2.2.1
  obtain ⟨⟨ow, ho9, how⟩, -, -⟩ := hX.2.2.2.2.2.2.2 a (by omega)
  have how2 : hm.1 68 (18 + a) = nI ow := (hX.2.2.1 (18 + a) (by omega)).symm.trans how
  have h10 : ¬ (1 : Int32) = 0 := by decide
  by_cases c0 : ow = 0
  · subst c0
    refine ⟨hc, hm, ⟨hX, hD, h33, f1, f2⟩, fun rec => ?_, fun k rec => ?_⟩
    · simp (disch := omega) only [↓bn_eq, ↓jn_eq, ↓reduceIte, gd_t, bd_some, bn_eq, jn_eq, bi_some, if_pos, if_neg, i10, nI_lt_i, nI_le_i, nI_eq_i, ll_le, ll_lt, ll_eq, lr_le, lr_lt, lr_eq, ix_n, nI_clamp, nI_add, add_l, add_r, nI_mul, mul_l, mul_r, sub_n, sub_r, div_r, ite_some, if_true, if_false, and_self, and_true, true_and, false_and, and_false, Nat.reduceAdd, Nat.reduceMul, not_false_iff, not_true, f_Lab_workDrawnDays_L2, f_Par_houses, e4, f_Sta_owed, how]
    · simp (disch := omega) only [↓bn_eq, ↓jn_eq, ↓reduceIte, gd_t, bd_some, bn_eq, jn_eq, bi_some, if_pos, if_neg, i10, nI_lt_i, nI_le_i, nI_eq_i, ll_le, ll_lt, ll_eq, lr_le, lr_lt, lr_eq, ix_n, nI_clamp, nI_add, add_l, add_r, nI_mul, mul_l, mul_r, sub_n, sub_r, div_r, ite_some, if_true, if_false, and_self, and_true, true_and, false_and, and_false, Nat.reduceAdd, Nat.reduceMul, not_false_iff, not_true, f_Mod_years_L38, e6, how2]
  have hle0 : ¬ nI ow ≤ 0 := fun q => c0 ((nI_le0 (by omega)).mp q)
  obtain ⟨r, k, hc3, hm3, hr, hk, hk2, x1, x2, x3, x4, x5⟩ := dwn (N := N) hX ha hD
  have hX3 : Cx hc3 hm3 s u o := Cx_1 hX x1 x2
  have hcl : ∀ rec, f_Lab_workDrawnDays_L2 N rec (nI a, hc) = ((f_Lab_canCome N hc3 (nI a) (nI r)).bind fun x19 => if x19 = 0 then rec (nI (a + 1), hc3) else (f_Lab_workDay N hc3 (nI a) (nI r) (nI k)).bind fun h20 => rec (nI (a + 1), h20)) := by
    intro rec
    have := x4 (fun ((x9, x17, h18) : Int32 × Int32 × mu_H) => (f_Lab_canCome N h18 (nI a) x9).bind fun x19 => if x19 = 0 then rec (nI (a + 1), h18) else (f_Lab_workDay N h18 (nI a) x9 x17).bind fun h20 => rec (nI (a + 1), h20))
    simp only at this
    rw [← this]
    simp only [f_Lab_workDrawnDays_L2, f_Par_houses, e4, bd_some, nI_le_i (show u < 2147483648 by omega) (show a < 2147483648 by omega), if_neg (show ¬ u ≤ a by omega), f_Sta_owed, Nat.reduceAdd, add_l, ix_nI (show 18 + a < 34 by omega) (by decide), gd_t, nI_clamp (show 18 + a < 2147483648 by omega), how, jn_eq, if_neg hle0, nI_1]
  have hml : ∀ k9 rec, f_Mod_years_L38 N k9 rec (nI a, hm) = (f_Mod_drawDay N hm (nI a)).bind fun h17 => rec (nI (a + 1), h17) := by
    intro k9 rec
    simp only [f_Mod_years_L38, e6, nI_le_i (show u < 2147483648 by omega) (show a < 2147483648 by omega), if_neg (show ¬ u ≤ a by omega), add_l, ix_nI (show 18 + a < 214 by omega) (by decide), gd_t, nI_clamp (show 18 + a < 2147483648 by omega), how2, jn_eq, if_neg hle0, nI_1]
  obtain ⟨kc, km⟩ := come_c hX3.1 N ha hr
  by_cases c : cme hc3 a r = true
  · obtain ⟨hc4, hm4, v1, v2, v3, v4, v5, v6, -, v8, v9⟩ := wdy_2 (N := N) (ow := ow) hN hX3 ha hr hk (Or.inr (Or.inr c)) (by rw [x1]; exact how) (by omega) ho9
    refine ⟨hc4, hm4, ⟨?_, ?_, ?_, ?_, ?_⟩, fun rec => ?_, fun k9 rec => ?_⟩
    · refine ⟨Ipar_fr (mg_same v3 v4) (by decide) (by decide) hX3.1, HL_fr v3 v4 (by decide) (by decide) (by decide) (by decide) hX3.2.1, ?_⟩
      rw [v3 16 (by decide)]
      exact v5
    · rw [v8, v9]; exact x3
    · rw [v6, x1]; exact h33
    · exact sc_trans (sc_trans f1 (fun c _ => by rw [x1])) v3
    · exact sM_trans (sM_trans f2 ⟨fun c _ _ => by rw [x2], fun k _ => by rw [x2]⟩) v4
    · rw [hcl, kc, if_pos c, bd_some, if_neg h10, v1, bd_some]
    · rw [hml, x5, km, if_pos c, bd_some, if_neg h10, v2, bd_some, bd_some]
  · refine ⟨hc3, hm3, ⟨hX3, x3, by rw [x1]; exact h33, sc_trans f1 (fun c _ => by rw [x1]), sM_trans f2 ⟨fun c _ _ => by rw [x2], fun k _ => by rw [x2]⟩⟩, fun rec => ?_, fun k9 rec => ?_⟩
    · rw [hcl, kc, if_neg c, bd_some, if_pos rfl]
    · rw [hml, x5, km, if_neg c, bd_some, if_pos rfl, bd_some]
theorem ys_l {N s u n : Nat} {hc0 hm0 : mu_H} {o : Option (List Cla)} (hN : 3000 ≤ N) (h6 : u ≤ 6) : ∀ d i hc hm f, i + d = u → d < f → Ys hc0 hm0 s u n o hc hm → ∃ hc' hm', Ys hc0 hm0 s u n o hc' hm' ∧ lp (f_Lab_workDrawnDays_L2 N) f (nI i, hc) = some hc' ∧ ∀ k, lp (f_Mod_years_L38 N k) f (nI i, hm) = k hm' := by
  intro d
  induction d with
  | zero =>
    intro i hc hm f hi hf hY
    obtain ⟨g, rfl⟩ : ∃ g, f = g + 1 := ⟨f - 1, by omega⟩
    have e4 : hc.1 3 3 = nI u := hY.1.1.2.2.2.2.1
    have e6 : hm.1 51 26 = nI u := hY.1.1.2.2.2.2.2.2.1
    refine ⟨hc, hm, hY, ?_, fun k => ?_⟩
    · show f_Lab_workDrawnDays_L2 N _ (nI i, hc) = _
      simp (disch := omega) only [↓bn_eq, ↓jn_eq, ↓reduceIte, gd_t, bd_some, bn_eq, jn_eq, bi_some, if_pos, if_neg, i10, nI_lt_i, nI_le_i, nI_eq_i, ll_le, ll_lt, ll_eq, lr_le, lr_lt, lr_eq, ix_n, nI_clamp, nI_add, add_l, add_r, nI_mul, mul_l, mul_r, sub_n, sub_r, div_r, ite_some, if_true, if_false, and_self, and_true, true_and, false_and, and_false, Nat.reduceAdd, Nat.reduceMul, not_false_iff, not_true, f_Lab_workDrawnDays_L2, f_Par_houses, e4]
    · show f_Mod_years_L38 N k _ (nI i, hm) = _
      simp (disch := omega) only [↓bn_eq, ↓jn_eq, ↓reduceIte, gd_t, bd_some, bn_eq, jn_eq, bi_some, if_pos, if_neg, i10, nI_lt_i, nI_le_i, nI_eq_i, ll_le, ll_lt, ll_eq, lr_le, lr_lt, lr_eq, ix_n, nI_clamp, nI_add, add_l, add_r, nI_mul, mul_l, mul_r, sub_n, sub_r, div_r, ite_some, if_true, if_false, and_self, and_true, true_and, false_and, and_false, Nat.reduceAdd, Nat.reduceMul, not_false_iff, not_true, f_Mod_years_L38, e6]
  | succ d ih =>
    intro i hc hm f hi hf hY
    obtain ⟨g, rfl⟩ : ∃ g, f = g + 1 := ⟨f - 1, by omega⟩
    obtain ⟨hc1, hm1, hY1, e1, e2⟩ := ys_1 hN hY (show i < u by omega)
    obtain ⟨hc2, hm2, hY2, e3, e4⟩ := ih (i + 1) hc1 hm1 g (by omega) (by omega) hY1
    exact ⟨hc2, hm2, hY2, (e1 _).trans e3, fun k => (e2 k _).trans (e4 k)⟩
theorem yea_1 {N n : Nat} (hN : 9000 ≤ N) {hc hm : mu_H} (hI : Inv (mg hc hm)) (hD : hc.2 22 6 = hm.2 51 33) (h0 : ¬ hc.1 3 2 = 0) (h33 : hc.1 15 33 = nI n) (hn : n ≤ 3998) : ∃ hc1 hm1 hc2 hm2 hc3 hm3, f_Pas_keep N hc 14 = some hc1 ∧ f_Mod_keep N hm = some hm1 ∧ f_Lab_workDrawnDays N hc1 = some hc2 ∧ (∀ k, lp (f_Mod_years_L38 N k) N (0, hm1) = k hm2) ∧ f_Lab_passSeason N hc2 = some hc3 ∧ f_Mod_passSeason N hm2 = some hm3 ∧ (∀ c, 51 ≤ c → hc3.1 c = hc.1 c) ∧ (∀ c, c < 51 → hm3.1 c = hm.1 c) ∧ Inv (mg hc3 hm3) ∧ hc3.1 3 = hc.1 3 ∧ hc3.1 15 33 = nI (n + 1) ∧ hc3.2 22 6 = hm3.2 51 33 := by
  obtain ⟨s, u, hp, ⟨nse, hsee⟩, hnow, himg, hpas, htap, hlaw, href⟩ := hI
  have h6 := hp.2.1
  have e3 : hc.1 3 2 = nI s := hp.2.2.2.1
  have hs : 0 < s := by
    refine Nat.pos_of_ne_zero (fun q => h0 ?_)
    rw [e3, q]; rfl
  have hnow1 : Ist s u (hc.1 15) (hc.1 16) (hm.1 68) := hnow
  obtain ⟨o, hl⟩ := HL_of hlaw
  obtain ⟨hc1, hm1, w1, w2, w3, w4, w5, w6, w7⟩ := keep_2 hN hnow hpas h33 (by omega)
  have x15 : hc1.1 15 = hc.1 15 := w3 15 (by decide)
  have x16 : hc1.1 16 = hc.1 16 := w3 16 (by decide)
  have x68 : hm1.1 68 = hm.1 68 := w4.1 68 (by decide) (by decide)
  have hX1 : Cx hc1 hm1 s u o := ⟨Ipar_fr (mg_same w3 w4) (by decide) (by decide) hp, HL_fr w3 w4 (by decide) (by decide) (by decide) (by decide) hl, by rw [x15, x16, x68]; exact hnow1⟩
  have hY1 : Ys hc1 hm1 s u n o hc1 hm1 := ⟨hX1, by rw [w6, w7]; exact hD, by rw [x15]; exact h33, sc_refl, sM_refl⟩
  obtain ⟨hc2, hm2, ⟨hX2, hD2, h332, f1, f2⟩, y1, y2⟩ := ys_l (N := N) (by omega) h6 u 0 hc1 hm1 N (by omega) (by omega) hY1
  obtain ⟨hc3, hm3, v1, v2, v3, v4, v5, v6, v7, v8, v9⟩ := pass_2 (N := N) (n := n) (by omega) hX2.1 hs hX2.2.2 h332 hn
  have g1 : sc [15, 16, 26, 29, 32, 35, 36] hc1 hc3 := sc_trans (sc_mono f1 (by decide)) (sc_mono v3 (by decide))
  have g2 : sM [60, 61, 68] [] hm1 hm3 := sM_trans f2 (sM_mono v4 (by decide) (by decide))
  obtain ⟨i1, i2, i3⟩ := act_I hp hsee himg htap hlaw href w3 w4 w5 g1 g2 v5 (Nat.le_succ n) (Nat.le_refl _) (by omega) v6 (fun k hk => by rw [v9 k hk, f1 16 (by decide)])
  exact ⟨hc1, hm1, hc2, hm2, hc3, hm3, w1, w2, y1, y2, v1, v2, i1, i2, i3, (g1 3 (by decide)).trans (w3 3 (by decide)), v6, by rw [v7, v8]; exact hD2⟩
theorem yea_l {N K : Nat} (hN : 9000 ≤ N) (hK : K ≤ 60) (k4 k3 : mu_H → Option (Int32 × mu_H)) : ∀ d i n f hc hm, Inv (mg hc hm) → hc.2 22 6 = hm.2 51 33 → ¬ hc.1 3 2 = 0 → hc.1 15 33 = nI n → n + d ≤ 3999 → i + d = K → d < f → ∃ hc' hm', lp (f_Owe_years_L49 N (nI K) k4) f (nI i, hc) = k4 hc' ∧ lp (f_Mod_years_L25 N (nI K) k3) f (nI i, hm) = k3 hm' ∧ (∀ c, 51 ≤ c → hc'.1 c = hc.1 c) ∧ (∀ c, c < 51 → hm'.1 c = hm.1 c) ∧ Inv (mg hc' hm') := by
  intro d
  induction d with
  | zero =>
    intro i n f hc hm hI hD h0 h33 hn hi hf
    obtain ⟨g, rfl⟩ : ∃ g, f = g + 1 := ⟨f - 1, by omega⟩
    refine ⟨hc, hm, ?_, ?_, fun _ _ => rfl, fun _ _ => rfl, hI⟩
    · show f_Owe_years_L49 N (nI K) k4 _ (nI i, hc) = _
      simp (disch := omega) only [↓bn_eq, ↓jn_eq, ↓reduceIte, gd_t, bd_some, bn_eq, jn_eq, bi_some, if_pos, if_neg, i10, nI_lt_i, nI_le_i, nI_eq_i, ll_le, ll_lt, ll_eq, lr_le, lr_lt, lr_eq, ix_n, nI_clamp, nI_add, add_l, add_r, nI_mul, mul_l, mul_r, sub_n, sub_r, div_r, ite_some, if_true, if_false, and_self, and_true, true_and, false_and, and_false, Nat.reduceAdd, Nat.reduceMul, not_false_iff, not_true, f_Owe_years_L49]
    · show f_Mod_years_L25 N (nI K) k3 _ (nI i, hm) = _
      simp (disch := omega) only [↓bn_eq, ↓jn_eq, ↓reduceIte, gd_t, bd_some, bn_eq, jn_eq, bi_some, if_pos, if_neg, i10, nI_lt_i, nI_le_i, nI_eq_i, ll_le, ll_lt, ll_eq, lr_le, lr_lt, lr_eq, ix_n, nI_clamp, nI_add, add_l, add_r, nI_mul, mul_l, mul_r, sub_n, sub_r, div_r, ite_some, if_true, if_false, and_self, and_true, true_and, false_and, and_false, Nat.reduceAdd, Nat.reduceMul, not_false_iff, not_true, f_Mod_years_L25]
  | succ d ih =>
    intro i n f hc hm hI hD h0 h33 hn hi hf
    obtain ⟨g, rfl⟩ : ∃ g, f = g + 1 := ⟨f - 1, by omega⟩
    obtain ⟨hc1, hm1, hc2, hm2, hc3, hm3, w1, w2, w3, w4, w5, w6, w7, w8, w9, w10, w11, w12⟩ := yea_1 hN hI hD h0 h33 (by omega)
    obtain ⟨hc', hm', v1, v2, v3, v4, v5⟩ := ih (i + 1) (n + 1) g hc3 hm3 w9 w12 (by rw [w10]; exact h0) w11 (by omega) (by omega) (by omega)
    refine ⟨hc', hm', ?_, ?_, fun c hc => (v3 c hc).trans (w7 c hc), fun c hc => (v4 c hc).trans (w8 c hc), v5⟩
    · show f_Owe_years_L49 N (nI K) k4 (lp (f_Owe_years_L49 N (nI K) k4) g) (nI i, hc) = _
      simp (disch := omega) only [↓bn_eq, ↓jn_eq, ↓reduceIte, gd_t, bd_some, bn_eq, jn_eq, bi_some, if_pos, if_neg, i10, nI_lt_i, nI_le_i, nI_eq_i, ll_le, ll_lt, ll_eq, lr_le, lr_lt, lr_eq, ix_n, nI_clamp, nI_add, add_l, add_r, nI_mul, mul_l, mul_r, sub_n, sub_r, div_r, ite_some, if_true, if_false, and_self, and_true, true_and, false_and, and_false, Nat.reduceAdd, Nat.reduceMul, not_false_iff, not_true, f_Owe_years_L49, w1, w3, w5, v1]
    · show f_Mod_years_L25 N (nI K) k3 (lp (f_Mod_years_L25 N (nI K) k3) g) (nI i, hm) = _
      simp (disch := omega) only [↓bn_eq, ↓jn_eq, ↓reduceIte, gd_t, bd_some, bn_eq, jn_eq, bi_some, if_pos, if_neg, i10, nI_lt_i, nI_le_i, nI_eq_i, ll_le, ll_lt, ll_eq, lr_le, lr_lt, lr_eq, ix_n, nI_clamp, nI_add, add_l, add_r, nI_mul, mul_l, mul_r, sub_n, sub_r, div_r, ite_some, if_true, if_false, and_self, and_true, true_and, false_and, and_false, Nat.reduceAdd, Nat.reduceMul, not_false_iff, not_true, f_Mod_years_L25, w2, w4, w6, v2]
theorem op_years {N : Nat} (hN : 9000 ≤ N) (a1 : Int32) (a2 : Int64) (hc hm : mu_H) (hI : Inv (mg hc hm)) : ∃ r hc' hm', f_Owe_years N hc a1 a2 = some (r, hc') ∧ f_Mod_years N hm a1 a2 = some (r, hm') ∧ (∀ c, 51 ≤ c → hc'.1 c = hc.1 c) ∧ (∀ c, c < 51 → hm'.1 c = hm.1 c) ∧ Inv (mg hc' hm') := by
  obtain ⟨s, h9, e3, e5⟩ := par_s hI
  obtain ⟨n, hn, q33, q31, m32⟩ := now_n hI
  have hz := nI_z (show s < 2 ^ 31 by omega)
  have h10 : ¬ (1 : Int32) = 0 := by decide
  have k3 := two_in (N := N) (h := hm) (a := 1) (b := 60) (by decide) (by decide) (by decide) a1
  rw [show nI 1 = (1 : Int32) from rfl, show nI 60 = (60 : Int32) from rfl] at k3
  have z31 : (31 : Int32).toNatClampNeg = 31 := rfl
  have i31 : ix 31 34 = true := rfl
  have z32 : (32 : Int32).toNatClampNeg = 32 := rfl
  have i32 : ix 32 214 = true := rfl
  by_cases hs : s = 0
  · refine ⟨-1, hc, hm, ?_, ?_, fun _ _ => rfl, fun _ _ => rfl, hI⟩
    · simp only [f_Owe_years, f_Par_isNone, e3, hz.mpr hs, if_true, bd_some, if_neg h10]
    · simp only [f_Mod_years, e5, hz.mpr hs, if_true]
  have h0 : ¬ nI s = 0 := fun q => hs (hz.mp q)
  simp only [f_Owe_years, f_Par_isNone, e3, h0, if_false, bd_some, if_true, jn_eq, f_Mod_years, e5, k3, f_Mod_areSeasons, f_Sta_season, i31, z31, gd_t, q31, i32, z32, m32, f_Lab_sow, bn_eq]
  by_cases c1 : a1 < 1
  · refine ⟨-1, hc, hm, ?_, ?_, fun _ _ => rfl, fun _ _ => rfl, hI⟩
    · simp only [if_pos c1]
    · simp only [if_pos c1, if_true, bd_some]
  by_cases c2 : 60 < a1
  · refine ⟨-1, hc, hm, ?_, ?_, fun _ _ => rfl, fun _ _ => rfl, hI⟩
    · simp only [if_neg c1, if_pos c2]
    · simp only [if_neg c1, if_pos c2, if_true, bd_some]
  obtain ⟨K, hK, hK1, rfl⟩ := nI_1of c1
  have hK60 : K ≤ 60 := (nI_leI hK (show 60 < 2 ^ 31 by decide)).mp (nlt_le.mp c2)
  by_cases c3 : n + K ≤ 3999
  · have hI2 : Inv (mg (ul hc 22 6 a2) (ul hm 51 33 a2)) := Inv_fst rfl hI
    obtain ⟨hc', hm', v1, v2, v3, v4, v5⟩ := yea_l hN hK60 (fun h5 => some (h5.1 15 31, h5)) (fun h4 => some (h4.1 68 32, h4)) K 0 n N (ul hc 22 6 a2) (ul hm 51 33 a2) hI2 (by rw [ul_v, ul_v]) (by show ¬ hc.1 3 2 = 0; rw [e3]; exact h0) q33 c3 (by omega) (by omega)
    obtain ⟨n', -, -, y1, y2⟩ := now_n v5
    refine ⟨nI n', hc', hm', ?_, ?_, v3, v4, v5⟩
    · simp only [if_neg c1, if_neg c2]
      rw [show nI 0 = (0 : Int32) from rfl] at v1
      simp (disch := omega) only [↓bn_eq, ↓jn_eq, ↓reduceIte, gd_t, bd_some, bn_eq, jn_eq, bi_some, if_pos, if_neg, i10, nI_lt_i, nI_le_i, nI_eq_i, ll_le, ll_lt, ll_eq, lr_le, lr_lt, lr_eq, ix_n, nI_clamp, nI_add, add_l, add_r, nI_mul, mul_l, mul_r, sub_n, sub_r, div_r, ite_some, if_true, if_false, and_self, and_true, true_and, false_and, and_false, Nat.reduceAdd, Nat.reduceMul, not_false_iff, not_true, v1, y1]
    · simp only [if_neg c1, if_neg c2, if_neg h10]
      rw [show nI 0 = (0 : Int32) from rfl] at v2
      simp (disch := omega) only [↓bn_eq, ↓jn_eq, ↓reduceIte, gd_t, bd_some, bn_eq, jn_eq, bi_some, if_pos, if_neg, i10, nI_lt_i, nI_le_i, nI_eq_i, ll_le, ll_lt, ll_eq, lr_le, lr_lt, lr_eq, ix_n, nI_clamp, nI_add, add_l, add_r, nI_mul, mul_l, mul_r, sub_n, sub_r, div_r, ite_some, if_true, if_false, and_self, and_true, true_and, false_and, and_false, Nat.reduceAdd, Nat.reduceMul, not_false_iff, not_true, h10, v2, y2]
  · refine ⟨-1, hc, hm, ?_, ?_, fun _ _ => rfl, fun _ _ => rfl, hI⟩
    · simp only [if_neg c1, if_neg c2]
      simp (disch := omega) only [↓bn_eq, ↓jn_eq, ↓reduceIte, gd_t, bd_some, bn_eq, jn_eq, bi_some, if_pos, if_neg, i10, nI_lt_i, nI_le_i, nI_eq_i, ll_le, ll_lt, ll_eq, lr_le, lr_lt, lr_eq, ix_n, nI_clamp, nI_add, add_l, add_r, nI_mul, mul_l, mul_r, sub_n, sub_r, div_r, ite_some, if_true, if_false, and_self, and_true, true_and, false_and, and_false, Nat.reduceAdd, Nat.reduceMul, not_false_iff, not_true]
    · simp only [if_neg c1, if_neg c2, if_neg h10]
      simp (disch := omega) only [↓bn_eq, ↓jn_eq, ↓reduceIte, gd_t, bd_some, bn_eq, jn_eq, bi_some, if_pos, if_neg, i10, nI_lt_i, nI_le_i, nI_eq_i, ll_le, ll_lt, ll_eq, lr_le, lr_lt, lr_eq, ix_n, nI_clamp, nI_add, add_l, add_r, nI_mul, mul_l, mul_r, sub_n, sub_r, div_r, ite_some, if_true, if_false, and_self, and_true, true_and, false_and, and_false, Nat.reduceAdd, Nat.reduceMul, not_false_iff, not_true]
