/-! seasons -/
theorem now_n {hc hm : mu_H} (hI : Inv (mg hc hm)) : ∃ n, n ≤ 3999 ∧ hc.1 15 33 = nI n ∧ hc.1 15 31 = nI n ∧ hm.1 68 32 = nI n := by
  obtain ⟨s, u, hp, ⟨nse, hsee⟩, hnow, himg, hpas, htap, hlaw, href⟩ := hI
  have hnow1 : Ist s u (hc.1 15) (hc.1 16) (hm.1 68) := hnow
  obtain ⟨n, hn, q4, q5, -, -⟩ := hnow1.2.2.2.1
  exact ⟨n, hn, q5, q4, hnow1.2.2.1.symm.trans q4⟩
theorem par_s {hc hm : mu_H} (hI : Inv (mg hc hm)) : ∃ s, s ≤ 9 ∧ hc.1 3 2 = nI s ∧ hm.1 51 25 = nI s := by
  obtain ⟨s, u, hp, ⟨nse, hsee⟩, hnow, himg, hpas, htap, hlaw, href⟩ := hI
  exact ⟨s, hp.1, hp.2.2.2.1, hp.2.2.2.2.2.1⟩
theorem sea_1 {N n : Nat} (hN : 9000 ≤ N) {hc hm : mu_H} (hI : Inv (mg hc hm)) (h0 : ¬ hc.1 3 2 = 0) (h33 : hc.1 15 33 = nI n) (hn : n ≤ 3998) : ∃ hc1 hm1 hc2 hm2, f_Pas_keep N hc 14 = some hc1 ∧ f_Mod_keep N hm = some hm1 ∧ f_Lab_passSeason N hc1 = some hc2 ∧ f_Mod_passSeason N hm1 = some hm2 ∧ (∀ c, 51 ≤ c → hc2.1 c = hc.1 c) ∧ (∀ c, c < 51 → hm2.1 c = hm.1 c) ∧ Inv (mg hc2 hm2) ∧ hc2.1 3 = hc.1 3 ∧ hc2.1 15 33 = nI (n + 1) := by
  obtain ⟨s, u, hp, ⟨nse, hsee⟩, hnow, himg, hpas, htap, hlaw, href⟩ := hI
  have e3 : hc.1 3 2 = nI s := hp.2.2.2.1
  have hs : 0 < s := by
    refine Nat.pos_of_ne_zero (fun q => h0 ?_)
    rw [e3, q]; rfl
  have hnow1 : Ist s u (hc.1 15) (hc.1 16) (hm.1 68) := hnow
  obtain ⟨hc1, hm1, w1, w2, w3, w4, w5, -, -⟩ := keep_2 hN hnow hpas h33 (by omega)
  have x15 : hc1.1 15 = hc.1 15 := w3 15 (by decide)
  have x16 : hc1.1 16 = hc.1 16 := w3 16 (by decide)
  have x68 : hm1.1 68 = hm.1 68 := w4.1 68 (by decide) (by decide)
  have hp1 : Ipar (mg hc1 hm1) s u := Ipar_fr (mg_same w3 w4) (by decide) (by decide) hp
  obtain ⟨hc2, hm2, v1, v2, v3, v4, v5, v6, -, -, v7⟩ := pass_2 (N := N) (n := n) (by omega) hp1 hs (by rw [x15, x16, x68]; exact hnow1) (by rw [x15]; exact h33) hn
  have f1 : sc [15, 16, 26, 29, 32, 35, 36] hc1 hc2 := sc_mono v3 (by decide)
  have f2 : sM [60, 61, 68] [] hm1 hm2 := sM_mono v4 (by decide) (by decide)
  obtain ⟨g1, g2, g3⟩ := act_I hp hsee himg htap hlaw href w3 w4 w5 f1 f2 v5 (Nat.le_succ n) (Nat.le_refl _) (by omega) v6 v7
  exact ⟨hc1, hm1, hc2, hm2, w1, w2, v1, v2, g1, g2, g3, (v3 3 (by decide)).trans (w3 3 (by decide)), v6⟩
theorem sea_l {N K : Nat} (hN : 9000 ≤ N) (hK : K ≤ 60) (k7 k6 : mu_H → Option (Int32 × mu_H)) : ∀ d i n f hc hm, Inv (mg hc hm) → ¬ hc.1 3 2 = 0 → hc.1 15 33 = nI n → n + d ≤ 3999 → i + d = K → d < f → ∃ hc' hm', lp (f_Owe_seasons_L56 N (nI K) k7) f (nI i, hc) = k7 hc' ∧ lp (f_Mod_seasons_L49 N (nI K) k6) f (nI i, hm) = k6 hm' ∧ (∀ c, 51 ≤ c → hc'.1 c = hc.1 c) ∧ (∀ c, c < 51 → hm'.1 c = hm.1 c) ∧ Inv (mg hc' hm') := by
  intro d
  induction d with
  | zero =>
    intro i n f hc hm hI h0 h33 hn hi hf
    obtain ⟨g, rfl⟩ : ∃ g, f = g + 1 := ⟨f - 1, by omega⟩
    refine ⟨hc, hm, ?_, ?_, fun _ _ => rfl, fun _ _ => rfl, hI⟩
    · show f_Owe_seasons_L56 N (nI K) k7 (lp (f_Owe_seasons_L56 N (nI K) k7) g) (nI i, hc) = _
      simp (disch := omega) only [gd_t, bd_some, bn_eq, jn_eq, bi_some, if_pos, if_neg, i10, nI_lt_i, nI_le_i, nI_eq_i, ll_le, ll_lt, ll_eq, lr_le, lr_lt, lr_eq, ix_n, nI_clamp, nI_add, add_l, add_r, nI_mul, mul_l, mul_r, sub_n, sub_r, div_r, ite_some, if_true, if_false, and_self, and_true, true_and, false_and, and_false, Nat.reduceAdd, Nat.reduceMul, not_false_iff, not_true, f_Owe_seasons_L56]
    · show f_Mod_seasons_L49 N (nI K) k6 (lp (f_Mod_seasons_L49 N (nI K) k6) g) (nI i, hm) = _
      simp (disch := omega) only [gd_t, bd_some, bn_eq, jn_eq, bi_some, if_pos, if_neg, i10, nI_lt_i, nI_le_i, nI_eq_i, ll_le, ll_lt, ll_eq, lr_le, lr_lt, lr_eq, ix_n, nI_clamp, nI_add, add_l, add_r, nI_mul, mul_l, mul_r, sub_n, sub_r, div_r, ite_some, if_true, if_false, and_self, and_true, true_and, false_and, and_false, Nat.reduceAdd, Nat.reduceMul, not_false_iff, not_true, f_Mod_seasons_L49]
  | succ d ih =>
    intro i n f hc hm hI h0 h33 hn hi hf
    obtain ⟨g, rfl⟩ : ∃ g, f = g + 1 := ⟨f - 1, by omega⟩
    obtain ⟨hc1, hm1, hc2, hm2, w1, w2, w3, w4, w5, w6, w7, w8, w9⟩ := sea_1 hN hI h0 h33 (by omega)
    obtain ⟨hc', hm', v1, v2, v3, v4, v5⟩ := ih (i + 1) (n + 1) g hc2 hm2 w7 (by rw [w8]; exact h0) w9 (by omega) (by omega) (by omega)
    refine ⟨hc', hm', ?_, ?_, fun c hc => (v3 c hc).trans (w5 c hc), fun c hc => (v4 c hc).trans (w6 c hc), v5⟩
    · show f_Owe_seasons_L56 N (nI K) k7 (lp (f_Owe_seasons_L56 N (nI K) k7) g) (nI i, hc) = _
      simp (disch := omega) only [gd_t, bd_some, bn_eq, jn_eq, bi_some, if_pos, if_neg, i10, nI_lt_i, nI_le_i, nI_eq_i, ll_le, ll_lt, ll_eq, lr_le, lr_lt, lr_eq, ix_n, nI_clamp, nI_add, add_l, add_r, nI_mul, mul_l, mul_r, sub_n, sub_r, div_r, ite_some, if_true, if_false, and_self, and_true, true_and, false_and, and_false, Nat.reduceAdd, Nat.reduceMul, not_false_iff, not_true, f_Owe_seasons_L56, w1, w3, v1]
    · show f_Mod_seasons_L49 N (nI K) k6 (lp (f_Mod_seasons_L49 N (nI K) k6) g) (nI i, hm) = _
      simp (disch := omega) only [gd_t, bd_some, bn_eq, jn_eq, bi_some, if_pos, if_neg, i10, nI_lt_i, nI_le_i, nI_eq_i, ll_le, ll_lt, ll_eq, lr_le, lr_lt, lr_eq, ix_n, nI_clamp, nI_add, add_l, add_r, nI_mul, mul_l, mul_r, sub_n, sub_r, div_r, ite_some, if_true, if_false, and_self, and_true, true_and, false_and, and_false, Nat.reduceAdd, Nat.reduceMul, not_false_iff, not_true, f_Mod_seasons_L49, w2, w4, v2]
theorem nI_1of {x : Int32} (c1 : ¬ x < 1) : ∃ n, n < 2147483648 ∧ 1 ≤ n ∧ x = nI n := by
  obtain ⟨n, hn, rfl⟩ := nI_of (x := x) (fun q => c1 (by
    have a := Int32.lt_iff_toInt_lt.mp q
    apply Int32.lt_iff_toInt_lt.mpr
    have z0 : (0 : Int32).toInt = 0 := rfl
    have z1 : (1 : Int32).toInt = 1 := rfl
    omega))
  exact ⟨n, hn, Decidable.byContradiction (fun q => c1 ((nI_ltI hn (show 1 < 2 ^ 31 by decide)).mpr (by omega))), rfl⟩
theorem op_seasons {N : Nat} (hN : 9000 ≤ N) (a1 : Int32) (hc hm : mu_H) (hI : Inv (mg hc hm)) : ∃ r hc' hm', f_Owe_seasons N hc a1 = some (r, hc') ∧ f_Mod_seasons N hm a1 = some (r, hm') ∧ (∀ c, 51 ≤ c → hc'.1 c = hc.1 c) ∧ (∀ c, c < 51 → hm'.1 c = hm.1 c) ∧ Inv (mg hc' hm') := by
  obtain ⟨s, h9, e3, e5⟩ := par_s hI
  obtain ⟨n, hn, q33, q31, m32⟩ := now_n hI
  have hz := nI_z (show s < 2 ^ 31 by omega)
  have h10 : ¬ (1 : Int32) = 0 := by decide
  have r0 := ref_c (N := N) (k := 0) (h := hc) (by decide)
  have r1 := ref_c (N := N) (k := 1) (h := hc) (by decide)
  have r4 := ref_c (N := N) (k := 4) (h := hc) (by decide)
  have m0 := ref_m (N := N) (k := 0) (h := hm) (by decide)
  have m1 := ref_m (N := N) (k := 1) (h := hm) (by decide)
  have m4 := ref_m (N := N) (k := 4) (h := hm) (by decide)
  rw [show nI 0 = (0 : Int32) from rfl] at r0 m0
  rw [show nI 1 = (1 : Int32) from rfl] at r1 m1
  rw [show nI 4 = (4 : Int32) from rfl] at r4 m4
  have k3 := two_in (N := N) (h := hm) (a := 1) (b := 60) (by decide) (by decide) (by decide) a1
  rw [show nI 1 = (1 : Int32) from rfl, show nI 60 = (60 : Int32) from rfl] at k3
  have z31 : (31 : Int32).toNatClampNeg = 31 := rfl
  have i31 : ix 31 34 = true := rfl
  have z32 : (32 : Int32).toNatClampNeg = 32 := rfl
  have i32 : ix 32 214 = true := rfl
  by_cases hs : s = 0
  · refine ⟨-1, _, _, ?_, ?_, ref_I hI (show 0 < 5 by decide)⟩
    · simp only [f_Owe_seasons, f_Par_isNone, e3, hz.mpr hs, if_true, bd_some, if_neg h10, r0, bi_some]
    · simp only [f_Mod_seasons, e5, hz.mpr hs, if_true, jn_eq, m0, bi_some, if_neg h10]
  have h0 : ¬ nI s = 0 := fun q => hs (hz.mp q)
  simp only [f_Owe_seasons, f_Par_isNone, e3, h0, if_false, bd_some, if_true, jn_eq, f_Mod_seasons, e5, k3, f_Mod_areSeasons, f_Sta_season, i31, z31, gd_t, q31, i32, z32, m32]
  by_cases c1 : a1 < 1
  · refine ⟨-1, _, _, ?_, ?_, ref_I hI (show 1 < 5 by decide)⟩
    · simp only [if_pos c1, r1, bi_some]
    · simp only [if_pos c1, if_true, m1, bi_some, if_neg h10]
  by_cases c2 : a1 ≤ 60
  · obtain ⟨K, hK, hK1, rfl⟩ := nI_1of c1
    have hK60 : K ≤ 60 := (nI_leI hK (show 60 < 2 ^ 31 by decide)).mp c2
    have c2' : ¬ (60 : Int32) < nI K := nlt_le.mpr c2
    by_cases c3 : n + K ≤ 3999
    · obtain ⟨hc', hm', v1, v2, v3, v4, v5⟩ := sea_l hN hK60 (fun h8 => some (h8.1 15 31, h8)) (fun h7 => some (h7.1 68 32, h7)) K 0 n N hc hm hI (by rw [e3]; exact h0) q33 c3 (by omega) (by omega)
      obtain ⟨n', -, -, y1, y2⟩ := now_n v5
      refine ⟨nI n', hc', hm', ?_, ?_, v3, v4, v5⟩
      · simp only [if_neg c1, if_pos c2]
        rw [show nI 0 = (0 : Int32) from rfl] at v1
        simp (disch := omega) only [gd_t, bd_some, bn_eq, jn_eq, bi_some, if_pos, if_neg, i10, nI_lt_i, nI_le_i, nI_eq_i, ll_le, ll_lt, ll_eq, lr_le, lr_lt, lr_eq, ix_n, nI_clamp, nI_add, add_l, add_r, nI_mul, mul_l, mul_r, sub_n, sub_r, div_r, ite_some, if_true, if_false, and_self, and_true, true_and, false_and, and_false, Nat.reduceAdd, Nat.reduceMul, not_false_iff, not_true, v1, y1]
      · simp only [if_neg c1, if_neg c2', if_neg h10]
        rw [show nI 0 = (0 : Int32) from rfl] at v2
        simp (disch := omega) only [gd_t, bd_some, bn_eq, jn_eq, bi_some, if_pos, if_neg, i10, nI_lt_i, nI_le_i, nI_eq_i, ll_le, ll_lt, ll_eq, lr_le, lr_lt, lr_eq, ix_n, nI_clamp, nI_add, add_l, add_r, nI_mul, mul_l, mul_r, sub_n, sub_r, div_r, ite_some, if_true, if_false, and_self, and_true, true_and, false_and, and_false, Nat.reduceAdd, Nat.reduceMul, not_false_iff, not_true, ref_n, h10, v2, y2]
    · refine ⟨-1, _, _, ?_, ?_, ref_I hI (show 4 < 5 by decide)⟩
      · simp only [if_neg c1, if_pos c2]
        simp (disch := omega) only [gd_t, bd_some, bn_eq, jn_eq, bi_some, if_pos, if_neg, i10, nI_lt_i, nI_le_i, nI_eq_i, ll_le, ll_lt, ll_eq, lr_le, lr_lt, lr_eq, ix_n, nI_clamp, nI_add, add_l, add_r, nI_mul, mul_l, mul_r, sub_n, sub_r, div_r, ite_some, if_true, if_false, and_self, and_true, true_and, false_and, and_false, Nat.reduceAdd, Nat.reduceMul, not_false_iff, not_true, r4]
      · simp only [if_neg c1, if_neg c2', if_neg h10]
        simp (disch := omega) only [gd_t, bd_some, bn_eq, jn_eq, bi_some, if_pos, if_neg, i10, nI_lt_i, nI_le_i, nI_eq_i, ll_le, ll_lt, ll_eq, lr_le, lr_lt, lr_eq, ix_n, nI_clamp, nI_add, add_l, add_r, nI_mul, mul_l, mul_r, sub_n, sub_r, div_r, ite_some, if_true, if_false, and_self, and_true, true_and, false_and, and_false, Nat.reduceAdd, Nat.reduceMul, not_false_iff, not_true, m4, h10]
  · have c2' : (60 : Int32) < a1 := nle_lt.mp c2
    refine ⟨-1, _, _, ?_, ?_, ref_I hI (show 1 < 5 by decide)⟩
    · simp only [if_neg c1, if_neg c2, r1, bi_some]
    · simp only [if_neg c1, if_pos c2', if_true, m1, bi_some, if_neg h10]
