/-! image, back, undo, keep -/
theorem bN_eq {x y : Int32} {n : Nat} (e : x = y) (h : bN y n) : bN x n := e ▸ h
theorem Ist_ext {s u : Nat} {R R' L L' M M' : Nat → Int32} (hR : ∀ k, k < 34 → R' k = R k) (hL : ∀ k, k < 300 → L' k = L k) (hM : ∀ k, k < 214 → M' k = M k) (h : Ist s u R L M) : Ist s u R' L' M' := by
  obtain ⟨q1, q2, q3, ⟨n, hn, q4, q5, q6, q7⟩, q8, q9⟩ := h
  refine ⟨fun k hk => ?_, ?_, ?_, ⟨n, hn, ?_, ?_, ?_, fun i hi w hw => ?_⟩, fun r hr => ?_, fun a ha => ?_⟩
  · rw [hR k (by omega), hM k (by omega)]; exact q1 k hk
  · rw [hR 32 (by omega), hM 31 (by omega)]; exact q2
  · rw [hR 31 (by omega), hM 32 (by omega)]; exact q3
  · rw [hR 31 (by omega)]; exact q4
  · rw [hR 33 (by omega)]; exact q5
  · rw [hM 33 (by omega)]; exact q6
  · rw [hM _ (by omega), hL _ (by omega)]; exact q7 i hi w hw
  · obtain ⟨a, b, c⟩ := q8 r hr
    exact ⟨bN_eq (hR r (by omega)) a, bN_eq (hR (9 + r) (by omega)) b, fun q => (hR r (by omega)).trans (c q)⟩
  · obtain ⟨b, c, d⟩ := q9 a ha
    exact ⟨bN_eq (hR (18 + a) (by omega)) b, bN_eq (hR (24 + a) (by omega)) c, fun q => ⟨(hR (18 + a) (by omega)).trans (d q).1, (hR (24 + a) (by omega)).trans (d q).2⟩⟩
def cpn (f g : Nat → Int32) (n : Nat) : Nat → Int32 := fun k => if k < n then f k else g k
theorem cpn_0 {f g : Nat → Int32} : cpn f g 0 = g := by
  funext k
  simp [cpn]
theorem cpn_s {f g : Nat → Int32} {n : Nat} : upd (cpn f g n) n (f n) = cpn f g (n + 1) := by
  funext k
  simp only [upd, cpn]
  by_cases c : k = n
  · rw [if_pos c, if_pos (by omega), c]
  · rw [if_neg c]
    by_cases d : k < n
    · rw [if_pos d, if_pos (by omega)]
    · rw [if_neg d, if_neg (by omega)]
theorem cpn_lt {f g : Nat → Int32} {n k : Nat} (h : k < n) : cpn f g n k = f k := if_pos h
theorem img_l {N : Nat} {h : mu_H} {k : mu_H → Option (Int32 × mu_H)} (hN : 300 ≤ N) : lp (f_Mod_image_L11 k) N (0, h) = k (ur h 78 (cpn (h.1 68) (h.1 78) 214)) := by
  have key := lp_end (body := f_Mod_image_L11 k) (fun i => (nI i, ur h 78 (cpn (h.1 68) (h.1 78) i))) 214 (v := k (ur h 78 (cpn (h.1 68) (h.1 78) 214))) ?_ ?_ (f := N) (by omega)
  · simp only [cpn_0, ur_self] at key
    exact key
  · intro i hi rec
    simp (disch := omega) only [gd_t, bd_some, bn_eq, jn_eq, bi_some, if_pos, if_neg, i10, nI_lt_i, nI_le_i, nI_eq_i, ll_le, ll_lt, ll_eq, lr_le, lr_lt, lr_eq, ix_n, nI_clamp, nI_add, add_l, add_r, nI_mul, mul_l, mul_r, sub_n, sub_r, div_r, ite_some, if_true, if_false, and_self, and_true, true_and, false_and, and_false, Nat.reduceAdd, Nat.reduceMul, not_false_iff, not_true, f_Mod_image_L11, ui_ur, ur_g, cpn_s]
  · intro rec
    simp (disch := omega) only [gd_t, bd_some, bn_eq, jn_eq, bi_some, if_pos, if_neg, i10, nI_lt_i, nI_le_i, nI_eq_i, ll_le, ll_lt, ll_eq, lr_le, lr_lt, lr_eq, ix_n, nI_clamp, nI_add, add_l, add_r, nI_mul, mul_l, mul_r, sub_n, sub_r, div_r, ite_some, if_true, if_false, and_self, and_true, true_and, false_and, and_false, Nat.reduceAdd, Nat.reduceMul, not_false_iff, not_true, f_Mod_image_L11]
theorem bck_l {N : Nat} {h : mu_H} {k : mu_H → Option (Int32 × mu_H)} (hN : 300 ≤ N) : lp (f_Mod_back_L11 k) N (0, h) = k (ur h 68 (cpn (h.1 78) (h.1 68) 214)) := by
  have key := lp_end (body := f_Mod_back_L11 k) (fun i => (nI i, ur h 68 (cpn (h.1 78) (h.1 68) i))) 214 (v := k (ur h 68 (cpn (h.1 78) (h.1 68) 214))) ?_ ?_ (f := N) (by omega)
  · simp only [cpn_0, ur_self] at key
    exact key
  · intro i hi rec
    simp (disch := omega) only [gd_t, bd_some, bn_eq, jn_eq, bi_some, if_pos, if_neg, i10, nI_lt_i, nI_le_i, nI_eq_i, ll_le, ll_lt, ll_eq, lr_le, lr_lt, lr_eq, ix_n, nI_clamp, nI_add, add_l, add_r, nI_mul, mul_l, mul_r, sub_n, sub_r, div_r, ite_some, if_true, if_false, and_self, and_true, true_and, false_and, and_false, Nat.reduceAdd, Nat.reduceMul, not_false_iff, not_true, f_Mod_back_L11, ui_ur, ur_g, cpn_s]
  · intro rec
    simp (disch := omega) only [gd_t, bd_some, bn_eq, jn_eq, bi_some, if_pos, if_neg, i10, nI_lt_i, nI_le_i, nI_eq_i, ll_le, ll_lt, ll_eq, lr_le, lr_lt, lr_eq, ix_n, nI_clamp, nI_add, add_l, add_r, nI_mul, mul_l, mul_r, sub_n, sub_r, div_r, ite_some, if_true, if_false, and_self, and_true, true_and, false_and, and_false, Nat.reduceAdd, Nat.reduceMul, not_false_iff, not_true, f_Mod_back_L11]
theorem take_c {N : Nat} {h : mu_H} {o p : Nat} : f_Sta_takeAll N h o p = some (ur (ur h (o + 1) (cpn (h.1 (p + 1)) (h.1 (o + 1)) 34)) (o + 2) (cpn ((ur h (o + 1) (cpn (h.1 (p + 1)) (h.1 (o + 1)) 34)).1 (p + 2)) ((ur h (o + 1) (cpn (h.1 (p + 1)) (h.1 (o + 1)) 34)).1 (o + 2)) 300)) := by
  have e : ∀ (f g : Nat → Int32) (n : Nat), va_cpy f g 0 0 n = cpn f g n := by
    intro f g n
    funext k
    simp [va_cpy, cpn]
  have c1 : cpk 0 0 34 34 34 = true := by decide
  have c2 : cpk 0 0 300 300 300 = true := by decide
  have z0 : (0 : Int32).toNatClampNeg = 0 := rfl
  have z1 : (34 : Int32).toNatClampNeg = 34 := rfl
  have z2 : (300 : Int32).toNatClampNeg = 300 := rfl
  simp only [f_Sta_takeAll, c1, c2, gd_t, bn_eq, z0, z1, z2, e]
theorem op_image {N : Nat} (hN : 300 ≤ N) (hc hm : mu_H) (hI : Inv (mg hc hm)) : ∃ r hc' hm', f_Owe_image N hc = some (r, hc') ∧ f_Mod_image N hm = some (r, hm') ∧ (∀ c, 51 ≤ c → hc'.1 c = hc.1 c) ∧ (∀ c, c < 51 → hm'.1 c = hm.1 c) ∧ Inv (mg hc' hm') := by
  have hI0 := hI
  obtain ⟨s, u, hp, ⟨nse, hsee⟩, hnow, himg, hpas, htap, hlaw, href⟩ := hI
  have h9 := hp.1
  have e3 : hc.1 3 2 = nI s := hp.2.2.2.1
  have e5 : hm.1 51 25 = nI s := hp.2.2.2.2.2.1
  have hz := nI_z (show s < 2 ^ 31 by omega)
  have i31 : ix 31 34 = true := rfl
  have i32 : ix 32 214 = true := rfl
  have z31 : (31 : Int32).toNatClampNeg = 31 := rfl
  have z32 : (32 : Int32).toNatClampNeg = 32 := rfl
  simp only [f_Owe_image, f_Mod_image, f_Par_isNone, e3, e5, hz, take_c, img_l hN]
  by_cases c : s = 0
  · exact ⟨-1, hc, hm, by simp [c], by simp [c], fun _ _ => rfl, fun _ _ => rfl, hI0⟩
  have hnow1 : Ist s u (hc.1 15) (hc.1 16) (hm.1 68) := hnow
  refine ⟨hc.1 15 31, ui (ur (ur hc 18 (cpn (hc.1 15) (hc.1 18) 34)) 19 (cpn (hc.1 16) (hc.1 19) 300)) 0 6 1, ui (ur hm 78 (cpn (hm.1 68) (hm.1 78) 214)) 51 45 1, ?_, ?_, ?_⟩
  · simp (disch := omega) only [gd_t, bd_some, bn_eq, jn_eq, bi_some, if_pos, if_neg, i10, nI_lt_i, nI_le_i, nI_eq_i, ll_le, ll_lt, ll_eq, lr_le, lr_lt, lr_eq, ix_n, nI_clamp, nI_add, add_l, add_r, nI_mul, mul_l, mul_r, sub_n, sub_r, div_r, ite_some, if_true, if_false, and_self, and_true, true_and, false_and, and_false, Nat.reduceAdd, Nat.reduceMul, not_false_iff, not_true, f_Sta_season, ur_g, ui_g, z31, i31, c, not_false_iff]
  · simp (disch := omega) only [gd_t, bd_some, bn_eq, jn_eq, bi_some, if_pos, if_neg, i10, nI_lt_i, nI_le_i, nI_eq_i, ll_le, ll_lt, ll_eq, lr_le, lr_lt, lr_eq, ix_n, nI_clamp, nI_add, add_l, add_r, nI_mul, mul_l, mul_r, sub_n, sub_r, div_r, ite_some, if_true, if_false, and_self, and_true, true_and, false_and, and_false, Nat.reduceAdd, Nat.reduceMul, not_false_iff, not_true, ur_g, ui_g, z32, i32, c, jn_eq, hnow1.2.2.1]
  have f1 : sc [0, 18, 19] hc (ui (ur (ur hc 18 (cpn (hc.1 15) (hc.1 18) 34)) 19 (cpn (hc.1 16) (hc.1 19) 300)) 0 6 1) := sc_trans (sc_trans (sc_ur (by decide)) (sc_ur (by decide))) (sc_ui (by decide))
  have f2 : sM [78] [45] hm (ui (ur hm 78 (cpn (hm.1 68) (hm.1 78) 214)) 51 45 1) := sM_trans (sM_ur (by decide) (by decide)) (sM_u5 (by decide))
  have e := mg_same f1 f2
  refine ⟨(hi_of f1 (by decide)), (lo_of f2 (by decide)), s, u, (Ipar_fr e (by decide) (by decide) hp), ⟨_, Isee_fr e (by decide) (by decide) hsee⟩, (Inow_fr e (by decide) hnow), ⟨?_, Or.inr ⟨?_, ?_⟩⟩, (Ipas_fr e (by decide) (by decide) hpas), (Itap_fr e (by decide) (by decide) htap), (Ilaw_fr e (by decide) (by decide) hlaw), (Iref_fr e (by decide) href)⟩
  · simp [mg_c, mg_m, ui_g]
  · simp [mg_c, ui_g]
  · refine Ist_ext (fun k hk => ?_) (fun k hk => ?_) (fun k hk => ?_) hnow1
    · rw [mg_c (by decide), ui_n (by decide), ur_n (by decide), ur_1, cpn_lt hk]
    · rw [mg_c (by decide), ui_n (by decide), ur_1, cpn_lt hk]
    · rw [mg_m (by decide), ui_n (by decide), ur_1, cpn_lt hk]
theorem op_back {N : Nat} (hN : 300 ≤ N) (hc hm : mu_H) (hI : Inv (mg hc hm)) : ∃ r hc' hm', f_Owe_back N hc = some (r, hc') ∧ f_Mod_back N hm = some (r, hm') ∧ (∀ c, 51 ≤ c → hc'.1 c = hc.1 c) ∧ (∀ c, c < 51 → hm'.1 c = hm.1 c) ∧ Inv (mg hc' hm') := by
  have hI0 := hI
  obtain ⟨s, u, hp, ⟨nse, hsee⟩, hnow, himg, hpas, htap, hlaw, href⟩ := hI
  obtain ⟨g1, g2⟩ := himg
  have g1 : hc.1 0 6 = hm.1 51 45 := g1
  have i31 : ix 31 34 = true := rfl
  have i32 : ix 32 214 = true := rfl
  have z31 : (31 : Int32).toNatClampNeg = 31 := rfl
  have z32 : (32 : Int32).toNatClampNeg = 32 := rfl
  have h10 : ¬ (1 : Int32) = 0 := by decide
  simp only [f_Owe_back, f_Mod_back, ← g1, take_c, bck_l hN]
  rcases g2 with g2 | ⟨g2, g3⟩
  · have g2 : hc.1 0 6 = 0 := g2
    exact ⟨-1, hc, hm, by simp only [g2, if_true], by simp only [g2, if_true], fun _ _ => rfl, fun _ _ => rfl, hI0⟩
  have g2 : hc.1 0 6 = 1 := g2
  have g3 : Ist s u (hc.1 18) (hc.1 19) (hm.1 78) := g3
  obtain ⟨n, hn, q4, q5, -, -⟩ := g3.2.2.2.1
  refine ⟨hc.1 18 31, ui (ur (ur hc 15 (cpn (hc.1 18) (hc.1 15) 34)) 16 (cpn (hc.1 19) (hc.1 16) 300)) 20 1 0, ui (ur hm 68 (cpn (hm.1 78) (hm.1 68) 214)) 51 32 0, ?_, ?_, ?_⟩
  · simp (disch := omega) only [gd_t, bd_some, bn_eq, jn_eq, bi_some, if_pos, if_neg, i10, nI_lt_i, nI_le_i, nI_eq_i, ll_le, ll_lt, ll_eq, lr_le, lr_lt, lr_eq, ix_n, nI_clamp, nI_add, add_l, add_r, nI_mul, mul_l, mul_r, sub_n, sub_r, div_r, ite_some, if_true, if_false, and_self, and_true, true_and, false_and, and_false, Nat.reduceAdd, Nat.reduceMul, not_false_iff, not_true, g2, h10, f_Sta_season, f_Pas_forget, ur_g, ui_g, z31, i31, cpn_lt]
  · simp (disch := omega) only [gd_t, bd_some, bn_eq, jn_eq, bi_some, if_pos, if_neg, i10, nI_lt_i, nI_le_i, nI_eq_i, ll_le, ll_lt, ll_eq, lr_le, lr_lt, lr_eq, ix_n, nI_clamp, nI_add, add_l, add_r, nI_mul, mul_l, mul_r, sub_n, sub_r, div_r, ite_some, if_true, if_false, and_self, and_true, true_and, false_and, and_false, Nat.reduceAdd, Nat.reduceMul, not_false_iff, not_true, g2, h10, ur_g, ui_g, z32, i32, jn_eq, cpn_lt, g3.2.2.1]
  have f1 : sc [15, 16, 20] hc (ui (ur (ur hc 15 (cpn (hc.1 18) (hc.1 15) 34)) 16 (cpn (hc.1 19) (hc.1 16) 300)) 20 1 0) := sc_trans (sc_trans (sc_ur (by decide)) (sc_ur (by decide))) (sc_ui (by decide))
  have f2 : sM [68] [32] hm (ui (ur hm 68 (cpn (hm.1 78) (hm.1 68) 214)) 51 32 0) := sM_trans (sM_ur (by decide) (by decide)) (sM_u5 (by decide))
  have e := mg_same f1 f2
  have himg1 : Iimg (mg hc hm) s u := ⟨g1, Or.inr ⟨g2, g3⟩⟩
  obtain ⟨p, qq, v, -, hq, -, -, p5, -, -, -⟩ := hpas
  have p5 : hc.1 20 2 = nI qq := p5
  refine ⟨(hi_of f1 (by decide)), (lo_of f2 (by decide)), s, u, (Ipar_fr e (by decide) (by decide) hp), ⟨_, Isee_fr e (by decide) (by decide) hsee⟩, ?_, Iimg_fr e (by decide) (by decide) himg1, ⟨0, qq, fun _ => n, by decide, hq, ?_, ?_, ?_, ?_, hn, fun e he => by omega⟩, (Itap_fr e (by decide) (by decide) htap), (Ilaw_fr e (by decide) (by decide) hlaw), (Iref_fr e (by decide) href)⟩
  · refine Ist_ext (fun k hk => ?_) (fun k hk => ?_) (fun k hk => ?_) g3
    · rw [mg_c (by decide), ui_n (by decide), ur_n (by decide), ur_1, cpn_lt hk]
    · rw [mg_c (by decide), ui_n (by decide), ur_1, cpn_lt hk]
    · rw [mg_m (by decide), ui_n (by decide), ur_1, cpn_lt hk]
  · simp only [mg_c (show 20 < 51 by decide), ui_g, and_self, if_true]; rfl
  · simp only [mg_m (show ¬ 51 < 51 by decide), ui_g, and_self, if_true]; rfl
  · simp [mg_c, ui_g, ur_g, p5]
  · rw [mg_c (by decide), ui_n (by decide), ur_n (by decide), ur_1, cpn_lt (by decide)]
    exact q5
/-- undo -/
theorem und_l {N p : Nat} {h : mu_H} {k : mu_H → Option (Int32 × mu_H)} (hN : 300 ≤ N) (hp : p < 40) (e : h.1 51 32 = nI p) : lp (f_Mod_undo_L21 k) N (0, h) = k (ur h 68 (cpn (fun i => h.1 71 (214 * p + i)) (h.1 68) 214)) := by
  have key := lp_end (body := f_Mod_undo_L21 k) (fun i => (nI i, ur h 68 (cpn (fun i => h.1 71 (214 * p + i)) (h.1 68) i))) 214 (v := k (ur h 68 (cpn (fun i => h.1 71 (214 * p + i)) (h.1 68) 214))) ?_ ?_ (f := N) (by omega)
  · simp only [cpn_0, ur_self] at key
    exact key
  · intro i hi rec
    have := cpn_s (f := fun i => h.1 71 (214 * p + i)) (g := h.1 68) (n := i)
    simp (disch := omega) only [gd_t, bd_some, bn_eq, jn_eq, bi_some, if_pos, if_neg, i10, nI_lt_i, nI_le_i, nI_eq_i, ll_le, ll_lt, ll_eq, lr_le, lr_lt, lr_eq, ix_n, nI_clamp, nI_add, add_l, add_r, nI_mul, mul_l, mul_r, sub_n, sub_r, div_r, ite_some, if_true, if_false, and_self, and_true, true_and, false_and, and_false, Nat.reduceAdd, Nat.reduceMul, not_false_iff, not_true, f_Mod_undo_L21, ui_ur, ur_g, e]
    rw [← this]
  · intro rec
    simp (disch := omega) only [gd_t, bd_some, bn_eq, jn_eq, bi_some, if_pos, if_neg, i10, nI_lt_i, nI_le_i, nI_eq_i, ll_le, ll_lt, ll_eq, lr_le, lr_lt, lr_eq, ix_n, nI_clamp, nI_add, add_l, add_r, nI_mul, mul_l, mul_r, sub_n, sub_r, div_r, ite_some, if_true, if_false, and_self, and_true, true_and, false_and, and_false, Nat.reduceAdd, Nat.reduceMul, not_false_iff, not_true, f_Mod_undo_L21]
theorem rd_c {N q : Nat} {h : mu_H} (hq : q < 40) : f_Sta_readFrom N h 14 (nI (q * 34)) = some (ur h 15 (cpn (fun i => h.1 21 (34 * q + i)) (h.1 15) 34)) := by
  have e : va_cpy (h.1 21) (h.1 15) (q * 34) 0 34 = cpn (fun i => h.1 21 (34 * q + i)) (h.1 15) 34 := by
    funext k
    simp [va_cpy, cpn, Nat.mul_comm]
  have z0 : (0 : Int32).toNatClampNeg = 0 := rfl
  have z1 : (34 : Int32).toNatClampNeg = 34 := rfl
  have c1 : cpk (nI (q * 34)) 0 34 1360 34 = true := by
    simp only [cpk, Bool.and_eq_true, decide_eq_true_eq, z0, z1, nI_clamp (show q * 34 < 2147483648 by omega)]
    exact ⟨⟨⟨⟨nI_pos (by omega), by decide⟩, by decide⟩, by omega⟩, by decide⟩
  simp (disch := omega) only [gd_t, bd_some, bn_eq, jn_eq, bi_some, if_pos, if_neg, i10, nI_lt_i, nI_le_i, nI_eq_i, ll_le, ll_lt, ll_eq, lr_le, lr_lt, lr_eq, ix_n, nI_clamp, nI_add, add_l, add_r, nI_mul, mul_l, mul_r, sub_n, sub_r, div_r, ite_some, if_true, if_false, and_self, and_true, true_and, false_and, and_false, Nat.reduceAdd, Nat.reduceMul, not_false_iff, not_true, f_Sta_readFrom, c1, z0, z1, e]
theorem op_undo {N : Nat} (hN : 300 ≤ N) (hc hm : mu_H) (hI : Inv (mg hc hm)) : ∃ r hc' hm', f_Owe_undo N hc = some (r, hc') ∧ f_Mod_undo N hm = some (r, hm') ∧ (∀ c, 51 ≤ c → hc'.1 c = hc.1 c) ∧ (∀ c, c < 51 → hm'.1 c = hm.1 c) ∧ Inv (mg hc' hm') := by
  have hI0 := hI
  obtain ⟨s, u, hp, ⟨nse, hsee⟩, hnow, himg, hpas, htap, hlaw, href⟩ := hI
  obtain ⟨p, q, v, hp40, hq, p1, p2, p3, p4, pv, p5⟩ := hpas
  have p1 : hc.1 20 1 = nI p := p1
  have p2 : hm.1 51 32 = nI p := p2
  have p3 : hc.1 20 2 = nI q := p3
  have h10 : ¬ (1 : Int32) = 0 := by decide
  simp only [f_Owe_undo, f_Pas_bringBack, f_Mod_undo, p1, p2]
  by_cases c : p = 0
  · refine ⟨-1, hc, hm, ?_, ?_, fun _ _ => rfl, fun _ _ => rfl, hI0⟩
    · simp [c, show nI 0 = (0 : Int32) from rfl, bi_some]
    · simp [c, show nI 0 = (0 : Int32) from rfl]
  have p5 : Ipst s u p q v (hc.1 21) (hc.1 16) (hm.1 71) := p5
  obtain ⟨q0, hq0⟩ : ∃ q0, q0 = (q + 39) % 40 := ⟨_, rfl⟩
  obtain ⟨u1, u2, u3, u4⟩ := p5 0 (by omega)
  rw [show (q + 39 - 0) % 40 = q0 by omega] at u3 u4
  rw [show p - 1 - 0 = p - 1 by omega] at u4
  have hs1 : nI p - 1 = nI (p - 1) := sub_r (m := 1) (show 1 ≤ p by omega) (by omega)
  have hs2 : q + 40 - 1 - (q + 40 - 1) / 40 * 40 = q0 := by omega
  refine ⟨nI (p - 1), ur (ui (ui hc 20 1 (nI (p - 1))) 20 2 (nI q0)) 15 (cpn (fun i => hc.1 21 (34 * q0 + i)) (hc.1 15) 34), ur (ui hm 51 32 (nI (p - 1))) 68 (cpn (fun i => hm.1 71 (214 * (p - 1) + i)) (hm.1 68) 214), ?_, ?_, ?_⟩
  · have hr := rd_c (N := N) (q := q0) (h := ui (ui hc 20 1 (nI (p - 1))) 20 2 (nI q0)) (by omega)
    have g1 : (ui (ui hc 20 1 (nI (p - 1))) 20 2 (nI q0)).1 20 2 = nI q0 := by simp [ui_g]
    have g2 : (ui hc 20 1 (nI (p - 1))).1 20 2 = nI q := by simp [ui_g, p3]
    have g3 : (ui (ui hc 20 1 (nI (p - 1))) 20 2 (nI q0)).1 21 = hc.1 21 := by rw [ui_n (by decide), ui_n (by decide)]
    have g4 : (ui (ui hc 20 1 (nI (p - 1))) 20 2 (nI q0)).1 15 = hc.1 15 := by rw [ui_n (by decide), ui_n (by decide)]
    rw [g3, g4] at hr
    simp (disch := omega) only [gd_t, bd_some, bn_eq, jn_eq, bi_some, if_pos, if_neg, i10, nI_lt_i, nI_le_i, nI_eq_i, ll_le, ll_lt, ll_eq, lr_le, lr_lt, lr_eq, ix_n, nI_clamp, nI_add, add_l, add_r, nI_mul, mul_l, mul_r, sub_n, sub_r, div_r, ite_some, if_true, if_false, and_self, and_true, true_and, false_and, and_false, Nat.reduceAdd, Nat.reduceMul, not_false_iff, not_true, hs1, g2, hs2, g1, hr, h10, f_Pas_size, ur_g, ui_g]
  · have hl := und_l (N := N) (p := p - 1) (h := ui hm 51 32 (nI (p - 1))) (k := fun h3 => some (h3.1 51 32, h3)) hN (by omega) (by simp [ui_g])
    rw [ui_n (show (71 : Nat) ≠ 51 by decide), ui_n (show (68 : Nat) ≠ 51 by decide)] at hl
    simp (disch := omega) only [gd_t, bd_some, bn_eq, jn_eq, bi_some, if_pos, if_neg, i10, nI_lt_i, nI_le_i, nI_eq_i, ll_le, ll_lt, ll_eq, lr_le, lr_lt, lr_eq, ix_n, nI_clamp, nI_add, add_l, add_r, nI_mul, mul_l, mul_r, sub_n, sub_r, div_r, ite_some, if_true, if_false, and_self, and_true, true_and, false_and, and_false, Nat.reduceAdd, Nat.reduceMul, not_false_iff, not_true, hs1, hl, ur_g, ui_g]
  have f1 : sc [15, 20] hc (ur (ui (ui hc 20 1 (nI (p - 1))) 20 2 (nI q0)) 15 (cpn (fun i => hc.1 21 (34 * q0 + i)) (hc.1 15) 34)) := sc_trans (sc_trans (sc_ui (by decide)) (sc_ui (by decide))) (sc_ur (by decide))
  have f2 : sM [68] [32] hm (ur (ui hm 51 32 (nI (p - 1))) 68 (cpn (fun i => hm.1 71 (214 * (p - 1) + i)) (hm.1 68) 214)) := sM_trans (sM_u5 (by decide)) (sM_ur (by decide) (by decide))
  have e := mg_same f1 f2
  refine ⟨(hi_of f1 (by decide)), (lo_of f2 (by decide)), s, u, (Ipar_fr e (by decide) (by decide) hp), ⟨_, Isee_fr e (by decide) (by decide) hsee⟩, ?_, (Iimg_fr e (by decide) (by decide) himg), ⟨p - 1, q0, fun e => v (e + 1), by omega, by omega, ?_, ?_, ?_, ?_, Nat.le_trans u1 pv, ?_⟩, (Itap_fr e (by decide) (by decide) htap), (Ilaw_fr e (by decide) (by decide) hlaw), (Iref_fr e (by decide) href)⟩
  · refine Ist_ext (fun k hk => ?_) (fun k hk => ?_) (fun k hk => ?_) u4
    · rw [mg_c (by decide), ur_1, cpn_lt hk]
    · rw [mg_c (by decide), ur_n (by decide), ui_n (by decide), ui_n (by decide)]
    · rw [mg_m (by decide), ur_1, cpn_lt hk]
  · simp [mg_c, ui_g, ur_g]
  · simp [mg_m, ui_g, ur_g]
  · simp [mg_c, ui_g, ur_g]
  · rw [mg_c (by decide), ur_1, cpn_lt (by decide)]; exact u3
  · rw [e.1 21 (by decide) (by decide), e.1 16 (by decide) (by decide), e.1 71 (by decide) (by decide)]
    intro i hi
    obtain ⟨w1, w2, w3, w4⟩ := p5 (i + 1) (by omega)
    rw [show (q + 39 - (i + 1)) % 40 = (q0 + 39 - i) % 40 by omega] at w3 w4
    rw [show p - 1 - (i + 1) = p - 1 - 1 - i by omega] at w4
    exact ⟨w1, w2, w3, w4⟩
