/-! ditch -/
theorem dr_c {N s : Nat} {hc : mu_H} (hN : 300 ≤ N) (h9 : s ≤ 9) (e3 : hc.1 3 2 = nI s) {r : Nat} (hr : r < s) (R0 : Nat → Int32) : lp (f_Lab_drain_L39 N (nI r) (pB hc r)) N (0, ur hc 15 R0) = some (ur hc 15 (fold (drc hc r) R0 s)) := by
  have key := lp_end (body := f_Lab_drain_L39 N (nI r) (pB hc r)) (fun i => (nI i, ur hc 15 (fold (drc hc r) R0 i))) s (v := some (ur hc 15 (fold (drc hc r) R0 s))) ?_ ?_ (f := N) (by omega)
  · exact key
  · intro i hi rec
    simp only [fold]
    generalize fold (drc hc r) R0 i = R
    have ht : tch (ur hc 15 R) i (pB hc r) = tch hc i (pB hc r) := rfl
    simp (disch := omega) only [gd_t, bd_some, bn_eq, jn_eq, bi_some, if_pos, if_neg, i10, nI_lt_i, nI_le_i, nI_eq_i, ll_le, ll_lt, ll_eq, lr_le, lr_lt, lr_eq, ix_n, nI_clamp, nI_add, add_l, add_r, nI_mul, mul_l, mul_r, sub_n, sub_r, div_r, ite_some, if_true, if_false, and_self, and_true, true_and, false_and, and_false, Nat.reduceAdd, Nat.reduceMul, not_false_iff, not_true, f_Lab_drain_L39, f_Par_stretches, ur_g, e3, tch_c (show i < 9 by omega), ht, f_Sta_wet, f_Sta_setWet, ui_ur, drc]
    by_cases c1 : i = r
    · simp only [if_pos c1]
    · simp only [if_neg c1]
      by_cases c2 : tch hc i (pB hc r) = true
      · by_cases c3 : 9 ≤ R (9 + i) <;> simp [c2, c3]
      · simp [c2]
  · intro rec
    simp (disch := omega) only [gd_t, bd_some, bn_eq, jn_eq, bi_some, if_pos, if_neg, i10, nI_lt_i, nI_le_i, nI_eq_i, ll_le, ll_lt, ll_eq, lr_le, lr_lt, lr_eq, ix_n, nI_clamp, nI_add, add_l, add_r, nI_mul, mul_l, mul_r, sub_n, sub_r, div_r, ite_some, if_true, if_false, and_self, and_true, true_and, false_and, and_false, Nat.reduceAdd, Nat.reduceMul, not_false_iff, not_true, f_Lab_drain_L39, f_Par_stretches, ur_g, e3]
theorem dr_m {N s u : Nat} {hc hm : mu_H} (hN : 300 ≤ N) (hp : Ipar (mg hc hm) s u) {r : Nat} (hr : r < s) (M0 : Nat → Int32) (k : mu_H → Option (Int32 × mu_H)) : lp (f_Mod_ditch_L79 N (nI r) k) N (0, ur hm 68 M0) = k (ur hm 68 (fold (drm hc r) M0 s)) := by
  have h9 := hp.1
  have e5 : hm.1 51 25 = nI s := hp.2.2.2.2.2.1
  have key := lp_end (body := f_Mod_ditch_L79 N (nI r) k) (fun i => (nI i, ur hm 68 (fold (drm hc r) M0 i))) s (v := k (ur hm 68 (fold (drm hc r) M0 s))) ?_ ?_ (f := N) (by omega)
  · exact key
  · intro i hi rec
    simp only [fold]
    generalize fold (drm hc r) M0 i = M
    have hp1 := P_ur hp (hc.1 15) M
    rw [ur_self] at hp1
    simp (disch := omega) only [gd_t, bd_some, bn_eq, jn_eq, bi_some, if_pos, if_neg, i10, nI_lt_i, nI_le_i, nI_eq_i, ll_le, ll_lt, ll_eq, lr_le, lr_lt, lr_eq, ix_n, nI_clamp, nI_add, add_l, add_r, nI_mul, mul_l, mul_r, sub_n, sub_r, div_r, ite_some, if_true, if_false, and_self, and_true, true_and, false_and, and_false, Nat.reduceAdd, Nat.reduceMul, not_false_iff, not_true, f_Mod_ditch_L79, ur_g, e5, P_tch hp1 hi, P_of1 hp1 hr, ui_ur, drm]
    by_cases c1 : i = r
    · simp only [if_pos c1]
    · simp only [if_neg c1]
      by_cases c2 : tch hc i (pB hc r) = true
      · simp [c2]
      · simp [c2]
  · intro rec
    simp (disch := omega) only [gd_t, bd_some, bn_eq, jn_eq, bi_some, if_pos, if_neg, i10, nI_lt_i, nI_le_i, nI_eq_i, ll_le, ll_lt, ll_eq, lr_le, lr_lt, lr_eq, ix_n, nI_clamp, nI_add, add_l, add_r, nI_mul, mul_l, mul_r, sub_n, sub_r, div_r, ite_some, if_true, if_false, and_self, and_true, true_and, false_and, and_false, Nat.reduceAdd, Nat.reduceMul, not_false_iff, not_true, f_Mod_ditch_L79, ur_g, e5]
theorem upd_self {f : Nat → Int32} {k : Nat} {x : Int32} (h : f k = x) : upd f k x = f := by
  funext j
  by_cases c : j = k
  · subst c; rw [upd_s, h]
  · rw [upd_n c]
theorem dr_I {s u n : Nat} {hc : mu_H} {R M L : Nat → Int32} (r : Nat) (h : Ist s u R L M) (h33 : R 33 = nI n) : ∀ i, i ≤ 9 → Ist s u (fold (drc hc r) R i) L (fold (drm hc r) M i) ∧ (fold (drc hc r) R i) 33 = nI n := by
  intro i
  induction i with
  | zero => intro _; exact ⟨h, h33⟩
  | succ i ih =>
    intro hi
    obtain ⟨a, b⟩ := ih (by omega)
    simp only [fold]
    generalize fold (drc hc r) R i = R1 at a b
    generalize fold (drm hc r) M i = M1 at a
    simp only [drc, drm]
    by_cases c1 : i = r
    · simp only [if_pos c1]; exact ⟨a, b⟩
    · simp only [if_neg c1]
      by_cases c2 : tch hc i (pB hc r) = true
      · simp only [if_pos c2]
        obtain ⟨-, ⟨w, hw, ew⟩, -⟩ := a.2.2.2.2.1 i (by omega)
        have ew2 : M1 (9 + i) = nI w := (a.1 (9 + i) (by omega)).symm.trans ew
        rw [ew, ew2]
        simp (disch := omega) only [gd_t, bd_some, bn_eq, jn_eq, bi_some, if_pos, if_neg, i10, nI_lt_i, nI_le_i, nI_eq_i, ll_le, ll_lt, ll_eq, lr_le, lr_lt, lr_eq, ix_n, nI_clamp, nI_add, add_l, add_r, nI_mul, mul_l, mul_r, sub_n, sub_r, div_r, ite_some, if_true, if_false, and_self, and_true, true_and, false_and, and_false, Nat.reduceAdd, Nat.reduceMul, not_false_iff, not_true, z_mmin]
        by_cases c3 : 9 ≤ w
        · simp (disch := omega) only [gd_t, bd_some, bn_eq, jn_eq, bi_some, if_pos, if_neg, i10, nI_lt_i, nI_le_i, nI_eq_i, ll_le, ll_lt, ll_eq, lr_le, lr_lt, lr_eq, ix_n, nI_clamp, nI_add, add_l, add_r, nI_mul, mul_l, mul_r, sub_n, sub_r, div_r, ite_some, if_true, if_false, and_self, and_true, true_and, false_and, and_false, Nat.reduceAdd, Nat.reduceMul, not_false_iff, not_true]
          rw [upd_self (show M1 (9 + i) = 9 by rw [ew2, show w = 9 by omega]; rfl)]
          exact ⟨a, b⟩
        · simp (disch := omega) only [gd_t, bd_some, bn_eq, jn_eq, bi_some, if_pos, if_neg, i10, nI_lt_i, nI_le_i, nI_eq_i, ll_le, ll_lt, ll_eq, lr_le, lr_lt, lr_eq, ix_n, nI_clamp, nI_add, add_l, add_r, nI_mul, mul_l, mul_r, sub_n, sub_r, div_r, ite_some, if_true, if_false, and_self, and_true, true_and, false_and, and_false, Nat.reduceAdd, Nat.reduceMul, not_false_iff, not_true]
          have e : (if w + 1 < 9 then nI (w + 1) else 9) = nI (w + 1) := by
            by_cases c4 : w + 1 < 9
            · rw [if_pos c4]
            · rw [if_neg c4, show w + 1 = 9 by omega]; rfl
          rw [e]
          exact ⟨Ist_u a (by omega) (by omega) (fun _ _ => ⟨w + 1, by omega, rfl⟩) (by omega) (by omega), by rw [upd_n (by omega)]; exact b⟩
      · simp only [if_neg c2]; exact ⟨a, b⟩
theorem op_ditch {N : Nat} (hN : 9000 ≤ N) (a1 : Int32) (hc hm : mu_H) (hI : Inv (mg hc hm)) : ∃ r hc' hm', f_Owe_ditch N hc a1 = some (r, hc') ∧ f_Mod_ditch N hm a1 = some (r, hm') ∧ (∀ c, 51 ≤ c → hc'.1 c = hc.1 c) ∧ (∀ c, c < 51 → hm'.1 c = hm.1 c) ∧ Inv (mg hc' hm') := by
  have hI0 := hI
  obtain ⟨s, u, hp, ⟨nse, hsee⟩, hnow, himg, hpas, htap, hlaw, href⟩ := hI
  have h9 := hp.1
  have e3 : hc.1 3 2 = nI s := hp.2.2.2.1
  have e5 : hm.1 51 25 = nI s := hp.2.2.2.2.2.1
  have k1 := c_isS (N := N) (o := 3) e3 a1
  have k2 := m_isS (N := N) e5 h9 a1
  have h10 : ¬ (1 : Int32) = 0 := by decide
  have r0 := ref_c (N := N) (k := 0) (h := hc) (by decide)
  have r3 := ref_c (N := N) (k := 3) (h := hc) (by decide)
  have m0 := ref_m (N := N) (k := 0) (h := hm) (by decide)
  have m3 := ref_m (N := N) (k := 3) (h := hm) (by decide)
  rw [show nI 0 = (0 : Int32) from rfl] at r0 m0
  rw [show nI 3 = (3 : Int32) from rfl] at r3 m3
  rcases in_or a1 s (by omega) with ⟨r, hr, rfl, q1, q2⟩ | hno
  · have hnow1 : Ist s u (hc.1 15) (hc.1 16) (hm.1 68) := hnow
    have z30 : (30 : Int32).toNatClampNeg = 30 := rfl
    have i30 : ix 30 34 = true := rfl
    have j30 : ix 30 214 = true := rfl
    have eb : hc.1 15 30 = hm.1 68 30 := hnow1.1 30 (by decide)
    obtain ⟨-, ⟨w, hw, ew⟩, -⟩ := hnow1.2.2.2.2.1 r (by omega)
    have ew2 : hm.1 68 (9 + r) = nI w := (hnow1.1 (9 + r) (by omega)).symm.trans ew
    simp only [f_Owe_ditch, f_Mod_ditch, k1, k2, q1, q2, and_self, if_true, bd_some, if_neg h10, jn_eq, f_Sta_box, z30, i30, j30, gd_t, eb, wetS (o := 14) (show r < 9 by omega), ew]
    by_cases c1 : hm.1 68 30 < 2
    · refine ⟨-1, _, _, ?_, ?_, ref_I hI0 (show 3 < 5 by decide)⟩
      · simp only [if_pos c1, r3, bi_some]
      · simp only [if_pos c1, m3, bi_some, if_neg h10]
    by_cases c2 : 1 ≤ w
    · obtain ⟨m, hm3, -, hm33, -, -⟩ := hnow1.2.2.2.1
      obtain ⟨hc1, hm1, w1, w2, w3, w4, w5, -, -⟩ := keep_2 hN hnow hpas hm33 hm3
      have x15 : hc1.1 15 = hc.1 15 := w3 15 (by decide)
      have x3 : hc1.1 3 = hc.1 3 := w3 3 (by decide)
      have x68 : hm1.1 68 = hm.1 68 := w4.1 68 (by decide) (by decide)
      have hp1 : Ipar (mg hc1 hm1) s u := Ipar_fr (mg_same w3 w4) (by decide) (by decide) hp
      have e31 : hc1.1 3 2 = nI s := by rw [x3, e3]
      obtain ⟨R0, hR0⟩ : ∃ R0, R0 = upd (upd (hc.1 15) 30 (hc.1 15 30 + -2)) (9 + r) (nI (w - 1)) := ⟨_, rfl⟩
      obtain ⟨M0, hM0⟩ : ∃ M0, M0 = upd (upd (hm.1 68) 30 (hc.1 15 30 + -2)) (9 + r) (nI (w - 1)) := ⟨_, rfl⟩
      have hI1 : Ist s u R0 (hc.1 16) M0 := by
        rw [hR0, hM0]
        exact Ist_u (Ist_u hnow1 (by omega) (by omega) (by omega) (by omega) (by omega)) (by omega) (by omega) (fun _ _ => ⟨w - 1, by omega, rfl⟩) (by omega) (by omega)
      have h33 : R0 33 = nI m := by rw [hR0, upd_n (by omega), upd_n (by omega)]; exact hm33
      obtain ⟨hI2, h332⟩ := dr_I (hc := hc1) r hI1 h33 s h9
      have hd := dr_c (N := N) (hc := hc1) (by omega) h9 e31 hr R0
      have hdm := fun k => dr_m (N := N) (hc := hc1) (hm := hm1) (by omega) hp1 hr M0 k
      have u1 : ui (ui hc1 15 30 (hc.1 15 30 + -2)) 15 (9 + r) (nI (w - 1)) = ur hc1 15 R0 := by rw [hR0, ui, ui_s, ui, ur_ur, x15]
      have u2 : ui (ui hm1 68 30 (hc.1 15 30 + -2)) 68 (9 + r) (nI (w - 1)) = ur hm1 68 M0 := by rw [hM0, ui, ui_s, ui, ur_ur, x68]
      have es : hm.1 68 30 - 2 = hc.1 15 30 + -2 := by rw [eb]; exact Int32.sub_eq_add_neg _ _
      have ea : fold (drc hc1 r) R0 s (9 + r) = fold (drm hc1 r) M0 s (9 + r) := hI2.1 (9 + r) (by omega)
      refine ⟨fold (drc hc1 r) R0 s (9 + r), ur hc1 15 (fold (drc hc1 r) R0 s), ur hm1 68 (fold (drm hc1 r) M0 s), ?_, ?_, ?_⟩
      · simp only [if_neg c1]
        simp (disch := omega) only [gd_t, bd_some, bn_eq, jn_eq, bi_some, if_pos, if_neg, i10, nI_lt_i, nI_le_i, nI_eq_i, ll_le, ll_lt, ll_eq, lr_le, lr_lt, lr_eq, ix_n, nI_clamp, nI_add, add_l, add_r, nI_mul, mul_l, mul_r, sub_n, sub_r, div_r, ite_some, if_true, if_false, and_self, and_true, true_and, false_and, and_false, Nat.reduceAdd, Nat.reduceMul, not_false_iff, not_true, w1, f_Lab_drain, ofS1 (show r < 9 by omega), f_Sta_addToBox, z30, i30, f_Sta_wet, f_Sta_setWet, ui_g, x15, ew, u1, hd, ur_g]
      · simp only [if_neg c1]
        simp (disch := omega) only [gd_t, bd_some, bn_eq, jn_eq, bi_some, if_pos, if_neg, i10, nI_lt_i, nI_le_i, nI_eq_i, ll_le, ll_lt, ll_eq, lr_le, lr_lt, lr_eq, ix_n, nI_clamp, nI_add, add_l, add_r, nI_mul, mul_l, mul_r, sub_n, sub_r, div_r, ite_some, if_true, if_false, and_self, and_true, true_and, false_and, and_false, Nat.reduceAdd, Nat.reduceMul, not_false_iff, not_true, ew2, ref_n, w2, x68, ui_g, z30, j30, es, u2, hdm, ur_g, ea]
      · have f1 : sc [15, 16, 26, 29, 32, 35, 36] hc1 (ur hc1 15 (fold (drc hc1 r) R0 s)) := sc_ur (by decide)
        have f2 : sM [60, 61, 68] [] hm1 (ur hm1 68 (fold (drm hc1 r) M0 s)) := sM_ur (by decide) (by decide)
        refine act_I hp hsee himg htap hlaw href w3 w4 w5 f1 f2 ?_ (Nat.le_refl m) (by omega) hm3 ?_ (fun k _ => ?_)
        · show Ist s u ((ur hc1 15 (fold (drc hc1 r) R0 s)).1 15) ((ur hc1 15 (fold (drc hc1 r) R0 s)).1 16) ((ur hm1 68 (fold (drm hc1 r) M0 s)).1 68)
          rw [ur_1, ur_1, ur_n (by decide), w3 16 (by decide)]
          exact hI2
        · rw [ur_1]; exact h332
        · rw [ur_n (by decide)]
    · refine ⟨-1, _, _, ?_, ?_, ref_I hI0 (show 3 < 5 by decide)⟩
      · simp only [if_neg c1]
        simp (disch := omega) only [gd_t, bd_some, bn_eq, jn_eq, bi_some, if_pos, if_neg, i10, nI_lt_i, nI_le_i, nI_eq_i, ll_le, ll_lt, ll_eq, lr_le, lr_lt, lr_eq, ix_n, nI_clamp, nI_add, add_l, add_r, nI_mul, mul_l, mul_r, sub_n, sub_r, div_r, ite_some, if_true, if_false, and_self, and_true, true_and, false_and, and_false, Nat.reduceAdd, Nat.reduceMul, not_false_iff, not_true, r3]
      · simp only [if_neg c1]
        simp (disch := omega) only [gd_t, bd_some, bn_eq, jn_eq, bi_some, if_pos, if_neg, i10, nI_lt_i, nI_le_i, nI_eq_i, ll_le, ll_lt, ll_eq, lr_le, lr_lt, lr_eq, ix_n, nI_clamp, nI_add, add_l, add_r, nI_mul, mul_l, mul_r, sub_n, sub_r, div_r, ite_some, if_true, if_false, and_self, and_true, true_and, false_and, and_false, Nat.reduceAdd, Nat.reduceMul, not_false_iff, not_true, ew2, m3, h10]
  · refine ⟨-1, _, _, ?_, ?_, ref_I hI0 (show 0 < 5 by decide)⟩
    · simp only [f_Owe_ditch, k1, if_neg hno, bd_some, if_true, r0, bi_some]
    · simp only [f_Mod_ditch, k2, if_neg hno, bd_some, if_true, jn_eq, m0, bi_some, if_neg h10]
