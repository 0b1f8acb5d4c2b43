/-! the year begins, the log, seasons -/
def yrS (h : mu_H) (i : Nat) (R : Nat → Int32) : Nat → Int32 := upd (upd R (24 + i) (nI (min 999 (tn (R (24 + i)) + tn (R (18 + i)))))) (18 + i) (h.1 4 0)
theorem yr_I {s u : Nat} {h : mu_H} {R M : Nat → Int32} (hd : bN (h.1 4 0) 9) (hb : Ib s u R M) : ∀ i, i ≤ u → u ≤ 6 → Ib s u (fold (yrS h) R i) (fold (yrS h) M i) ∧ (∀ k, 31 ≤ k → fold (yrS h) R i k = R k ∧ fold (yrS h) M i k = M k) := by
  intro i
  induction i with
  | zero => intro _ _; exact ⟨hb, fun _ _ => ⟨rfl, rfl⟩⟩
  | succ i ih =>
    intro hi h6
    obtain ⟨a, b⟩ := ih (by omega) h6
    simp only [fold]
    generalize fold (yrS h) R i = R1 at a b
    generalize fold (yrS h) M i = M1 at a b
    simp only [yrS]
    rw [a.1 (24 + i) (by omega), a.1 (18 + i) (by omega)]
    refine ⟨Ib_u (Ib_u a (by omega) (by omega) (by omega) (by omega) (fun _ _ => ⟨⟨_, by omega, rfl⟩, by omega⟩)) (by omega) (by omega) (by omega) (fun _ _ => ⟨hd, by omega⟩) (by omega), fun k hk => ?_⟩
    rw [upd_n (by omega), upd_n (by omega), upd_n (by omega), upd_n (by omega)]; exact b k hk
theorem yr_c {N s u : Nat} {hc hm : mu_H} (hN : 300 ≤ N) (hp : Ipar (mg hc hm) s u) (hs : 0 < s) {R0 M0 : Nat → Int32} (hb : Ib s u R0 M0) : f_Lab_beginYear N (ur hc 15 R0) = some (ur hc 15 (fold (yrS hc) R0 u)) := by
  have h6 := hp.2.1
  have e4 : hc.1 3 3 = nI u := hp.2.2.2.2.1
  obtain ⟨dy, hdy, e1, -⟩ := P_rul (k := 0) hp hs (by decide)
  have key := lp_end (body := f_Lab_beginYear_L2 N) (fun i => (nI i, ur hc 15 (fold (yrS hc) R0 i))) u (v := some (ur hc 15 (fold (yrS hc) R0 u))) ?_ ?_ (f := N) (by omega)
  · exact key
  · intro i hi rec
    have hI := (yr_I (h := hc) ⟨dy, hdy, e1⟩ hb i (by omega) h6).1
    simp only [fold]
    generalize fold (yrS hc) R0 i = R at hI
    obtain ⟨⟨o, ho, eo⟩, ⟨d, hd, ed⟩, -⟩ := hI.2.2 i (by omega)
    have i0 : ix 0 80 = true := rfl
    have z0 : (0 : Int32).toNatClampNeg = 0 := rfl
    have hne : ¬ 18 + i = 24 + i := by omega
    simp (disch := omega) only [gd_t, bd_some, bn_eq, jn_eq, bi_some, if_pos, if_neg, i10, nI_lt_i, nI_le_i, nI_eq_i, ll_le, ll_lt, ll_eq, lr_le, lr_lt, lr_eq, ix_n, nI_clamp, nI_add, add_l, add_r, nI_mul, mul_l, mul_r, sub_n, sub_r, div_r, ite_some, if_true, if_false, and_self, and_true, true_and, false_and, and_false, Nat.reduceAdd, Nat.reduceMul, not_false_iff, not_true, f_Lab_beginYear_L2, f_Par_houses, ur_g, e4, f_Sta_debt, f_Sta_owed, ed, eo, f_Sta_setDebt, f_Par_ofRules, f_Sta_setOwed, ui_ur, i0, z0, yrS, tn_n]
    by_cases g : d + o ≤ 999
    · simp (disch := omega) only [gd_t, bd_some, bn_eq, jn_eq, bi_some, if_pos, if_neg, i10, nI_lt_i, nI_le_i, nI_eq_i, ll_le, ll_lt, ll_eq, lr_le, lr_lt, lr_eq, ix_n, nI_clamp, nI_add, add_l, add_r, nI_mul, mul_l, mul_r, sub_n, sub_r, div_r, ite_some, if_true, if_false, and_self, and_true, true_and, false_and, and_false, Nat.reduceAdd, Nat.reduceMul, not_false_iff, not_true]
      rw [Nat.min_eq_right g]
    · simp (disch := omega) only [gd_t, bd_some, bn_eq, jn_eq, bi_some, if_pos, if_neg, i10, nI_lt_i, nI_le_i, nI_eq_i, ll_le, ll_lt, ll_eq, lr_le, lr_lt, lr_eq, ix_n, nI_clamp, nI_add, add_l, add_r, nI_mul, mul_l, mul_r, sub_n, sub_r, div_r, ite_some, if_true, if_false, and_self, and_true, true_and, false_and, and_false, Nat.reduceAdd, Nat.reduceMul, not_false_iff, not_true]
      rw [Nat.min_eq_left (by omega)]; rfl
  · intro rec
    simp (disch := omega) only [gd_t, bd_some, bn_eq, jn_eq, bi_some, if_pos, if_neg, i10, nI_lt_i, nI_le_i, nI_eq_i, ll_le, ll_lt, ll_eq, lr_le, lr_lt, lr_eq, ix_n, nI_clamp, nI_add, add_l, add_r, nI_mul, mul_l, mul_r, sub_n, sub_r, div_r, ite_some, if_true, if_false, and_self, and_true, true_and, false_and, and_false, Nat.reduceAdd, Nat.reduceMul, not_false_iff, not_true, f_Lab_beginYear_L2, f_Par_houses, ur_g, e4]
theorem yr_m {N s u n : Nat} {hc hm : mu_H} (hN : 300 ≤ N) (hp : Ipar (mg hc hm) s u) (hs : 0 < s) {R0 M0 : Nat → Int32} (hb : Ib s u R0 M0) (hn : n ≤ 9999) (h32 : M0 32 = nI n) (k : mu_H → Option mu_H) : lp (f_Mod_passSeason_L24 k) N (0, ur hm 68 M0) = k (ur hm 68 (if n % 4 = 0 then fold (yrS hc) M0 u else M0)) := by
  have h6 := hp.2.1
  have e6 : hm.1 51 26 = nI u := hp.2.2.2.2.2.2.1
  obtain ⟨dy, hdy, e1, e2⟩ := P_rul (k := 0) hp hs (by decide)
  have h4 : n - n / 4 * 4 = n % 4 := by omega
  have i32 : ix 32 214 = true := rfl
  have z32 : (32 : Int32).toNatClampNeg = 32 := rfl
  have i0 : ix 0 3 = true := rfl
  have z0 : (0 : Int32).toNatClampNeg = 0 := rfl
  by_cases c : n % 4 = 0
  · rw [if_pos c]
    have key := lp_end (body := f_Mod_passSeason_L24 k) (fun i => (nI i, ur hm 68 (fold (yrS hc) M0 i))) u (v := k (ur hm 68 (fold (yrS hc) M0 u))) ?_ ?_ (f := N) (by omega)
    · exact key
    · intro i hi rec
      obtain ⟨hI, hk⟩ := yr_I (h := hc) ⟨dy, hdy, e1⟩ hb i (by omega) h6
      have h32i : fold (yrS hc) M0 i 32 = nI n := ((hk 32 (by decide)).2).trans h32
      simp only [fold]
      generalize fold (yrS hc) R0 i = R at hI
      generalize fold (yrS hc) M0 i = M at hI h32i
      obtain ⟨⟨o, ho, eo⟩, ⟨d, hd, ed⟩, -⟩ := hI.2.2 i (by omega)
      have eo2 : M (18 + i) = nI o := (hI.1 (18 + i) (by omega)).symm.trans eo
      have ed2 : M (24 + i) = nI d := (hI.1 (24 + i) (by omega)).symm.trans ed
      simp (disch := omega) only [gd_t, bd_some, bn_eq, jn_eq, bi_some, if_pos, if_neg, i10, nI_lt_i, nI_le_i, nI_eq_i, ll_le, ll_lt, ll_eq, lr_le, lr_lt, lr_eq, ix_n, nI_clamp, nI_add, add_l, add_r, nI_mul, mul_l, mul_r, sub_n, sub_r, div_r, ite_some, if_true, if_false, and_self, and_true, true_and, false_and, and_false, Nat.reduceAdd, Nat.reduceMul, not_false_iff, not_true, f_Mod_passSeason_L24, ur_g, e6, h32i, h4, i32, z32, c, show nI 0 = (0 : Int32) from rfl, ed2, eo2, ui_ur, i0, z0, e2, e1, yrS, tn_n, z_mmin]
      by_cases g : d + o < 999
      · simp (disch := omega) only [gd_t, bd_some, bn_eq, jn_eq, bi_some, if_pos, if_neg, i10, nI_lt_i, nI_le_i, nI_eq_i, ll_le, ll_lt, ll_eq, lr_le, lr_lt, lr_eq, ix_n, nI_clamp, nI_add, add_l, add_r, nI_mul, mul_l, mul_r, sub_n, sub_r, div_r, ite_some, if_true, if_false, and_self, and_true, true_and, false_and, and_false, Nat.reduceAdd, Nat.reduceMul, not_false_iff, not_true]
        rw [Nat.min_eq_right (by omega)]
      · simp (disch := omega) only [gd_t, bd_some, bn_eq, jn_eq, bi_some, if_pos, if_neg, i10, nI_lt_i, nI_le_i, nI_eq_i, ll_le, ll_lt, ll_eq, lr_le, lr_lt, lr_eq, ix_n, nI_clamp, nI_add, add_l, add_r, nI_mul, mul_l, mul_r, sub_n, sub_r, div_r, ite_some, if_true, if_false, and_self, and_true, true_and, false_and, and_false, Nat.reduceAdd, Nat.reduceMul, not_false_iff, not_true]
        rw [Nat.min_eq_left (by omega)]; rfl
    · intro rec
      simp (disch := omega) only [gd_t, bd_some, bn_eq, jn_eq, bi_some, if_pos, if_neg, i10, nI_lt_i, nI_le_i, nI_eq_i, ll_le, ll_lt, ll_eq, lr_le, lr_lt, lr_eq, ix_n, nI_clamp, nI_add, add_l, add_r, nI_mul, mul_l, mul_r, sub_n, sub_r, div_r, ite_some, if_true, if_false, and_self, and_true, true_and, false_and, and_false, Nat.reduceAdd, Nat.reduceMul, not_false_iff, not_true, f_Mod_passSeason_L24, ur_g, e6]
  · rw [if_neg c]
    obtain ⟨f, rfl⟩ : ∃ f, N = f + 1 := ⟨N - 1, by omega⟩
    show f_Mod_passSeason_L24 k (lp (f_Mod_passSeason_L24 k) f) (0, ur hm 68 M0) = _
    by_cases d : u ≤ 0
    · have : u = 0 := by omega
      subst this
      simp only [f_Mod_passSeason_L24, ur_n (show (51 : Nat) ≠ 68 by decide), e6]
      rfl
    · have d2 : ¬ nI u ≤ 0 := fun q => d (Nat.le_of_eq ((nI_le0 (by omega)).mp q))
      simp (disch := omega) only [gd_t, bd_some, bn_eq, jn_eq, bi_some, if_pos, if_neg, i10, nI_lt_i, nI_le_i, nI_eq_i, ll_le, ll_lt, ll_eq, lr_le, lr_lt, lr_eq, ix_n, nI_clamp, nI_add, add_l, add_r, nI_mul, mul_l, mul_r, sub_n, sub_r, div_r, ite_some, if_true, if_false, and_self, and_true, true_and, false_and, and_false, Nat.reduceAdd, Nat.reduceMul, not_false_iff, not_true, f_Mod_passSeason_L24, ur_g, e6, h32, h4, i32, z32, d2]
def bdf (R : Nat → Int32) (i : Nat) (x : Int32) : Int32 := if R i < 60 then x else x + 1
theorem bd_c {N : Nat} {h : mu_H} (hN : 300 ≤ N) : f_Sta_bad N h 14 = some (fold (bdf (h.1 15)) 0 9) := by
  refine lp_fold' (k := some) (bdf (h.1 15)) 9 ?_ ?_ 0 (by omega)
  · intro i hi x rec
    simp (disch := omega) only [gd_t, bd_some, bn_eq, jn_eq, bi_some, if_pos, if_neg, i10, nI_lt_i, nI_le_i, nI_eq_i, ll_le, ll_lt, ll_eq, lr_le, lr_lt, lr_eq, ix_n, nI_clamp, nI_add, add_l, add_r, nI_mul, mul_l, mul_r, sub_n, sub_r, div_r, ite_some, if_true, if_false, and_self, and_true, true_and, false_and, and_false, Nat.reduceAdd, Nat.reduceMul, not_false_iff, not_true, f_Sta_bad_L4, wearS (o := 14) (show i < 34 by omega), bdf]
    by_cases c : h.1 15 i < 60 <;> simp [c]
  · intro x rec
    simp (disch := omega) only [gd_t, bd_some, bn_eq, jn_eq, bi_some, if_pos, if_neg, i10, nI_lt_i, nI_le_i, nI_eq_i, ll_le, ll_lt, ll_eq, lr_le, lr_lt, lr_eq, ix_n, nI_clamp, nI_add, add_l, add_r, nI_mul, mul_l, mul_r, sub_n, sub_r, div_r, ite_some, if_true, if_false, and_self, and_true, true_and, false_and, and_false, Nat.reduceAdd, Nat.reduceMul, not_false_iff, not_true, f_Sta_bad_L4]
theorem bd_m {N s : Nat} {h : mu_H} (hN : 300 ≤ N) (h9 : s ≤ 9) (e5 : h.1 51 25 = nI s) (k : Int32 → Option mu_H) : lp (f_Mod_passSeason_L103 h k) N (0, 0) = k (fold (bdf (h.1 68)) 0 s) := by
  refine lp_fold' (k := k) (bdf (h.1 68)) s ?_ ?_ 0 (by omega)
  · intro i hi x rec
    simp (disch := omega) only [gd_t, bd_some, bn_eq, jn_eq, bi_some, if_pos, if_neg, i10, nI_lt_i, nI_le_i, nI_eq_i, ll_le, ll_lt, ll_eq, lr_le, lr_lt, lr_eq, ix_n, nI_clamp, nI_add, add_l, add_r, nI_mul, mul_l, mul_r, sub_n, sub_r, div_r, ite_some, if_true, if_false, and_self, and_true, true_and, false_and, and_false, Nat.reduceAdd, Nat.reduceMul, not_false_iff, not_true, f_Mod_passSeason_L103, e5, bdf, Nat.zero_add]
    by_cases c : h.1 68 i < 60 <;> simp [c]
  · intro x rec
    simp (disch := omega) only [gd_t, bd_some, bn_eq, jn_eq, bi_some, if_pos, if_neg, i10, nI_lt_i, nI_le_i, nI_eq_i, ll_le, ll_lt, ll_eq, lr_le, lr_lt, lr_eq, ix_n, nI_clamp, nI_add, add_l, add_r, nI_mul, mul_l, mul_r, sub_n, sub_r, div_r, ite_some, if_true, if_false, and_self, and_true, true_and, false_and, and_false, Nat.reduceAdd, Nat.reduceMul, not_false_iff, not_true, f_Mod_passSeason_L103, e5]
theorem sum_Ib {s u : Nat} {R M : Nat → Int32} (h9 : s ≤ 9) (hb : Ib s u R M) : fold (sm M 0) 0 s = fold (sm R 0) 0 9 ∧ fold (bdf M) 0 s = fold (bdf R) 0 9 := by
  constructor
  · rw [fold_tail h9 (fun i h1 h2 x => by
      show x + R (0 + i) = x
      rw [Nat.zero_add, (hb.2.1 i h2).2.2 h1]; exact Int32.add_zero x)]
    exact fold_eq (fun i hi x => by show x + M (0 + i) = x + R (0 + i); rw [hb.1 (0 + i) (by omega)])
  · rw [fold_tail (g := bdf R) h9 (fun i h1 h2 x => by
      show (if R i < 60 then x else x + 1) = x
      rw [(hb.2.1 i h2).2.2 h1]; rfl)]
    exact fold_eq (fun i hi x => by show (if M i < 60 then x else x + 1) = (if R i < 60 then x else x + 1); rw [hb.1 i (by omega)])
theorem lg_c {N n : Nat} {hc : mu_H} (hN : 300 ≤ N) (hn : n ≤ 3999) {R : Nat → Int32} (h33 : R 33 = nI n) : ∃ h', f_Sta_writeLog N (ur hc 15 R) 14 = some h' ∧ sc [15, 16] hc h' ∧ h'.1 15 = upd (upd R 33 (nI (n + 1))) 32 0 ∧ h'.1 16 = upd (upd (upd (hc.1 16) (n % 100 * 3) (fold (sm R 0) 0 9)) (n % 100 * 3 + 1) (fold (bdf R) 0 9)) (n % 100 * 3 + 2) (R 32) ∧ h'.2 = hc.2 := by
  have z33 : (33 : Int32).toNatClampNeg = 33 := rfl
  have z32 : (32 : Int32).toNatClampNeg = 32 := rfl
  have i33 : ix 33 34 = true := rfl
  have i32 : ix 32 34 = true := rfl
  have hx : n - n / 100 * 100 = n % 100 := by omega
  have hs : f_Sta_allWear N (ur hc 15 R) 14 = some (fold (sm R 0) 0 9) := by
    rw [f_Sta_allWear, show f_Sta_sum N (ur hc 15 R) 14 0 9 = some (fold (sm R 0) 0 9) from sum_c (o := 14) (a := 0) (n := 9) (by decide) (by omega)]
    rfl
  have hb : f_Sta_bad N (ui (ur hc 15 R) 16 (n % 100 * 3) (fold (sm R 0) 0 9)) 14 = some (fold (bdf R) 0 9) := by
    rw [bd_c hN, ui_n (by decide), ur_1]
  refine ⟨ui (ui (ui (ui (ui (ur hc 15 R) 16 (n % 100 * 3) (fold (sm R 0) 0 9)) 16 (n % 100 * 3 + 1) (fold (bdf R) 0 9)) 16 (n % 100 * 3 + 2) (R 32)) 15 33 (nI (n + 1))) 15 32 0, ?_, ?_, ?_, ?_, rfl⟩
  · simp (disch := omega) only [gd_t, bd_some, bn_eq, jn_eq, bi_some, if_pos, if_neg, i10, nI_lt_i, nI_le_i, nI_eq_i, ll_le, ll_lt, ll_eq, lr_le, lr_lt, lr_eq, ix_n, nI_clamp, nI_add, add_l, add_r, nI_mul, mul_l, mul_r, sub_n, sub_r, div_r, ite_some, if_true, if_false, and_self, and_true, true_and, false_and, and_false, Nat.reduceAdd, Nat.reduceMul, not_false_iff, not_true, f_Sta_writeLog, ur_g, h33, z33, z32, i33, i32, hx, hs, hb, ui_g]
  · exact sc_trans (sc_ur (by decide)) (sc_trans (sc_trans (sc_trans (sc_trans (sc_ui (by decide)) (sc_ui (by decide))) (sc_ui (by decide))) (sc_ui (by decide))) (sc_ui (by decide)))
  · rw [ui_s, ui_s, ui_n (by decide), ui_n (by decide), ui_n (by decide), ur_1]
  · rw [ui_n (by decide), ui_n (by decide), ui_s, ui_s, ui_s, ur_n (by decide)]
