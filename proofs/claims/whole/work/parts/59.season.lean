/-! a season passes -/
def Ib (s u : Nat) (R M : Nat → Int32) : Prop := (∀ k, k ≤ 30 → R k = M k) ∧ (∀ r, r < 9 → bN (R r) 99 ∧ bN (R (9 + r)) 9 ∧ (s ≤ r → R r = 0)) ∧ (∀ a, a < 6 → bN (R (18 + a)) 9 ∧ bN (R (24 + a)) 999 ∧ (u ≤ a → R (18 + a) = 0 ∧ R (24 + a) = 0))
theorem Ib_u {s u k : Nat} {x : Int32} {R M : Nat → Int32} (h : Ib s u R M) (hk : k ≤ 30) (h1 : k < 9 → bN x 99 ∧ k < s) (h2 : 9 ≤ k → k < 18 → bN x 9) (h3 : 18 ≤ k → k < 24 → bN x 9 ∧ k < 18 + u) (h4 : 24 ≤ k → k < 30 → bN x 999 ∧ k < 24 + u) : Ib s u (upd R k x) (upd M k x) := by
  obtain ⟨q1, q8, q9⟩ := h
  refine ⟨fun j hj => ?_, fun r hr => ?_, fun a ha => ?_⟩
  · by_cases c : j = k
    · subst c; rw [upd_s, upd_s]
    · rw [upd_n c, upd_n c]; exact q1 j hj
  · obtain ⟨a, b, c⟩ := q8 r hr
    refine ⟨?_, ?_, fun q => ?_⟩
    · by_cases d : r = k
      · subst d; rw [upd_s]; exact (h1 hr).1
      · rw [upd_n d]; exact a
    · by_cases d : 9 + r = k
      · subst d; rw [upd_s]; exact h2 (by omega) (by omega)
      · rw [upd_n d]; exact b
    · by_cases d : r = k
      · have := (h1 (by omega)).2; omega
      · rw [upd_n d]; exact c q
  · obtain ⟨b, c, d⟩ := q9 a ha
    refine ⟨?_, ?_, fun q => ⟨?_, ?_⟩⟩
    · by_cases e : 18 + a = k
      · subst e; rw [upd_s]; exact (h3 (by omega) (by omega)).1
      · rw [upd_n e]; exact b
    · by_cases e : 24 + a = k
      · subst e; rw [upd_s]; exact (h4 (by omega) (by omega)).1
      · rw [upd_n e]; exact c
    · by_cases e : 18 + a = k
      · have := (h3 (by omega) (by omega)).2; omega
      · rw [upd_n e]; exact (d q).1
    · by_cases e : 24 + a = k
      · have := (h4 (by omega) (by omega)).2; omega
      · rw [upd_n e]; exact (d q).2
theorem Ib_of {s u : Nat} {R L M : Nat → Int32} (h : Ist s u R L M) : Ib s u R M := ⟨h.1, h.2.2.2.2.1, h.2.2.2.2.2⟩
theorem Ib_up {s u j k : Nat} {x y : Int32} {R M : Nat → Int32} (h : Ib s u R M) (hj : 31 ≤ j) (hk : 31 ≤ k) : Ib s u (upd R j x) (upd M k y) := by
  obtain ⟨q1, q8, q9⟩ := h
  refine ⟨fun i hi => ?_, fun r hr => ?_, fun a ha => ?_⟩
  · rw [upd_n (by omega), upd_n (by omega)]; exact q1 i hi
  · rw [upd_n (by omega), upd_n (by omega)]; exact q8 r hr
  · rw [upd_n (by omega), upd_n (by omega)]; exact q9 a ha
/-- the rules, the uses -/
theorem P_rul {hc hm : mu_H} {s u k : Nat} (hp : Ipar (mg hc hm) s u) (hs : 0 < s) (hk : k < 3) : ∃ v, v ≤ 9 ∧ hc.1 4 k = nI v ∧ hm.1 65 k = nI v := by
  obtain ⟨a, v, hv, e⟩ := (hp.2.2.2.2.2.2.2.1 hs).1 k hk
  exact ⟨v, hv, e, a.trans e⟩
theorem P_use {hc hm : mu_H} {s u r : Nat} (hp : Ipar (mg hc hm) s u) (hr : r < s) : ∃ v, v ≤ 9 ∧ pU hc r = nI v := (hp.2.2.2.2.2.2.2.2.1 r hr).2.2.2.2
/-- the wear one season later; c: it freezes -/
def wn (h : mu_H) (c : Prop) [Decidable c] (R : Nat → Int32) (i w : Nat) : Nat := min 99 (w + tn (pU h i) + if c then tn (h.1 4 1) + tn (R (9 + i)) else 0)
theorem wn_c {N s u : Nat} {hc hm : mu_H} (hp : Ipar (mg hc hm) s u) {R : Nat → Int32} {i w f : Nat} (hi : i < s) (hw : w ≤ 99) (hwe : bN (R (9 + i)) 9) (c : Prop) [Decidable c] (h15 : hc.1 15 = R) (hf : f = if c then 1 else 0) : f_Lab_wornOn N hc (nI i) (nI w) (nI f) = some (nI (wn hc c R i w)) := by
  have h9 := hp.1
  obtain ⟨fr, hfr, e1, -⟩ := P_rul (k := 1) hp (by omega) (by decide)
  obtain ⟨us, hus, e2⟩ := P_use hp hi
  obtain ⟨we, hwe, e3⟩ := hwe
  have i1 : ix 1 80 = true := rfl
  have z1 : (1 : Int32).toNatClampNeg = 1 := rfl
  simp only [f_Lab_wornOn, ofS4 (show i < 9 by omega), e2, bd_some, bn_eq, jn_eq, f_Par_ofRules, i1, z1, gd_t, e1, wetS (o := 14) (show i < 9 by omega), h15, e3, wn]
  by_cases d : c
  · rw [if_pos d] at hf
    subst hf
    simp (disch := omega) only [gd_t, bd_some, bn_eq, jn_eq, bi_some, if_pos, if_neg, i10, nI_lt_i, nI_le_i, nI_eq_i, ll_le, ll_lt, ll_eq, lr_le, lr_lt, lr_eq, ix_n, nI_clamp, nI_add, add_l, add_r, nI_mul, mul_l, mul_r, sub_n, sub_r, div_r, ite_some, if_true, if_false, and_self, and_true, true_and, false_and, and_false, Nat.reduceAdd, Nat.reduceMul, not_false_iff, not_true, show ¬ nI 1 = 0 by decide, if_pos d, e1, e2, e3, tn_n]
    by_cases g : w + us + (fr + we) ≤ 99
    · simp only [if_pos g]; rw [Nat.min_eq_right g]
    · simp only [if_neg g]; rw [Nat.min_eq_left (by omega)]; rfl
  · rw [if_neg d] at hf
    subst hf
    simp (disch := omega) only [gd_t, bd_some, bn_eq, jn_eq, bi_some, if_pos, if_neg, i10, nI_lt_i, nI_le_i, nI_eq_i, ll_le, ll_lt, ll_eq, lr_le, lr_lt, lr_eq, ix_n, nI_clamp, nI_add, add_l, add_r, nI_mul, mul_l, mul_r, sub_n, sub_r, div_r, ite_some, if_true, if_false, and_self, and_true, true_and, false_and, and_false, Nat.reduceAdd, Nat.reduceMul, not_false_iff, not_true, show nI 0 = (0 : Int32) from rfl, if_neg d, e2, tn_n, Nat.add_zero]
    by_cases g : w + us ≤ 99
    · simp only [if_pos g]; rw [Nat.min_eq_right g]
    · simp only [if_neg g]; rw [Nat.min_eq_left (by omega)]; rfl
def wnS (h : mu_H) (c : Prop) [Decidable c] (i : Nat) (R : Nat → Int32) : Nat → Int32 := upd R i (nI (wn h c R i (tn (R i))))
theorem wn_I {s u : Nat} {h : mu_H} {R M : Nat → Int32} (c : Prop) [Decidable c] (hb : Ib s u R M) : ∀ i, i ≤ s → s ≤ 9 → Ib s u (fold (wnS h c) R i) (fold (wnS h c) M i) ∧ (∀ k, 31 ≤ k → fold (wnS h c) R i k = R k ∧ fold (wnS h c) M i k = M k) := by
  intro i
  induction i with
  | zero => intro _ _; exact ⟨hb, fun _ _ => ⟨rfl, rfl⟩⟩
  | succ i ih =>
    intro hi h9
    obtain ⟨a, b⟩ := ih (by omega) h9
    simp only [fold]
    generalize fold (wnS h c) R i = R1 at a b
    generalize fold (wnS h c) M i = M1 at a b
    have e : wn h c R1 i (tn (R1 i)) = wn h c M1 i (tn (M1 i)) := by
      rw [a.1 i (by omega), wn, wn, a.1 (9 + i) (by omega)]
    simp only [wnS]
    rw [← e]
    refine ⟨Ib_u a (by omega) (fun _ => ⟨⟨_, ?_, rfl⟩, by omega⟩) (by omega) (by omega) (by omega), fun k hk => ?_⟩
    · rw [wn]; omega
    · rw [upd_n (by omega), upd_n (by omega)]; exact b k hk
theorem ps_c {N s u : Nat} {hc hm : mu_H} (hN : 300 ≤ N) (hp : Ipar (mg hc hm) s u) {R0 M0 : Nat → Int32} (hb : Ib s u R0 M0) (c : Prop) [Decidable c] {f : Nat} (hf : f = if c then 1 else 0) (k : mu_H → Option mu_H) : lp (f_Lab_passSeason_L10 N (nI f) k) N (0, ur hc 15 R0) = k (ur hc 15 (fold (wnS hc c) R0 s)) := by
  have h9 := hp.1
  have e3 : hc.1 3 2 = nI s := hp.2.2.2.1
  have key := lp_end (body := f_Lab_passSeason_L10 N (nI f) k) (fun i => (nI i, ur hc 15 (fold (wnS hc c) R0 i))) s (v := k (ur hc 15 (fold (wnS hc c) R0 s))) ?_ ?_ (f := N) (by omega)
  · exact key
  · intro i hi rec
    have hI := (wn_I (h := hc) c hb i (by omega) h9).1
    simp only [fold]
    generalize fold (wnS hc c) R0 i = R at hI
    have hp1 := P_ur hp R (hm.1 68)
    obtain ⟨⟨w, hw, ew⟩, hwe, -⟩ := hI.2.1 i (by omega)
    have hwn := wn_c (N := N) (hc := ur hc 15 R) hp1 hi hw hwe c ur_1 hf
    have hwe2 : wn (ur hc 15 R) c R i w = wn hc c R i w := rfl
    simp (disch := omega) only [gd_t, bd_some, bn_eq, jn_eq, bi_some, if_pos, if_neg, i10, nI_lt_i, nI_le_i, nI_eq_i, ll_le, ll_lt, ll_eq, lr_le, lr_lt, lr_eq, ix_n, nI_clamp, nI_add, add_l, add_r, nI_mul, mul_l, mul_r, sub_n, sub_r, div_r, ite_some, if_true, if_false, and_self, and_true, true_and, false_and, and_false, Nat.reduceAdd, Nat.reduceMul, not_false_iff, not_true, f_Lab_passSeason_L10, f_Par_stretches, ur_g, e3, wearS (o := 14) (show i < 34 by omega), ew, hwn, hwe2, f_Sta_setWear, ui_ur, wnS, tn_n, Nat.zero_add]
  · intro rec
    simp (disch := omega) only [gd_t, bd_some, bn_eq, jn_eq, bi_some, if_pos, if_neg, i10, nI_lt_i, nI_le_i, nI_eq_i, ll_le, ll_lt, ll_eq, lr_le, lr_lt, lr_eq, ix_n, nI_clamp, nI_add, add_l, add_r, nI_mul, mul_l, mul_r, sub_n, sub_r, div_r, ite_some, if_true, if_false, and_self, and_true, true_and, false_and, and_false, Nat.reduceAdd, Nat.reduceMul, not_false_iff, not_true, f_Lab_passSeason_L10, f_Par_stretches, ur_g, e3]
theorem ps_m {N s u : Nat} {hc hm : mu_H} (hN : 300 ≤ N) (hp : Ipar (mg hc hm) s u) {R0 M0 : Nat → Int32} (hb : Ib s u R0 M0) {n : Nat} (hn : n ≤ 9999) : f_Mod_wearOn N (ur hm 68 M0) (nI n) = some (ur hm 68 (fold (wnS hc (n % 4 = 3)) M0 s)) := by
  have h9 := hp.1
  have e5 : hm.1 51 25 = nI s := hp.2.2.2.2.2.1
  have key := lp_end (body := f_Mod_wearOn_L2 N (nI n)) (fun i => (nI i, ur hm 68 (fold (wnS hc (n % 4 = 3)) M0 i))) s (v := some (ur hm 68 (fold (wnS hc (n % 4 = 3)) M0 s))) ?_ ?_ (f := N) (by omega)
  · exact key
  · intro i hi rec
    have hI := (wn_I (h := hc) (n % 4 = 3) hb i (by omega) h9).1
    simp only [fold]
    generalize fold (wnS hc (n % 4 = 3)) R0 i = R at hI
    generalize fold (wnS hc (n % 4 = 3)) M0 i = M at hI
    have hp1 := P_ur hp (hc.1 15) M
    rw [ur_self] at hp1
    obtain ⟨⟨w, hw, ew⟩, ⟨we, hwe, ewe⟩, -⟩ := hI.2.1 i (by omega)
    have ew2 : M i = nI w := (hI.1 i (by omega)).symm.trans ew
    have ewe2 : M (9 + i) = nI we := (hI.1 (9 + i) (by omega)).symm.trans ewe
    obtain ⟨fr, hfr, e1, e1m⟩ := P_rul (k := 1) hp (by omega) (by decide)
    obtain ⟨us, hus, e2⟩ := P_use hp hi
    have i1 : ix 1 3 = true := rfl
    have z1 : (1 : Int32).toNatClampNeg = 1 := rfl
    have h4 : n - n / 4 * 4 = n % 4 := by omega
    have h10 : ¬ (1 : Int32) = 0 := by decide
    simp (disch := omega) only [gd_t, bd_some, bn_eq, jn_eq, bi_some, if_pos, if_neg, i10, nI_lt_i, nI_le_i, nI_eq_i, ll_le, ll_lt, ll_eq, lr_le, lr_lt, lr_eq, ix_n, nI_clamp, nI_add, add_l, add_r, nI_mul, mul_l, mul_r, sub_n, sub_r, div_r, ite_some, if_true, if_false, and_self, and_true, true_and, false_and, and_false, Nat.reduceAdd, Nat.reduceMul, not_false_iff, not_true, f_Mod_wearOn_L2, ur_g, e5, P_of4 hp1 hi, e2, f_Mod_isWinter, h4, i1, z1, e1m, ew2, ewe2, ui_ur, wnS, wn, e1, tn_n, z_mmin, Nat.zero_add]
    by_cases d : n % 4 = 3
    · simp only [d, not_true, if_true, if_false]
      by_cases g : w + (us + (fr + we)) < 99
      · simp (disch := omega) only [gd_t, bd_some, bn_eq, jn_eq, bi_some, if_pos, if_neg, i10, nI_lt_i, nI_le_i, nI_eq_i, ll_le, ll_lt, ll_eq, lr_le, lr_lt, lr_eq, ix_n, nI_clamp, nI_add, add_l, add_r, nI_mul, mul_l, mul_r, sub_n, sub_r, div_r, ite_some, if_true, if_false, and_self, and_true, true_and, false_and, and_false, Nat.reduceAdd, Nat.reduceMul, not_false_iff, not_true]
        rw [Nat.min_eq_right (by omega), show w + (us + (fr + we)) = w + us + (fr + we) by omega]
      · simp (disch := omega) only [gd_t, bd_some, bn_eq, jn_eq, bi_some, if_pos, if_neg, i10, nI_lt_i, nI_le_i, nI_eq_i, ll_le, ll_lt, ll_eq, lr_le, lr_lt, lr_eq, ix_n, nI_clamp, nI_add, add_l, add_r, nI_mul, mul_l, mul_r, sub_n, sub_r, div_r, ite_some, if_true, if_false, and_self, and_true, true_and, false_and, and_false, Nat.reduceAdd, Nat.reduceMul, not_false_iff, not_true]
        rw [Nat.min_eq_left (by omega)]; rfl
    · simp only [d, not_false_iff, if_true, if_false]
      by_cases g : w + (us + 0) < 99
      · simp (disch := omega) only [gd_t, bd_some, bn_eq, jn_eq, bi_some, if_pos, if_neg, i10, nI_lt_i, nI_le_i, nI_eq_i, ll_le, ll_lt, ll_eq, lr_le, lr_lt, lr_eq, ix_n, nI_clamp, nI_add, add_l, add_r, nI_mul, mul_l, mul_r, sub_n, sub_r, div_r, ite_some, if_true, if_false, and_self, and_true, true_and, false_and, and_false, Nat.reduceAdd, Nat.reduceMul, not_false_iff, not_true]
        rw [Nat.min_eq_right (by omega)]; rfl
      · simp (disch := omega) only [gd_t, bd_some, bn_eq, jn_eq, bi_some, if_pos, if_neg, i10, nI_lt_i, nI_le_i, nI_eq_i, ll_le, ll_lt, ll_eq, lr_le, lr_lt, lr_eq, ix_n, nI_clamp, nI_add, add_l, add_r, nI_mul, mul_l, mul_r, sub_n, sub_r, div_r, ite_some, if_true, if_false, and_self, and_true, true_and, false_and, and_false, Nat.reduceAdd, Nat.reduceMul, not_false_iff, not_true]
        rw [Nat.min_eq_left (by omega)]; rfl
  · intro rec
    simp (disch := omega) only [gd_t, bd_some, bn_eq, jn_eq, bi_some, if_pos, if_neg, i10, nI_lt_i, nI_le_i, nI_eq_i, ll_le, ll_lt, ll_eq, lr_le, lr_lt, lr_eq, ix_n, nI_clamp, nI_add, add_l, add_r, nI_mul, mul_l, mul_r, sub_n, sub_r, div_r, ite_some, if_true, if_false, and_self, and_true, true_and, false_and, and_false, Nat.reduceAdd, Nat.reduceMul, not_false_iff, not_true, f_Mod_wearOn_L2, ur_g, e5]
