/-! cut -/
def tn (x : Int32) : Nat := x.toNatClampNeg
theorem tn_n {n : Nat} (h : n < 2147483648) : tn (nI n) = n := nI_clamp h
theorem bN_tn {x : Int32} {n : Nat} (h : bN x n) (hn : n < 2147483648) : tn x ≤ n ∧ x = nI (tn x) := by
  obtain ⟨k, hk, rfl⟩ := h
  rw [tn_n (by omega)]
  exact ⟨hk, rfl⟩
def bth (h : mu_H) (i : Nat) : Nat := 2 ^ tn (pA h i) ||| 2 ^ tn (pB h i)
def rst (h : mu_H) (b : Int32) (i v : Nat) : Nat := if nI i = b then v else if v.testBit (tn (pA h i)) = true ∨ v.testBit (tn (pB h i)) = true then v ||| bth h i else v
def rnd (h : mu_H) (b : Int32) (s v : Nat) : Nat := fold (rst h b) v s
theorem pAB {h : mu_H} {s u r : Nat} (hp : Ipar h s u) (hr : r < s) : tn (pA h r) ≤ 7 ∧ pA h r = nI (tn (pA h r)) ∧ tn (pB h r) ≤ 7 ∧ pB h r = nI (tn (pB h r)) := by
  obtain ⟨h9, -, -, -, -, -, -, -, hs, -⟩ := hp
  obtain ⟨-, a, b, -, -⟩ := hs r hr
  have ha := bN_tn (x := pA h r) a (by decide)
  have hb := bN_tn (x := pB h r) b (by decide)
  exact ⟨ha.1, ha.2, hb.1, hb.2⟩
theorem or_lt {a b n : Nat} (ha : a < 2 ^ n) (hb : b < 2 ^ n) : a ||| b < 2 ^ n := Nat.or_lt_two_pow ha hb
theorem bth_lt {h : mu_H} {s u r : Nat} (hp : Ipar h s u) (hr : r < s) : bth h r < 2 ^ 8 := by
  obtain ⟨a, -, b, -⟩ := pAB hp hr
  exact or_lt (Nat.pow_lt_pow_right (by decide) (by omega)) (Nat.pow_lt_pow_right (by decide) (by omega))
theorem rst_lt {h : mu_H} {s u r v : Nat} {b : Int32} (hp : Ipar h s u) (hr : r < s) (hv : v < 2 ^ 8) : rst h b r v < 2 ^ 8 := by
  rw [rst]
  split
  · exact hv
  · split
    · exact or_lt hv (bth_lt hp hr)
    · exact hv
theorem rst_gr {h : mu_H} {r v p : Nat} {b : Int32} (hv : v.testBit p = true) : (rst h b r v).testBit p = true := by
  rw [rst]
  split
  · exact hv
  · split
    · rw [Nat.testBit_or, hv, Bool.true_or]
    · exact hv
theorem rfd_lt {h : mu_H} {s u v : Nat} {b : Int32} (hp : Ipar h s u) (hv : v < 2 ^ 8) : ∀ n, n ≤ s → fold (rst h b) v n < 2 ^ 8 := by
  intro n
  induction n with
  | zero => intro _; exact hv
  | succ n ih => intro hn; exact rst_lt hp (by omega) (ih (by omega))
theorem rnd_lt {h : mu_H} {s u v : Nat} {b : Int32} (hp : Ipar h s u) (hv : v < 2 ^ 8) : rnd h b s v < 2 ^ 8 := rfd_lt hp hv s (Nat.le_refl s)
theorem rnd_gr {h : mu_H} {s v p : Nat} {b : Int32} (hv : v.testBit p = true) : (rnd h b s v).testBit p = true := by
  have : ∀ n, (fold (rst h b) v n).testBit p = true := by
    intro n
    induction n with
    | zero => exact hv
    | succ n ih => exact rst_gr ih
  exact this s
theorem and_bth {v a b : Nat} : (v &&& (2 ^ a ||| 2 ^ b) = 0) ↔ ¬ (v.testBit a = true ∨ v.testBit b = true) := by
  constructor
  · intro h q
    have e : ∀ p, (v &&& (2 ^ a ||| 2 ^ b)).testBit p = false := by intro p; rw [h]; exact Nat.zero_testBit p
    rcases q with q | q
    · have := e a
      rw [Nat.testBit_and, Nat.testBit_or, q, Nat.testBit_two_pow_self, Bool.true_or] at this
      exact absurd this (by decide)
    · have := e b
      rw [Nat.testBit_and, Nat.testBit_or, q, Nat.testBit_two_pow_self, Bool.or_true] at this
      exact absurd this (by decide)
  · intro q
    refine Nat.eq_of_testBit_eq (fun p => ?_)
    rw [Nat.zero_testBit, Nat.testBit_and, Nat.testBit_or]
    by_cases ha : p = a
    · subst ha
      cases e : v.testBit p with
      | true => exact absurd (Or.inl e) q
      | false => rfl
    · by_cases hb : p = b
      · subst hb
        cases e : v.testBit p with
        | true => exact absurd (Or.inr e) q
        | false => rfl
      · rw [Nat.testBit_two_pow_of_ne (fun x => ha x.symm), Nat.testBit_two_pow_of_ne (fun x => hb x.symm)]
        cases v.testBit p <;> rfl
theorem pAB' {h : mu_H} {s u r : Nat} (hp : Ipar h s u) (hr : r < s) : ∃ x y, x ≤ 7 ∧ y ≤ 7 ∧ pA h r = nI x ∧ pB h r = nI y := by
  obtain ⟨a, b, c, d⟩ := pAB hp hr
  exact ⟨_, _, a, c, b, d⟩
theorem rI {h : mu_H} {s u : Nat} (hp : Ipar h s u) (b : Int32) : ∀ i, Nat.repeat (rnd h b s) i 1 < 2 ^ 8 := by
  intro i
  induction i with
  | zero => show 1 < 2 ^ 8; decide
  | succ i ih => exact rnd_lt hp ih
theorem rw_c {h : mu_H} {s u : Nat} (hp : Ipar h s u) {N : Nat} (hN : 100 ≤ N) (b : Int32) : f_Roa_reachedWithout N h b = some (nI (Nat.repeat (rnd h b s) 7 1)) := by
  have hp0 := hp
  obtain ⟨h9, -, -, e3, -, e5, -⟩ := hp
  have hI := rI hp0 b
  have key := lp_end (body := f_Roa_reachedWithout_L4 N h b) (fun i => (nI (Nat.repeat (rnd h b s) i 1), nI (i + 1))) 7 (v := some (nI (Nat.repeat (rnd h b s) 7 1))) ?_ ?_ (f := N) (by omega)
  · exact key
  · intro i hi rec
    have hv := hI i
    simp only [f_Roa_reachedWithout_L4, Nat.repeat]
    generalize Nat.repeat (rnd h b s) i 1 = v at hv
    simp (disch := omega) only [gd_t, bd_some, bn_eq, jn_eq, bi_some, if_pos, if_neg, i10, nI_lt_i, nI_le_i, nI_eq_i, ll_le, ll_lt, ll_eq, lr_le, lr_lt, lr_eq, ix_n, nI_clamp, nI_add, add_l, add_r, nI_mul, mul_l, mul_r, sub_n, sub_r, div_r, ite_some]
    have q := lp_end (body := f_Roa_reachedWithout_L13 N h b (fun x5 => rec (x5, nI (i + 1 + 1)))) (fun j => (nI (fold (rst h b) v j), nI j)) s (v := rec (nI (rnd h b s v), nI (i + 1 + 1))) ?_ ?_ (f := N) (by omega)
    · exact q
    · intro j hj rec'
      have hl := rfd_lt hp0 hv (b := b) j (by omega)
      simp only [fold]
      generalize fold (rst h b) v j = w at hl
      obtain ⟨x, y, hx7, hy7, hx, hy⟩ := pAB' hp0 hj
      have hz : (nI (w &&& (2 ^ x ||| 2 ^ y)) = 0) = ¬ (w.testBit x = true ∨ w.testBit y = true) := by
        rw [← and_bth]
        exact nI_eq_i (b := 0) (Nat.lt_of_le_of_lt Nat.and_le_left (by omega)) (by decide)
      simp (disch := omega) only [gd_t, bd_some, bn_eq, jn_eq, bi_some, if_pos, if_neg, i10, nI_lt_i, nI_le_i, nI_eq_i, ll_le, ll_lt, ll_eq, lr_le, lr_lt, lr_eq, ix_n, nI_clamp, nI_add, add_l, add_r, nI_mul, mul_l, mul_r, sub_n, sub_r, div_r, ite_some, f_Roa_reachedWithout_L13, f_Par_stretches, e3, ofS0 (show j < 9 by omega), ofS1 (show j < 9 by omega), hx, hy, sh_1, nI_or, nI_and, rst, bth, tn_n, hz]
      by_cases c : nI j = b
      · simp only [if_pos c]
      · simp only [if_neg c]
        by_cases d : w.testBit x = true ∨ w.testBit y = true
        · simp only [d, not_true, if_false, if_true]
        · simp only [d, not_false_iff, if_false, if_true]
    · intro rec'
      simp (disch := omega) only [gd_t, bd_some, bn_eq, jn_eq, bi_some, if_pos, if_neg, i10, nI_lt_i, nI_le_i, nI_eq_i, ll_le, ll_lt, ll_eq, lr_le, lr_lt, lr_eq, ix_n, nI_clamp, nI_add, add_l, add_r, nI_mul, mul_l, mul_r, sub_n, sub_r, div_r, ite_some, f_Roa_reachedWithout_L13, f_Par_stretches, e3, rnd]
  · intro rec
    simp (disch := omega) only [gd_t, bd_some, bn_eq, jn_eq, bi_some, if_pos, if_neg, i10, nI_lt_i, nI_le_i, nI_eq_i, ll_le, ll_lt, ll_eq, lr_le, lr_lt, lr_eq, ix_n, nI_clamp, nI_add, add_l, add_r, nI_mul, mul_l, mul_r, sub_n, sub_r, div_r, ite_some, f_Roa_reachedWithout_L4]
theorem rb_m {h : mu_H} {s u : Nat} (hp : Ipar h s u) {N : Nat} (hN : 100 ≤ N) (b : Int32) : f_Mod_reachedBut N h b = some (nI (Nat.repeat (rnd h b s) 8 1)) := by
  have hp0 := hp
  obtain ⟨h9, -, -, e3, -, e5, -⟩ := hp
  have hI := rI hp0 b
  have h10 : ¬ (1 : Int32) = 0 := by decide
  have key := lp_end (body := f_Mod_reachedBut_L4 N h b) (fun i => (nI (Nat.repeat (rnd h b s) i 1), nI i)) 8 (v := some (nI (Nat.repeat (rnd h b s) 8 1))) ?_ ?_ (f := N) (by omega)
  · exact key
  · intro i hi rec
    have hv := hI i
    simp only [f_Mod_reachedBut_L4, Nat.repeat]
    generalize Nat.repeat (rnd h b s) i 1 = v at hv
    simp (disch := omega) only [gd_t, bd_some, bn_eq, jn_eq, bi_some, if_pos, if_neg, i10, nI_lt_i, nI_le_i, nI_eq_i, ll_le, ll_lt, ll_eq, lr_le, lr_lt, lr_eq, ix_n, nI_clamp, nI_add, add_l, add_r, nI_mul, mul_l, mul_r, sub_n, sub_r, div_r, ite_some]
    have q := lp_end (body := f_Mod_reachedBut_L13 N h b (fun x5 => rec (x5, nI (i + 1)))) (fun j => (nI (fold (rst h b) v j), nI j)) s (v := rec (nI (rnd h b s v), nI (i + 1))) ?_ ?_ (f := N) (by omega)
    · exact q
    · intro j hj rec'
      have hl := rfd_lt hp0 hv (b := b) j (by omega)
      simp only [fold]
      generalize fold (rst h b) v j = w at hl
      obtain ⟨x, y, hx7, hy7, hx, hy⟩ := pAB' hp0 hj
      simp (disch := omega) only [gd_t, bd_some, bn_eq, jn_eq, bi_some, if_pos, if_neg, i10, nI_lt_i, nI_le_i, nI_eq_i, ll_le, ll_lt, ll_eq, lr_le, lr_lt, lr_eq, ix_n, nI_clamp, nI_add, add_l, add_r, nI_mul, mul_l, mul_r, sub_n, sub_r, div_r, ite_some, f_Mod_reachedBut_L13, e5, mof0 hp0 hj, mof1 hp0 hj, hx, hy, f_Mod_has, sr_1, sh_1, nI_or, rst, bth, tn_n]
      by_cases c : nI j = b
      · simp only [if_pos c]
      · simp only [if_neg c]
        by_cases d1 : w.testBit x = true <;> by_cases d2 : w.testBit y = true <;> simp [d1, d2]
    · intro rec'
      simp (disch := omega) only [gd_t, bd_some, bn_eq, jn_eq, bi_some, if_pos, if_neg, i10, nI_lt_i, nI_le_i, nI_eq_i, ll_le, ll_lt, ll_eq, lr_le, lr_lt, lr_eq, ix_n, nI_clamp, nI_add, add_l, add_r, nI_mul, mul_l, mul_r, sub_n, sub_r, div_r, ite_some, f_Mod_reachedBut_L13, e5, rnd]
  · intro rec
    simp (disch := omega) only [gd_t, bd_some, bn_eq, jn_eq, bi_some, if_pos, if_neg, i10, nI_lt_i, nI_le_i, nI_eq_i, ll_le, ll_lt, ll_eq, lr_le, lr_lt, lr_eq, ix_n, nI_clamp, nI_add, add_l, add_r, nI_mul, mul_l, mul_r, sub_n, sub_r, div_r, ite_some, f_Mod_reachedBut_L4]
theorem rb_c {h : mu_H} {s u : Nat} (hp : Ipar h s u) {N : Nat} (hN : 100 ≤ N) (b : Int32) : f_Mod_reachedBut N h b = f_Roa_reachedWithout N h b := by
  rw [rb_m hp hN, rw_c hp hN]
  refine congrArg some (congrArg nI ?_)
  refine rest_it (n := 8) (fun v hv => rnd_lt hp hv) (fun v _ p hv => rnd_gr hv) (by decide) 7 ?_
  have : cnt (Nat.testBit 1) 8 = 1 := by decide
  omega
def ctb (N : Nat) (h : mu_H) (i : Nat) (x : Int32) : Int32 := if f_Roa_reachedWithout N h (nI i) = f_Roa_reachedWithout N h (-1) then x else x ||| ((1 : Int32) <<< (nI i &&& 31))
theorem pp_cut {h : mu_H} {s u : Nat} (hp : Ipar h s u) {N : Nat} (hN : 100 ≤ N) : ∃ r, f_Owe_cut N h = some r ∧ f_Mod_cut N h = some r := by
  have hn := c_none (N := N) hp
  have hc := rw_c hp hN
  have hm := rb_c hp hN
  obtain ⟨h9, -, -, e3, -, e5, -⟩ := hp
  by_cases hs : s = 0
  · exact ⟨-1, by simp [f_Owe_cut, hn, hs], by rw [f_Mod_cut, e5, hs]; rfl⟩
  refine ⟨fold (ctb N h) 0 s, ?_, ?_⟩
  · simp only [f_Owe_cut, hn, bd_some, i10, hs, not_false_iff, if_true, f_Roa_bridges]
    have hcm := hc (-1)
    simp only [hcm, bd_some]
    rw [lp_fold' (k := some) (ctb N h) s ?_ ?_ 0 (by omega)]
    · rfl
    · intro i hi x rec
      simp (disch := omega) only [gd_t, bd_some, bn_eq, jn_eq, bi_some, if_pos, if_neg, i10, nI_lt_i, nI_le_i, nI_eq_i, ll_le, ll_lt, ll_eq, lr_le, lr_lt, lr_eq, ix_n, nI_clamp, nI_add, add_l, add_r, nI_mul, mul_l, mul_r, sub_n, sub_r, div_r, ite_some, f_Roa_bridges_L10, f_Par_stretches, e3, hc, ctb, Option.some.injEq]
      by_cases c : nI (Nat.repeat (rnd h (nI i) s) 7 1) = nI (Nat.repeat (rnd h (-1) s) 7 1) <;> simp [c]
    · intro x rec
      simp (disch := omega) only [gd_t, bd_some, bn_eq, jn_eq, bi_some, if_pos, if_neg, i10, nI_lt_i, nI_le_i, nI_eq_i, ll_le, ll_lt, ll_eq, lr_le, lr_lt, lr_eq, ix_n, nI_clamp, nI_add, add_l, add_r, nI_mul, mul_l, mul_r, sub_n, sub_r, div_r, ite_some, f_Roa_bridges_L10, f_Par_stretches, e3]
  · rw [f_Mod_cut, e5, if_neg (fun q => hs ((nI_z (show s < 2 ^ 31 by omega)).mp q))]
    refine lp_fold' (k := some) (ctb N h) s ?_ ?_ 0 (by omega)
    · intro i hi x rec
      simp (disch := omega) only [gd_t, bd_some, bn_eq, jn_eq, bi_some, if_pos, if_neg, i10, nI_lt_i, nI_le_i, nI_eq_i, ll_le, ll_lt, ll_eq, lr_le, lr_lt, lr_eq, ix_n, nI_clamp, nI_add, add_l, add_r, nI_mul, mul_l, mul_r, sub_n, sub_r, div_r, ite_some, f_Mod_cut_L13, e5, hm, hc, ctb, Option.some.injEq]
      by_cases c : nI (Nat.repeat (rnd h (nI i) s) 7 1) = nI (Nat.repeat (rnd h (-1) s) 7 1) <;> simp [c]
    · intro x rec
      simp (disch := omega) only [gd_t, bd_some, bn_eq, jn_eq, bi_some, if_pos, if_neg, i10, nI_lt_i, nI_le_i, nI_eq_i, ll_le, ll_lt, ll_eq, lr_le, lr_lt, lr_eq, ix_n, nI_clamp, nI_add, add_l, add_r, nI_mul, mul_l, mul_r, sub_n, sub_r, div_r, ite_some, f_Mod_cut_L13, e5]
