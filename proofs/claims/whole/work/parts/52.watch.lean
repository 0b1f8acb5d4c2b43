/-! honest, best -/
def ft (N : Nat) (h : mu_H) (k : Int32) (t : Nat) : Bool := decide (f_Sig_fits N h (nI t) k = some 1)
theorem ft_c {h : mu_H} {n : Nat} (hs : Isee h n) {N : Nat} (hN : 20 ≤ N) (k : Int32) (t : Nat) : f_Sig_fits N h (nI t) k = some (if ft N h k t = true then 1 else 0) ∧ f_Mod_isFeigned N h k (nI t) = some (if ft N h k t = true then 1 else 0) := by
  rcases fits_b hs hN (nI t) k with ⟨a, b⟩ | ⟨a, b⟩
  · simp [ft, a, b]
  · simp [ft, a, b]
theorem fit_n {h : mu_H} {s u n : Nat} (hp : Ipar h s u) (hs : Isee h n) {N : Nat} (hN : 100 ≤ N) (k : Int32) : f_Sig_fitting N h k = some (nI (cnt (ft N h k) (2 ^ u))) := by
  have hall := allS (N := N) hp
  have hw := pw_u hp.2.1
  have hf := fun t => (ft_c hs (show 20 ≤ N by omega) k t).1
  generalize 2 ^ u = w at hall hw
  have key := lp_end (body := f_Sig_fitting_L4 N h k) (fun i => (nI (cnt (ft N h k) i), nI i)) w (v := some (nI (cnt (ft N h k) w))) ?_ ?_ (f := N) (by omega)
  · exact key
  · intro i hi rec
    have := cnt_le (ft N h k) i
    simp (disch := omega) only [gd_t, bd_some, bn_eq, jn_eq, bi_some, if_pos, if_neg, i10, nI_lt_i, nI_le_i, nI_eq_i, ll_le, ll_lt, ll_eq, lr_le, lr_lt, lr_eq, ix_n, nI_clamp, nI_add, add_l, add_r, nI_mul, mul_l, mul_r, sub_n, sub_r, div_r, ite_some, f_Sig_fitting_L4, hall, hf, cnt_s]
    by_cases c : ft N h k i = true <;> simp [c]
  · intro rec
    simp (disch := omega) only [gd_t, bd_some, bn_eq, jn_eq, bi_some, if_pos, if_neg, i10, nI_lt_i, nI_le_i, nI_eq_i, ll_le, ll_lt, ll_eq, lr_le, lr_lt, lr_eq, ix_n, nI_clamp, nI_add, add_l, add_r, nI_mul, mul_l, mul_r, sub_n, sub_r, div_r, ite_some, f_Sig_fitting_L4, hall]
theorem feig_0 {h : mu_H} {s u n : Nat} (hp : Ipar h s u) (hs : Isee h n) {N : Nat} (hN : 100 ≤ N) (k : Int32) (hk : f_Mod_areFeigning N h k = some 1) : ∃ r, f_Mod_feigned N h k 0 = some r ∧ ((r = -1) = (cnt (ft N h k) (2 ^ u) = 0)) := by
  have hw := pw_u hp.2.1
  have hf := fun t => (ft_c hs (show 20 ≤ N by omega) k t).2
  have hsh : (1 : Int32) <<< (h.1 51 26 &&& 31) = nI (2 ^ u) := by rw [hp.2.2.2.2.2.2.1]; exact sh_u hp.2.1
  generalize 2 ^ u = w at hw hsh
  have h10 : ¬ (1 : Int32) = 0 := by decide
  have c1 : ¬ (0 : Int32) = -1 := by decide
  have key : ∀ m j, j ≤ w → w - j < m → (∀ p, p < j → ¬ ft N h k p = true) → ∃ r, lp (f_Mod_feigned_L20 N h k 0 (fun x3 => if (0 : Int32) = -1 then some x3 else some (-1))) m (0, nI j) = some r ∧ ((r = -1) = (cnt (ft N h k) w = 0)) := by
    intro m
    induction m with
    | zero => intro j _ h; omega
    | succ m ih =>
      intro j hj hm hno
      show ∃ r, f_Mod_feigned_L20 N h k 0 (fun x3 => if (0 : Int32) = -1 then some x3 else some (-1)) (lp (f_Mod_feigned_L20 N h k 0 (fun x3 => if (0 : Int32) = -1 then some x3 else some (-1))) m) (0, nI j) = some r ∧ _
      simp only [f_Mod_feigned_L20, hsh]
      by_cases c : w ≤ j
      · simp (disch := omega) only [gd_t, bd_some, bn_eq, jn_eq, bi_some, if_pos, if_neg, i10, nI_lt_i, nI_le_i, nI_eq_i, ll_le, ll_lt, ll_eq, lr_le, lr_lt, lr_eq, ix_n, nI_clamp, nI_add, add_l, add_r, nI_mul, mul_l, mul_r, sub_n, sub_r, div_r, ite_some, c1]
        refine ⟨-1, rfl, ?_⟩
        rw [show j = w by omega] at hno
        simp [(cnt_0 w).mpr hno]
      · simp (disch := omega) only [gd_t, bd_some, bn_eq, jn_eq, bi_some, if_pos, if_neg, i10, nI_lt_i, nI_le_i, nI_eq_i, ll_le, ll_lt, ll_eq, lr_le, lr_lt, lr_eq, ix_n, nI_clamp, nI_add, add_l, add_r, nI_mul, mul_l, mul_r, sub_n, sub_r, div_r, ite_some, hf]
        by_cases d : ft N h k j = true
        · simp only [d, not_true, if_false]
          refine ⟨nI j, rfl, ?_⟩
          rw [neg1 (by omega), (eq_false (fun q => (cnt_0 w).mp q j (by omega) d))]
        · simp only [d, not_false_iff, if_true]
          refine ih (j + 1) (by omega) (by omega) (fun p hp => ?_)
          by_cases e : p = j
          · rw [e]; exact d
          · exact hno p (by omega)
  obtain ⟨r, h1, h2⟩ := key N 0 (by omega) (by omega) (fun p hp => by omega)
  refine ⟨r, ?_, h2⟩
  simp only [f_Mod_feigned, hk, bd_some, if_neg h10, if_pos (show (-1 : Int32) ≤ 0 by decide), jn_eq]
  exact h1
def hon (N : Nat) (h : mu_H) (k : Int32) (t : Nat) (x : Int32) : Int32 := if ft N h k t = true then x ||| nI t else x
theorem pp_honest {h : mu_H} {s u n : Nat} (hp : Ipar h s u) (hs : Isee h n) {N : Nat} (hN : 100 ≤ N) (k : Int32) : ∃ r, f_Owe_honest N h k = some r ∧ f_Mod_honest N h k = some r := by
  have h10 : ¬ (1 : Int32) = 0 := by decide
  rcases (ask_b (N := N) hp k).symm with ⟨k1, k2⟩ | ⟨k1, k2⟩
  · exact ⟨-1, by simp [f_Owe_honest, k1], by simp [f_Mod_honest, k2]⟩
  have hfn := fit_n hp hs hN k
  obtain ⟨z, hz1, hz2⟩ := feig_0 hp hs hN k k2
  have hall := allS (N := N) hp
  have hw := pw_u hp.2.1
  have hsh : (1 : Int32) <<< (h.1 51 26 &&& 31) = nI (2 ^ u) := by rw [hp.2.2.2.2.2.2.1]; exact sh_u hp.2.1
  have hf := fun t => (ft_c hs (show 20 ≤ N by omega) k t).1
  have hf2 := fun t => (ft_c hs (show 20 ≤ N by omega) k t).2
  generalize 2 ^ u = w at hall hw hfn hz2 hsh
  have hcw := cnt_le (ft N h k) w
  by_cases c0 : cnt (ft N h k) w = 0
  · refine ⟨-1, ?_, ?_⟩
    · simp (disch := omega) only [gd_t, bd_some, bn_eq, jn_eq, bi_some, if_pos, if_neg, i10, nI_lt_i, nI_le_i, nI_eq_i, ll_le, ll_lt, ll_eq, lr_le, lr_lt, lr_eq, ix_n, nI_clamp, nI_add, add_l, add_r, nI_mul, mul_l, mul_r, sub_n, sub_r, div_r, ite_some, f_Owe_honest, k1, h10, hfn, c0]
      rfl
    · simp only [f_Mod_honest, k2, bd_some, if_neg h10, hz1, hz2, c0, if_true]
  refine ⟨(nI w - 1) &&& (fold (hon N h k) 0 w ^^^ (-1)), ?_, ?_⟩
  · simp (disch := omega) only [gd_t, bd_some, bn_eq, jn_eq, bi_some, if_pos, if_neg, i10, nI_lt_i, nI_le_i, nI_eq_i, ll_le, ll_lt, ll_eq, lr_le, lr_lt, lr_eq, ix_n, nI_clamp, nI_add, add_l, add_r, nI_mul, mul_l, mul_r, sub_n, sub_r, div_r, ite_some, f_Owe_honest, k1, h10, hfn, f_Sig_inNone]
    have hc0 : ¬ cnt (ft N h k) w = 0 := c0
    simp only [hc0, if_false]
    rw [lp_fold' (k := fun x2 => (f_Sig_allSets N h).bind fun x3 => some ((x3 - 1) &&& (x2 ^^^ (-1)))) (hon N h k) w ?_ ?_ 0 (by omega)]
    · simp only [hall, bd_some]
      rw [show nI w - 1 = nI (w - 1) from sub_r (m := 1) (show 1 ≤ w by omega) (by omega)]
    · intro i hi x rec
      simp (disch := omega) only [gd_t, bd_some, bn_eq, jn_eq, bi_some, if_pos, if_neg, i10, nI_lt_i, nI_le_i, nI_eq_i, ll_le, ll_lt, ll_eq, lr_le, lr_lt, lr_eq, ix_n, nI_clamp, nI_add, add_l, add_r, nI_mul, mul_l, mul_r, sub_n, sub_r, div_r, ite_some, f_Sig_inNone_L4, hall, hf, hon]
      by_cases c : ft N h k i = true <;> simp [c]
    · intro x rec
      simp (disch := omega) only [gd_t, bd_some, bn_eq, jn_eq, bi_some, if_pos, if_neg, i10, nI_lt_i, nI_le_i, nI_eq_i, ll_le, ll_lt, ll_eq, lr_le, lr_lt, lr_eq, ix_n, nI_clamp, nI_add, add_l, add_r, nI_mul, mul_l, mul_r, sub_n, sub_r, div_r, ite_some, f_Sig_inNone_L4, hall]
  · simp only [f_Mod_honest, k2, bd_some, if_neg h10, hz1, hz2, c0, if_false, jn_eq]
    refine lp_fold' (k := fun x4 => some ((((1 : Int32) <<< ((h.1 51 26) &&& 31)) - 1) &&& (x4 ^^^ (-1)))) (hon N h k) w ?_ ?_ 0 (by omega) |>.trans ?_
    · intro i hi x rec
      simp (disch := omega) only [gd_t, bd_some, bn_eq, jn_eq, bi_some, if_pos, if_neg, i10, nI_lt_i, nI_le_i, nI_eq_i, ll_le, ll_lt, ll_eq, lr_le, lr_lt, lr_eq, ix_n, nI_clamp, nI_add, add_l, add_r, nI_mul, mul_l, mul_r, sub_n, sub_r, div_r, ite_some, f_Mod_honest_L24, hsh, hf2, hon, or0]
      by_cases c : ft N h k i = true <;> simp [c]
    · intro x rec
      simp (disch := omega) only [gd_t, bd_some, bn_eq, jn_eq, bi_some, if_pos, if_neg, i10, nI_lt_i, nI_le_i, nI_eq_i, ll_le, ll_lt, ll_eq, lr_le, lr_lt, lr_eq, ix_n, nI_clamp, nI_add, add_l, add_r, nI_mul, mul_l, mul_r, sub_n, sub_r, div_r, ite_some, f_Mod_honest_L24, hsh]
    · simp only [hsh]
/-- the yeses and the noes of a house -/
def ys (N : Nat) (h : mu_H) (k : Int32) (a t : Nat) : Bool := t.testBit a && ft N h k t
def ns (N : Nat) (h : mu_H) (k : Int32) (a t : Nat) : Bool := !t.testBit a && ft N h k t
theorem yn (N : Nat) (h : mu_H) (k : Int32) (a w : Nat) : cnt (ys N h k a) w + cnt (ns N h k a) w = cnt (ft N h k) w := by
  induction w with
  | zero => rfl
  | succ w ih =>
    rw [cnt_s, cnt_s, cnt_s]
    cases e1 : w.testBit a <;> cases e2 : ft N h k w <;> simp [ys, ns, e1, e2] <;> omega
def dab (a b : Nat) : Nat := a - b + (b - a)
theorem mabs_d {a b : Nat} (ha : a < 1000) (hb : b < 1000) : z_mabs (nI a - nI b) = nI (dab a b) := by
  have e : (nI a - nI b).toInt = (a : Int) - b := pk_sub_toInt (by omega) (by omega)
  have z : (0 : Int32).toInt = 0 := rfl
  rw [z_mabs]
  by_cases c : b ≤ a
  · rw [if_pos (Int32.le_iff_toInt_le.mpr (by omega)), sub_n c (by omega), dab, show a - b + (b - a) = a - b by omega]
  · rw [if_neg (fun q => by have := Int32.le_iff_toInt_le.mp q; omega), dab, show a - b + (b - a) = b - a by omega, ← sub_n (show a ≤ b by omega) (by omega)]
    rw [Int32.zero_sub, Int32.neg_sub]
def apn (N : Nat) (h : mu_H) (k : Int32) (w a : Nat) : Nat := dab (cnt (ys N h k a) w) (cnt (ns N h k a) w)
theorem apart_c {h : mu_H} {s u n : Nat} (hp : Ipar h s u) (hs : Isee h n) {N : Nat} (hN : 100 ≤ N) (k : Int32) {a : Nat} (ha : a < 9) : f_Sig_apart N h (nI a) k (nI (cnt (ft N h k) (2 ^ u))) = some (nI (apn N h k (2 ^ u) a)) := by
  have hall := allS (N := N) hp
  have hw := pw_u hp.2.1
  have hf := fun t => (ft_c hs (show 20 ≤ N by omega) k t).1
  generalize 2 ^ u = w at hall hw
  have hyn := yn N h k a w
  have hcw := cnt_le (ft N h k) w
  have key := lp_end (body := f_Sig_apart_L6 N h (nI a) k (fun x2 => some (z_mabs (nI (cnt (ft N h k) w) - (2 * x2))))) (fun i => (nI (cnt (ys N h k a) i), nI i)) w (v := some (nI (apn N h k w a))) ?_ ?_ (f := N) (by omega)
  · exact key
  · intro i hi rec
    have := cnt_le (ys N h k a) i
    simp (disch := omega) only [gd_t, bd_some, bn_eq, jn_eq, bi_some, if_pos, if_neg, i10, nI_lt_i, nI_le_i, nI_eq_i, ll_le, ll_lt, ll_eq, lr_le, lr_lt, lr_eq, ix_n, nI_clamp, nI_add, add_l, add_r, nI_mul, mul_l, mul_r, sub_n, sub_r, div_r, ite_some, f_Sig_apart_L6, hall, hf, cnt_s, sr_0]
    cases e1 : i.testBit a <;> cases e2 : ft N h k i <;> simp [ys, e1, e2]
  · intro rec
    simp (disch := omega) only [gd_t, bd_some, bn_eq, jn_eq, bi_some, if_pos, if_neg, i10, nI_lt_i, nI_le_i, nI_eq_i, ll_le, ll_lt, ll_eq, lr_le, lr_lt, lr_eq, ix_n, nI_clamp, nI_add, add_l, add_r, nI_mul, mul_l, mul_r, sub_n, sub_r, div_r, ite_some, f_Sig_apart_L6, hall]
    rw [mabs_d (by omega) (by omega), apn, dab, dab]
    refine congrArg some (congrArg nI ?_)
    omega
theorem best_v {h : mu_H} {s u n : Nat} (hp : Ipar h s u) (hs : Isee h n) {N : Nat} (hN : 100 ≤ N) (k : Int32) {a : Nat} (ha : a < 9) (K : Int32 → Option Int32) : lp (f_Mod_best_L42 N h k (nI a) K) N (0, 0) = K (nI (cnt (ys N h k a) (2 ^ u)) - nI (cnt (ns N h k a) (2 ^ u))) := by
  have hw := pw_u hp.2.1
  have hf := fun t => (ft_c hs (show 20 ≤ N by omega) k t).2
  have hsh : (1 : Int32) <<< (h.1 51 26 &&& 31) = nI (2 ^ u) := by rw [hp.2.2.2.2.2.2.1]; exact sh_u hp.2.1
  generalize 2 ^ u = w at hw hsh
  have key := lp_end (body := f_Mod_best_L42 N h k (nI a) K) (fun i => (nI (cnt (ys N h k a) i) - nI (cnt (ns N h k a) i), nI i)) w (v := K (nI (cnt (ys N h k a) w) - nI (cnt (ns N h k a) w))) ?_ ?_ (f := N) (by omega)
  · rw [show cnt (ys N h k a) 0 = 0 from rfl, show cnt (ns N h k a) 0 = 0 from rfl, show nI 0 - nI 0 = (0 : Int32) from by decide] at key
    exact key
  · intro i hi rec
    have h1 := cnt_le (ys N h k a) i
    have h2 := cnt_le (ns N h k a) i
    simp (disch := omega) only [gd_t, bd_some, bn_eq, jn_eq, bi_some, if_pos, if_neg, i10, nI_lt_i, nI_le_i, nI_eq_i, ll_le, ll_lt, ll_eq, lr_le, lr_lt, lr_eq, ix_n, nI_clamp, nI_add, add_l, add_r, nI_mul, mul_l, mul_r, sub_n, sub_r, div_r, ite_some, f_Mod_best_L42, hsh, hf, cnt_s, f_Mod_has, sr_1]
    have b1 : nI (cnt (ys N h k a) i) - nI (cnt (ns N h k a) i) + 1 = nI (cnt (ys N h k a) i + 1) - nI (cnt (ns N h k a) i) := by
      rw [← nI_1, Int32.sub_eq_add_neg, Int32.sub_eq_add_neg, Int32.add_assoc, Int32.add_assoc, Int32.add_comm (-_) 1]
    have b2 : nI (cnt (ys N h k a) i) - nI (cnt (ns N h k a) i) + -1 = nI (cnt (ys N h k a) i) - nI (cnt (ns N h k a) i + 1) := by
      rw [← nI_1, Int32.sub_eq_add_neg, Int32.sub_eq_add_neg, Int32.add_assoc, Int32.neg_add, Int32.sub_eq_add_neg]
    cases e1 : i.testBit a <;> cases e2 : ft N h k i <;> simp [ys, ns, e1, e2, b1, b2]
  · intro rec
    simp (disch := omega) only [gd_t, bd_some, bn_eq, jn_eq, bi_some, if_pos, if_neg, i10, nI_lt_i, nI_le_i, nI_eq_i, ll_le, ll_lt, ll_eq, lr_le, lr_lt, lr_eq, ix_n, nI_clamp, nI_add, add_l, add_r, nI_mul, mul_l, mul_r, sub_n, sub_r, div_r, ite_some, f_Mod_best_L42, hsh]
theorem pp_best {h : mu_H} {s u n : Nat} (hp : Ipar h s u) (hs : Isee h n) {N : Nat} (hN : 100 ≤ N) (k : Int32) : ∃ r, f_Owe_best N h k = some r ∧ f_Mod_best N h k = some r := by
  have h10 : ¬ (1 : Int32) = 0 := by decide
  have hu0 : ¬ s = 0 → ¬ u = 0 := fun q q2 => q (hp.2.2.1.mpr q2)
  have hn := c_none (N := N) hp
  rcases (ask_b (N := N) hp k).symm with ⟨k1, k2⟩ | ⟨k1, k2⟩
  · exact ⟨-1, by simp [f_Owe_best, k1], by simp [f_Mod_best, k2]⟩
  have hsn : ¬ s = 0 := fun q => by
    simp [f_Sig_canAsk, hn, q] at k1
  have hu := hu0 hsn
  have hfn := fit_n hp hs hN k
  obtain ⟨z, hz1, hz2⟩ := feig_0 hp hs hN k k2
  have hap := fun a (ha : a < 9) => apart_c hp hs hN k ha
  have hbv := fun a (ha : a < 9) K => best_v hp hs hN k ha K
  have hw := pw_u hp.2.1
  have h6 := hp.2.1
  have e4 := hp.2.2.2.2.1
  have e6 := hp.2.2.2.2.2.2.1
  generalize hwv : 2 ^ u = w at hw hfn hz2 hap hbv
  have hcw := cnt_le (ft N h k) w
  have hd : ∀ a, apn N h k w a ≤ 64 := by
    intro a
    have := yn N h k a w
    rw [apn, dab]; omega
  by_cases c0 : cnt (ft N h k) w = 0
  · refine ⟨-1, ?_, ?_⟩
    · simp (disch := omega) only [gd_t, bd_some, bn_eq, jn_eq, bi_some, if_pos, if_neg, i10, nI_lt_i, nI_le_i, nI_eq_i, ll_le, ll_lt, ll_eq, lr_le, lr_lt, lr_eq, ix_n, nI_clamp, nI_add, add_l, add_r, nI_mul, mul_l, mul_r, sub_n, sub_r, div_r, ite_some, f_Owe_best, k1, h10, hfn, c0]
      rfl
    · simp only [f_Mod_best, k2, bd_some, if_neg h10, hz1, hz2, c0, if_true]
  obtain ⟨g, hg⟩ : ∃ g : Nat → Nat, g = fun i => fold (fun i x => if apn N h k w x ≤ apn N h k w (i + 1) then x else i + 1) 0 i := ⟨_, rfl⟩
  have g0 : g 0 = 0 := by rw [hg]; rfl
  have g1 : ∀ i, g (i + 1) = if apn N h k w (g i) ≤ apn N h k w (i + 1) then g i else i + 1 := by intro i; rw [hg]; rfl
  have gl : ∀ i, g i ≤ i := by
    intro i
    induction i with
    | zero => rw [g0]; exact Nat.le_refl 0
    | succ i ih =>
      rw [g1]
      split <;> omega
  refine ⟨nI (g (u - 1)), ?_, ?_⟩
  · simp (disch := omega) only [gd_t, bd_some, bn_eq, jn_eq, bi_some, if_pos, if_neg, i10, nI_lt_i, nI_le_i, nI_eq_i, ll_le, ll_lt, ll_eq, lr_le, lr_lt, lr_eq, ix_n, nI_clamp, nI_add, add_l, add_r, nI_mul, mul_l, mul_r, sub_n, sub_r, div_r, ite_some, f_Owe_best, k1, h10, hfn, f_Sig_toWatch, c0]
    rw [show lp (f_Sig_toWatch_L11 N h k (nI (cnt (ft N h k) w))) N ((0 : Int32), (1 : Int32)) = some (nI (g (u - 1))) from ?_]
    · rfl
    refine lp_end (fun i => (nI (g i), nI (i + 1))) (u - 1) ?_ ?_ (show u - 1 < N by omega) |> fun q => by rw [show ((0 : Int32), (1 : Int32)) = (nI (g 0), nI (0 + 1)) from by rw [g0]; rfl]; exact q
    · intro i hi rec
      have := gl i
      have d1 := hd (g i)
      have d2 := hd (i + 1)
      simp (disch := omega) only [gd_t, bd_some, bn_eq, jn_eq, bi_some, if_pos, if_neg, i10, nI_lt_i, nI_le_i, nI_eq_i, ll_le, ll_lt, ll_eq, lr_le, lr_lt, lr_eq, ix_n, nI_clamp, nI_add, add_l, add_r, nI_mul, mul_l, mul_r, sub_n, sub_r, div_r, ite_some, f_Sig_toWatch_L11, f_Par_houses, e4, hap, g1]
      by_cases c : apn N h k w (g i) ≤ apn N h k w (i + 1) <;> simp [c]
    · intro rec
      simp (disch := omega) only [gd_t, bd_some, bn_eq, jn_eq, bi_some, if_pos, if_neg, i10, nI_lt_i, nI_le_i, nI_eq_i, ll_le, ll_lt, ll_eq, lr_le, lr_lt, lr_eq, ix_n, nI_clamp, nI_add, add_l, add_r, nI_mul, mul_l, mul_r, sub_n, sub_r, div_r, ite_some, f_Sig_toWatch_L11, f_Par_houses, e4]
  · simp only [f_Mod_best, k2, bd_some, if_neg h10, hz1, hz2, c0, if_false]
    obtain ⟨f, rfl⟩ : ∃ f, N = f + 1 := ⟨N - 1, by omega⟩
    have hab : ∀ a, z_mabs (nI (cnt (ys (f + 1) h k a) w) - nI (cnt (ns (f + 1) h k a) w)) = nI (apn (f + 1) h k w a) := by
      intro a
      have := yn (f + 1) h k a w
      rw [mabs_d (by omega) (by omega), apn]
    have hb0 := hbv 0 (by omega)
    rw [show lp (f_Mod_best_L27 (f + 1) h k) (f + 1) ((-1 : Int32), (0 : Int32), (0 : Int32)) = lp (f_Mod_best_L27 (f + 1) h k) f ((0 : Int32), nI (apn (f + 1) h k w 0), (1 : Int32)) from by
      show f_Mod_best_L27 (f + 1) h k (lp (f_Mod_best_L27 (f + 1) h k) f) ((-1 : Int32), (0 : Int32), (0 : Int32)) = _
      simp only [f_Mod_best_L27, e6, jn_eq]
      rw [if_neg (fun q => hu ((nI_le0 (show u < 2 ^ 31 by omega)).mp q))]
      rw [show (0 : Int32) = nI 0 from rfl, show (f_Mod_best_L42 (f + 1) h k (nI 0)) = (f_Mod_best_L42 (f + 1) h k (nI 0)) from rfl]
      rw [show ((nI 0, nI 0) : Int32 × Int32) = ((0 : Int32), (0 : Int32)) from rfl, hb0]
      simp only [hab, bn_eq, if_true]
      rfl]
    have key := lp_end (body := f_Mod_best_L27 (f + 1) h k) (fun i => (nI (g i), nI (apn (f + 1) h k w (g i)), nI (i + 1))) (u - 1) (v := some (nI (g (u - 1)))) ?_ ?_ (f := f) (by omega)
    · rw [g0] at key; exact key
    · intro i hi rec
      have := gl i
      have d1 := hd (g i)
      have d2 := hd (i + 1)
      have hbi := hbv (i + 1) (by omega)
      simp only [f_Mod_best_L27, e6, jn_eq]
      rw [hbi]
      simp (disch := omega) only [gd_t, bd_some, bn_eq, jn_eq, bi_some, if_pos, if_neg, i10, nI_lt_i, nI_le_i, nI_eq_i, ll_le, ll_lt, ll_eq, lr_le, lr_lt, lr_eq, ix_n, nI_clamp, nI_add, add_l, add_r, nI_mul, mul_l, mul_r, sub_n, sub_r, div_r, ite_some, hab, neg1, g1]
      by_cases c : apn (f + 1) h k w (g i) ≤ apn (f + 1) h k w (i + 1) <;> simp [c]
    · intro rec
      simp (disch := omega) only [gd_t, bd_some, bn_eq, jn_eq, bi_some, if_pos, if_neg, i10, nI_lt_i, nI_le_i, nI_eq_i, ll_le, ll_lt, ll_eq, lr_le, lr_lt, lr_eq, ix_n, nI_clamp, nI_add, add_l, add_r, nI_mul, mul_l, mul_r, sub_n, sub_r, div_r, ite_some, f_Mod_best_L27, e6]
