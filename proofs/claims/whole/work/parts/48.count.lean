/-! the state, as both hold it; count, log -/
def Ist (s u : Nat) (R L M : Nat → Int32) : Prop :=
  (∀ k, k ≤ 30 → R k = M k) ∧ R 32 = M 31 ∧ R 31 = M 32 ∧
  (∃ n, n ≤ 3999 ∧ R 31 = nI n ∧ R 33 = nI n ∧ M 33 = nI (min n 60) ∧ ∀ i, i < min n 60 → ∀ w, w < 3 → M (34 + 3 * (min n 60 - 1 - i) + w) = L ((n - 1 - i) % 100 * 3 + w)) ∧
  (∀ r, r < 9 → bN (R r) 99 ∧ bN (R (9 + r)) 9 ∧ (s ≤ r → R r = 0)) ∧
  (∀ a, a < 6 → bN (R (18 + a)) 9 ∧ bN (R (24 + a)) 999 ∧ (u ≤ a → R (18 + a) = 0 ∧ R (24 + a) = 0))
section Two
variable {ρ : Type}
theorem two_if {c : Prop} {d : Decidable c} {a b a' b' : Option ρ} (h1 : c → ∃ r, a = some r ∧ b = some r) (h2 : ¬ c → ∃ r, a' = some r ∧ b' = some r) : ∃ r, (@ite _ c d a a') = some r ∧ (@ite _ c d b b') = some r := by
  by_cases hc : c
  · simp only [if_pos hc]; exact h1 hc
  · simp only [if_neg hc]; exact h2 hc
theorem fold_tail {α : Type} {g : Nat → α → α} {a : α} {n m : Nat} (hnm : n ≤ m) (h : ∀ i, n ≤ i → i < m → ∀ x, g i x = x) : fold g a m = fold g a n := by
  induction m with
  | zero => rw [show n = 0 by omega]
  | succ m ih =>
    by_cases c : n = m + 1
    · rw [c]
    · simp only [fold]
      rw [h m (by omega) (by omega), ih (by omega) (fun i h1 h2 => h i h1 (by omega))]
end Two
def sm (f : Nat → Int32) (a : Nat) (i : Nat) (x : Int32) : Int32 := x + f (a + i)
theorem sum_c {N : Nat} {h : mu_H} {o a n : Nat} (hn : a + n ≤ 34) (hN : 100 ≤ N) : f_Sta_sum N h o (nI a) (nI n) = some (fold (sm (h.1 (o + 1)) a) 0 n) := by
  refine lp_fold' (k := some) (sm (h.1 (o + 1)) a) n ?_ ?_ 0 (by omega)
  · intro i hi x rec
    simp (disch := omega) only [gd_t, bd_some, bn_eq, jn_eq, bi_some, if_pos, if_neg, i10, nI_lt_i, nI_le_i, nI_eq_i, ll_le, ll_lt, ll_eq, lr_le, lr_lt, lr_eq, ix_n, nI_clamp, nI_add, add_l, add_r, nI_mul, mul_l, mul_r, sub_n, sub_r, div_r, ite_some, f_Sta_sum_L5, sm]
  · intro x rec
    simp (disch := omega) only [gd_t, bd_some, bn_eq, jn_eq, bi_some, if_pos, if_neg, i10, nI_lt_i, nI_le_i, nI_eq_i, ll_le, ll_lt, ll_eq, lr_le, lr_lt, lr_eq, ix_n, nI_clamp, nI_add, add_l, add_r, nI_mul, mul_l, mul_r, sub_n, sub_r, div_r, ite_some, f_Sta_sum_L5]
theorem sum_m {N : Nat} {h : mu_H} {a n : Nat} (hn : a + n ≤ 34) (hN : 100 ≤ N) : f_Mod_sumOf N h (nI a) (nI n) = some (fold (sm (h.1 68) a) 0 n) := by
  refine lp_fold' (k := some) (sm (h.1 68) a) n ?_ ?_ 0 (by omega)
  · intro i hi x rec
    simp (disch := omega) only [gd_t, bd_some, bn_eq, jn_eq, bi_some, if_pos, if_neg, i10, nI_lt_i, nI_le_i, nI_eq_i, ll_le, ll_lt, ll_eq, lr_le, lr_lt, lr_eq, ix_n, nI_clamp, nI_add, add_l, add_r, nI_mul, mul_l, mul_r, sub_n, sub_r, div_r, ite_some, f_Mod_sumOf_L5, sm]
  · intro x rec
    simp (disch := omega) only [gd_t, bd_some, bn_eq, jn_eq, bi_some, if_pos, if_neg, i10, nI_lt_i, nI_le_i, nI_eq_i, ll_le, ll_lt, ll_eq, lr_le, lr_lt, lr_eq, ix_n, nI_clamp, nI_add, add_l, add_r, nI_mul, mul_l, mul_r, sub_n, sub_r, div_r, ite_some, f_Mod_sumOf_L5]
theorem sum_b {N : Nat} {h : mu_H} {a n m : Nat} (hmn : m ≤ n) (hn : a + n ≤ 30) (hN : 100 ≤ N) (he : ∀ k, k ≤ 30 → h.1 15 k = h.1 68 k) (hz : ∀ i, m ≤ i → i < n → h.1 15 (a + i) = 0) : ∃ r, f_Sta_sum N h 14 (nI a) (nI n) = some r ∧ f_Mod_sumOf N h (nI a) (nI m) = some r := by
  refine ⟨_, sum_c (o := 14) (by omega) hN, ?_⟩
  rw [sum_m (by omega) hN, fold_tail hmn (fun i h1 h2 x => by show x + h.1 15 (a + i) = x; rw [hz i h1 h2]; exact Int32.add_zero x)]
  refine congrArg some (fold_eq (fun i hi x => ?_))
  show x + h.1 68 (a + i) = x + h.1 15 (a + i)
  rw [he (a + i) (by omega)]
theorem pp_count {h : mu_H} {s u m : Nat} (hp : Ipar h s u) (hS : Isee h m) (hst : Ist s u (h.1 15) (h.1 16) (h.1 68)) (hlaws : h.1 22 4 = h.1 51 13) (hhold : h.1 22 5 = h.1 51 29) (hsize : h.1 1 1 = h.1 51 2) (hpast : h.1 20 1 = h.1 51 32) {N : Nat} (hN : 100 ≤ N) (a1 : Int32) : ∃ r, f_Owe_count N h a1 = some r ∧ f_Mod_count N h a1 = some r := by
  obtain ⟨h9, h6, -, e3, e4, e5, e6, -⟩ := hp
  obtain ⟨hn, s1, s2, -⟩ := hS
  obtain ⟨q1, q2, q3, ⟨n, hn2, q4, q5, q6, q7⟩, q8, q9⟩ := hst
  simp only [f_Owe_count, f_Mod_count]
  refine two_if (fun _ => ⟨nI s, by simp (disch := omega) only [gd_t, bd_some, bn_eq, jn_eq, bi_some, if_pos, if_neg, i10, nI_lt_i, nI_le_i, nI_eq_i, ll_le, ll_lt, ll_eq, lr_le, lr_lt, lr_eq, ix_n, nI_clamp, nI_add, add_l, add_r, nI_mul, mul_l, mul_r, sub_n, sub_r, div_r, ite_some, f_Par_stretches, e3], by rw [e5]⟩) (fun _ => ?_)
  refine two_if (fun _ => ⟨nI u, by simp (disch := omega) only [gd_t, bd_some, bn_eq, jn_eq, bi_some, if_pos, if_neg, i10, nI_lt_i, nI_le_i, nI_eq_i, ll_le, ll_lt, ll_eq, lr_le, lr_lt, lr_eq, ix_n, nI_clamp, nI_add, add_l, add_r, nI_mul, mul_l, mul_r, sub_n, sub_r, div_r, ite_some, f_Par_houses, e4], by rw [e6]⟩) (fun _ => ?_)
  refine two_if (fun _ => ⟨_, rfl, by rw [← hlaws]⟩) (fun _ => ?_)
  refine two_if (fun _ => ⟨_, rfl, by rw [← hsize]⟩) (fun _ => ?_)
  refine two_if (fun _ => ⟨_, rfl, by rw [← hhold]⟩) (fun _ => ?_)
  refine two_if (fun _ => ⟨h.1 15 31, rfl, by rw [q3]; rfl⟩) (fun _ => ?_)
  refine two_if (fun _ => ⟨h.1 15 30, rfl, by rw [q1 30 (by decide)]; rfl⟩) (fun _ => ?_)
  refine two_if (fun _ => ?_) (fun _ => ?_)
  · obtain ⟨r, r1, r2⟩ := sum_b (N := N) (h := h) (a := 0) (n := 9) (m := s) h9 (by decide) hN q1 (fun i a b => by rw [Nat.zero_add]; exact (q8 i b).2.2 a)
    exact ⟨r, by rw [f_Sta_allWear, show f_Sta_sum N h 14 0 9 = some r from r1]; rfl, by rw [e5, show f_Mod_sumOf N h 0 (nI s) = some r from r2]; rfl⟩
  refine two_if (fun _ => ?_) (fun _ => ?_)
  · obtain ⟨r, r1, r2⟩ := sum_b (N := N) (h := h) (a := 18) (n := 6) (m := u) h6 (by decide) hN q1 (fun i a b => ((q9 i b).2.2 a).1)
    exact ⟨r, by rw [f_Sta_allOwed, show f_Sta_sum N h 14 18 6 = some r from r1]; rfl, by rw [e6, show f_Mod_sumOf N h 18 (nI u) = some r from r2]; rfl⟩
  refine two_if (fun _ => ?_) (fun _ => ?_)
  · obtain ⟨r, r1, r2⟩ := sum_b (N := N) (h := h) (a := 24) (n := 6) (m := u) h6 (by decide) hN q1 (fun i a b => ((q9 i b).2.2 a).2)
    exact ⟨r, by rw [f_Sta_allDebt, show f_Sta_sum N h 14 24 6 = some r from r1]; rfl, by rw [e6, show f_Mod_sumOf N h 24 (nI u) = some r from r2]; rfl⟩
  refine two_if (fun _ => ⟨h.1 15 32, rfl, by rw [q2]; rfl⟩) (fun _ => ?_)
  refine two_if (fun _ => ⟨nI m, by rw [f_Sig_size, s1]; rfl, by rw [s2]⟩) (fun _ => ?_)
  refine two_if (fun _ => ?_) (fun _ => ?_)
  · have z33 : ((33 : Int32).toNatClampNeg) = 33 := rfl
    have i33 : ix 33 34 = true := rfl
    have j33 : ix 33 214 = true := rfl
    refine ⟨nI (min n 60), ?_, ?_⟩
    · simp (disch := omega) only [gd_t, bd_some, bn_eq, jn_eq, bi_some, if_pos, if_neg, i10, nI_lt_i, nI_le_i, nI_eq_i, ll_le, ll_lt, ll_eq, lr_le, lr_lt, lr_eq, ix_n, nI_clamp, nI_add, add_l, add_r, nI_mul, mul_l, mul_r, sub_n, sub_r, div_r, ite_some, f_Sta_logLength, z33, i33, q5]
      by_cases c : 60 ≤ n
      · simp (disch := omega) only [gd_t, bd_some, bn_eq, jn_eq, bi_some, if_pos, if_neg, i10, nI_lt_i, nI_le_i, nI_eq_i, ll_le, ll_lt, ll_eq, lr_le, lr_lt, lr_eq, ix_n, nI_clamp, nI_add, add_l, add_r, nI_mul, mul_l, mul_r, sub_n, sub_r, div_r, ite_some, Nat.min_eq_right c]
        rfl
      · simp (disch := omega) only [gd_t, bd_some, bn_eq, jn_eq, bi_some, if_pos, if_neg, i10, nI_lt_i, nI_le_i, nI_eq_i, ll_le, ll_lt, ll_eq, lr_le, lr_lt, lr_eq, ix_n, nI_clamp, nI_add, add_l, add_r, nI_mul, mul_l, mul_r, sub_n, sub_r, div_r, ite_some, Nat.min_eq_left (show n ≤ 60 by omega)]
    · simp (disch := omega) only [gd_t, bd_some, bn_eq, jn_eq, bi_some, if_pos, if_neg, i10, nI_lt_i, nI_le_i, nI_eq_i, ll_le, ll_lt, ll_eq, lr_le, lr_lt, lr_eq, ix_n, nI_clamp, nI_add, add_l, add_r, nI_mul, mul_l, mul_r, sub_n, sub_r, div_r, ite_some, z33, j33, q6]
  refine two_if (fun _ => ⟨_, rfl, by rw [← hpast]⟩) (fun _ => ⟨_, rfl, rfl⟩)
