/-! log, cut, honest, best -/
theorem pp_log {h : mu_H} {s u : Nat} (hst : Ist s u (h.1 15) (h.1 16) (h.1 68)) {N : Nat} (a1 a2 : Int32) : ∃ r, f_Owe_log N h a1 a2 = some r ∧ f_Mod_log N h a1 a2 = some r := by
  obtain ⟨-, -, -, ⟨n, hn, -, q5, q6, q7⟩, -, -⟩ := hst
  have z33 : ((33 : Int32).toNatClampNeg) = 33 := rfl
  have i33 : ix 33 34 = true := rfl
  have j33 : ix 33 214 = true := rfl
  have hl : f_Sta_logLength N h 14 = some (nI (min n 60)) := by
    simp (disch := omega) only [gd_t, bd_some, bn_eq, jn_eq, bi_some, if_pos, if_neg, i10, nI_lt_i, nI_le_i, nI_eq_i, ll_le, ll_lt, ll_eq, lr_le, lr_lt, lr_eq, ix_n, nI_clamp, nI_add, add_l, add_r, nI_mul, mul_l, mul_r, sub_n, sub_r, div_r, ite_some, f_Sta_logLength, z33, i33, q5]
    by_cases c : 60 ≤ n
    · simp (disch := omega) only [gd_t, bd_some, bn_eq, jn_eq, bi_some, if_pos, if_neg, i10, nI_lt_i, nI_le_i, nI_eq_i, ll_le, ll_lt, ll_eq, lr_le, lr_lt, lr_eq, ix_n, nI_clamp, nI_add, add_l, add_r, nI_mul, mul_l, mul_r, sub_n, sub_r, div_r, ite_some, Nat.min_eq_right c]
      rfl
    · simp (disch := omega) only [gd_t, bd_some, bn_eq, jn_eq, bi_some, if_pos, if_neg, i10, nI_lt_i, nI_le_i, nI_eq_i, ll_le, ll_lt, ll_eq, lr_le, lr_lt, lr_eq, ix_n, nI_clamp, nI_add, add_l, add_r, nI_mul, mul_l, mul_r, sub_n, sub_r, div_r, ite_some, Nat.min_eq_left (show n ≤ 60 by omega)]
  have hm := m_in (N := N) (h := h) (n := min n 60) (by omega) a1
  simp only [f_Owe_log, f_Mod_log, f_Sta_logged, hl, bd_some, z33, i33, j33, gd_t, q5, q6, hm, i10]
  rcases i_in a1 (min n 60) (by omega) with ⟨h1, h2⟩ | ⟨i, hi, rfl⟩ | ⟨h1, h2, h3⟩
  · exact ⟨-1, by simp [h1], by simp [h2]⟩
  · have e0 : ¬ nI i < 0 := nI_pos (by omega)
    have e1 : (0 : Int32) ≤ nI i := nI_pos' (by omega)
    have e2 : nI i < nI (min n 60) := nI_lt hi (by omega)
    have e3 : ¬ nI (min n 60) ≤ nI i := nle_lt.mpr e2
    simp only [if_neg e0, e1, e2, if_neg e3, and_self, not_true, if_false]
    rcases i_in a2 3 (by decide) with ⟨h1, h2⟩ | ⟨w, hw, rfl⟩ | ⟨h1, h2, h3⟩
    · exact ⟨-1, by simp [h1], by simp [f_Mod_in, h1]⟩
    · refine ⟨h.1 16 ((n - 1 - i) % 100 * 3 + w), ?_, ?_⟩
      · have hx : (n - 1 - i) - (n - 1 - i) / 100 * 100 = (n - 1 - i) % 100 := by omega
        simp (disch := omega) only [gd_t, bd_some, bn_eq, jn_eq, bi_some, if_pos, if_neg, i10, nI_lt_i, nI_le_i, nI_eq_i, ll_le, ll_lt, ll_eq, lr_le, lr_lt, lr_eq, ix_n, nI_clamp, nI_add, add_l, add_r, nI_mul, mul_l, mul_r, sub_n, sub_r, div_r, ite_some, hx]
      · simp (disch := omega) only [gd_t, bd_some, bn_eq, jn_eq, bi_some, if_pos, if_neg, i10, nI_lt_i, nI_le_i, nI_eq_i, ll_le, ll_lt, ll_eq, lr_le, lr_lt, lr_eq, ix_n, nI_clamp, nI_add, add_l, add_r, nI_mul, mul_l, mul_r, sub_n, sub_r, div_r, ite_some, f_Mod_in]
        simp only [show ¬ (1 : Int32) = 0 from by decide, if_false, q7 i hi w hw]
    · have h4 : (2 : Int32) < a2 := by
        have b := Int32.le_iff_toInt_le.mp h1
        apply Int32.lt_iff_toInt_lt.mpr
        have c : (2 : Int32).toInt = 2 := rfl
        have d : (nI 3).toInt = 3 := rfl
        omega
      have h5 : ¬ a2 < 3 := h3
      exact ⟨-1, by simp [h2, h5], by simp [f_Mod_in, h2, h4]⟩
  · exact ⟨-1, by simp [h1, h2], by simp [h3]⟩
