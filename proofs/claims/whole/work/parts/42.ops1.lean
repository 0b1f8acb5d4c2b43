/-! rule, stretch, haul -/
theorem nI_z {n : Nat} (hn : n < 2 ^ 31) : nI n = 0 ↔ n = 0 := nI_eq (b := 0) hn (by decide)
theorem nI_le0 {n : Nat} (hn : n < 2 ^ 31) : nI n ≤ 0 ↔ n = 0 := by
  have h := nI_leI (b := 0) hn (show (0 : Nat) < 2 ^ 31 by decide)
  rw [show nI 0 = (0 : Int32) from rfl] at h
  rw [h]; omega
theorem c_none {N s u : Nat} {h : mu_H} (hp : Ipar h s u) : f_Par_isNone N h 3 = some (if s = 0 then 1 else 0) := by
  obtain ⟨h9, -, -, e, -⟩ := hp
  simp only [f_Par_isNone, e, nI_z (show s < 2 ^ 31 by omega)]
  by_cases hs : s = 0 <;> simp [hs]
theorem pp_rule {h : mu_H} {s u : Nat} (hp : Ipar h s u) (N : Nat) (a1 : Int32) : ∃ r, f_Owe_rule N h a1 = some r ∧ f_Mod_rule N h a1 = some r := by
  have hn := c_none (N := N) hp
  obtain ⟨h9, -, -, -, -, e5, -, hr, -⟩ := hp
  have hz := nI_le0 (show s < 2 ^ 31 by omega)
  by_cases hs : s = 0
  · exact ⟨-1, by simp [f_Owe_rule, hn, hs], by rw [f_Mod_rule, e5, if_pos (hz.mpr hs)]⟩
  · obtain ⟨hr, -⟩ := hr (by omega)
    rcases i_in a1 3 (by decide) with ⟨h1, h2⟩ | ⟨j, hj, rfl⟩ | ⟨h1, h2, h3⟩
    · exact ⟨-1, by simp [f_Owe_rule, hn, hs, h1], by simp [f_Mod_rule, e5, hz, hs, f_Mod_in, h1]⟩
    · have q1 : ¬ nI j < 0 := nI_pos (by omega)
      have q2 : nI j ≤ 2 := nI_le (b := 2) (by omega) (by decide)
      have q3 : ¬ (2 : Int32) < nI j := nI_nlt (a := 2) (by omega) (by decide)
      have q4 : ix (nI j) 3 = true := ix_nI hj (by decide)
      have q5 : ix (nI j) 80 = true := ix_nI (by omega) (by decide)
      have q6 := nI_clamp (show j < 2 ^ 31 by omega)
      exact ⟨h.1 4 j, by simp [f_Owe_rule, hn, hs, q1, q2, f_Par_ofRules, q5, gd_t, q6], by simp [f_Mod_rule, e5, hz, hs, f_Mod_in, q1, q3, q4, gd_t, q6, (hr j hj).1]⟩
    · have q1 : ¬ a1 ≤ 2 := by
        rw [nle_lt, Int32.lt_iff_toInt_lt]
        have b := Int32.le_iff_toInt_le.mp h1
        have c : (2 : Int32).toInt = 2 := rfl
        have d : (nI 3).toInt = 3 := rfl
        omega
      exact ⟨-1, by simp [f_Owe_rule, hn, hs, h2, q1], by simp [f_Mod_rule, e5, hz, hs, f_Mod_in, h2, nle_lt.mp q1]⟩
theorem add0 (x : Int32) : 0 + x = x := Int32.zero_add x
theorem pp_stretch {h : mu_H} {s u : Nat} (hp : Ipar h s u) (hw : ∀ k, k ≤ 30 → h.1 15 k = h.1 68 k) (N : Nat) (a1 a2 : Int32) : ∃ r, f_Owe_stretch N h a1 a2 = some r ∧ f_Mod_stretch N h a1 a2 = some r := by
  obtain ⟨h9, -, -, e3, -, e5, -, -, hr, -⟩ := hp
  have k1 := c_isS (N := N) (o := 3) e3 a1
  have k2 := m_isS (N := N) e5 h9 a1
  rcases in_or a1 s (by omega) with ⟨j, hj, rfl, q1, q2⟩ | hno
  · have hj9 : j < 9 := by omega
    have c0 := ofS (N := N) (h := h) (o := 3) (r := j) (k := 0) (by omega) (by decide)
    have c1 := ofS (N := N) (h := h) (o := 3) (r := j) (k := 1) (by omega) (by decide)
    have c4 := ofS (N := N) (h := h) (o := 3) (r := j) (k := 4) (by omega) (by decide)
    have m0 := mofS (N := N) (h := h) (r := j) (k := 0) hj9 (by decide)
    have m1 := mofS (N := N) (h := h) (r := j) (k := 1) hj9 (by decide)
    have m4 := mofS (N := N) (h := h) (r := j) (k := 4) hj9 (by decide)
    have w1 := wearS (N := N) (h := h) (o := 14) (r := j) (by omega)
    have w2 := wetS (N := N) (h := h) (o := 14) (r := j) hj9
    have x1 := (hr j hj).1
    have n0 : nI 0 = (0 : Int32) := rfl
    have n1 : nI 1 = (1 : Int32) := rfl
    have n4 : nI 4 = (4 : Int32) := rfl
    rw [n0] at c0 m0
    rw [n1] at c1 m1
    rw [n4] at c4 m4
    have i1 : ix (nI j) 214 = true := ix_nI (by omega) (by decide)
    have e9 : 9 + nI j = nI (9 + j) := by rw [show (9 : Int32) = nI 9 from rfl, nI_add]
    have i2 : ix (nI (9 + j)) 214 = true := ix_nI (by omega) (by decide)
    have q6 := nI_clamp (show j < 2 ^ 31 by omega)
    have q7 := nI_clamp (show 9 + j < 2 ^ 31 by omega)
    rcases i_in a2 5 (by decide) with ⟨h1, h2⟩ | ⟨k, hk, rfl⟩ | ⟨h1, h2, h3⟩
    · have z0 : ¬ a2 = 0 := fun q => by subst q; exact absurd h1 (by decide)
      have z1 : ¬ a2 = 1 := fun q => by subst q; exact absurd h1 (by decide)
      have z2 : ¬ a2 = 2 := fun q => by subst q; exact absurd h1 (by decide)
      have z3 : ¬ a2 = 3 := fun q => by subst q; exact absurd h1 (by decide)
      have z4 : ¬ a2 = 4 := fun q => by subst q; exact absurd h1 (by decide)
      exact ⟨-1, by simp [f_Owe_stretch, k1, q1, q2, z0, z1, z2, z3, z4], by simp [f_Mod_stretch, k2, q1, q2, f_Mod_in, h1]⟩
    · have hk5 : k = 0 ∨ k = 1 ∨ k = 2 ∨ k = 3 ∨ k = 4 := by omega
      rcases hk5 with rfl | rfl | rfl | rfl | rfl
      · have y := x1 0 (by decide)
        simp only [Nat.add_zero] at y c0 m0
        exact ⟨h.1 4 (5 * (1 + j)), by simp [f_Owe_stretch, k1, q1, q2, n0, c0], by simp [f_Mod_stretch, k2, q1, q2, f_Mod_in, n0, m0, y]⟩
      · have y := x1 1 (by decide)
        simp only [Nat.add_zero] at y c0 m0
        exact ⟨h.1 4 (5 * (1 + j) + 1), by simp [f_Owe_stretch, k1, q1, q2, n1, c1], by simp [f_Mod_stretch, k2, q1, q2, f_Mod_in, n1, m1, y]⟩
      · exact ⟨h.1 15 j, by simp [f_Owe_stretch, k1, q1, q2, show nI 2 = (2 : Int32) from rfl, w1], by simp [f_Mod_stretch, k2, q1, q2, f_Mod_in, show nI 2 = (2 : Int32) from rfl, i1, gd_t, q6, hw j (by omega)]⟩
      · exact ⟨h.1 15 (9 + j), by simp [f_Owe_stretch, k1, q1, q2, show nI 3 = (3 : Int32) from rfl, w2], by simp [f_Mod_stretch, k2, q1, q2, f_Mod_in, show nI 3 = (3 : Int32) from rfl, e9, i2, gd_t, q7, hw (9 + j) (by omega)]⟩
      · have y := x1 4 (by decide)
        simp only [Nat.add_zero] at y c0 m0
        exact ⟨h.1 4 (5 * (1 + j) + 4), by simp [f_Owe_stretch, k1, q1, q2, n4, c4], by simp [f_Mod_stretch, k2, q1, q2, f_Mod_in, n4, m4, y]⟩
    · have h4 : (4 : Int32) < a2 := by
        have b := Int32.le_iff_toInt_le.mp h1
        apply Int32.lt_iff_toInt_lt.mpr
        have c : (4 : Int32).toInt = 4 := rfl
        have d : (nI 5).toInt = 5 := rfl
        omega
      have z0 : ¬ a2 = 0 := fun q => by subst q; exact absurd h4 (by decide)
      have z1 : ¬ a2 = 1 := fun q => by subst q; exact absurd h4 (by decide)
      have z2 : ¬ a2 = 2 := fun q => by subst q; exact absurd h4 (by decide)
      have z3 : ¬ a2 = 3 := fun q => by subst q; exact absurd h4 (by decide)
      have z4 : ¬ a2 = 4 := fun q => by subst q; exact absurd h4 (by decide)
      exact ⟨-1, by simp [f_Owe_stretch, k1, q1, q2, z0, z1, z2, z3, z4], by simp [f_Mod_stretch, k2, q1, q2, f_Mod_in, h2, h4]⟩
  · exact ⟨-1, by simp [f_Owe_stretch, k1, hno], by simp [f_Mod_stretch, k2, hno]⟩
