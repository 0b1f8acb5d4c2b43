/-! the steps to a stretch: both alike -/
theorem nI_lt_i {a b : Nat} (ha : a < 2 ^ 31) (hb : b < 2 ^ 31) : (nI a < nI b) = (a < b) := propext (nI_ltI ha hb)
theorem nI_le_i {a b : Nat} (ha : a < 2 ^ 31) (hb : b < 2 ^ 31) : (nI a ≤ nI b) = (a ≤ b) := propext (nI_leI ha hb)
theorem nI_eq_i {a b : Nat} (ha : a < 2 ^ 31) (hb : b < 2 ^ 31) : (nI a = nI b) = (a = b) := propext (nI_eq ha hb)
theorem st_c {N : Nat} {h : mu_H} {o a r p x y v1 v2 : Nat} (ha : a < 6) (hr : r < 9) (hp : p ≤ 7) (hx : x ≤ 7) (hy : y ≤ 7) (e0 : h.1 (o + 1) (5 * (10 + a) + 0) = nI p) (e1 : h.1 (o + 1) (5 * (1 + r) + 0) = nI x) (e2 : h.1 (o + 1) (5 * (1 + r) + 1) = nI y) (s1 : h.1 (o + 2) (8 * p + x) = nI v1) (s2 : h.1 (o + 2) (8 * p + y) = nI v2) (h1 : v1 ≤ 1000) (h2 : v2 ≤ 1000) : f_Par_stepsTo N h o (nI a) (nI r) = some (if v1 < 1000 ∨ v2 < 1000 then nI (min v1 v2) else -1) := by
  have k0 := ofH (N := N) (h := h) (o := o) ha (show 0 < 5 by decide)
  have k1 := ofS (N := N) (h := h) (o := o) (show r < 15 by omega) (show 0 < 5 by decide)
  have k2 := ofS (N := N) (h := h) (o := o) (show r < 15 by omega) (show 1 < 5 by decide)
  rw [show nI 0 = (0 : Int32) from rfl, e0] at k0
  rw [show nI 0 = (0 : Int32) from rfl, e1] at k1
  rw [show nI 1 = (1 : Int32) from rfl, e2] at k2
  have m1 : nI p * 8 + nI x = nI (8 * p + x) := by rw [show (8 : Int32) = nI 8 from rfl, pk_mul, nI_add]; congr 1; omega
  have m2 : nI p * 8 + nI y = nI (8 * p + y) := by rw [show (8 : Int32) = nI 8 from rfl, pk_mul, nI_add]; congr 1; omega
  simp only [f_Par_stepsTo, k0, k1, k2, bd_some, bn_eq, jn_eq, m1, m2, ix_nI (show 8 * p + x < 64 by omega) (by decide), ix_nI (show 8 * p + y < 64 by omega) (by decide), gd_t, nI_clamp (show 8 * p + x < 2 ^ 31 by omega), nI_clamp (show 8 * p + y < 2 ^ 31 by omega), s1, s2, show (1000 : Int32) = nI 1000 from rfl, nI_le_i (show v2 < 2 ^ 31 by omega) (show v1 < 2 ^ 31 by omega), nI_lt_i (show v1 < 2 ^ 31 by omega) (show 1000 < 2 ^ 31 by decide), nI_lt_i (show v2 < 2 ^ 31 by omega) (show 1000 < 2 ^ 31 by decide)]
  by_cases c : v2 ≤ v1
  · rw [if_pos c, Nat.min_eq_right c]
    by_cases d : v2 < 1000
    · rw [if_pos d, if_pos (Or.inr d)]
    · rw [if_neg d, if_neg (by omega)]
  · rw [if_neg c, Nat.min_eq_left (by omega)]
    by_cases d : v1 < 1000
    · rw [if_pos d, if_pos (Or.inl d)]
    · rw [if_neg d, if_neg (by omega)]
theorem st_m {N : Nat} {h : mu_H} {a r p x y v1 v2 : Nat} (ha : a < 6) (hr : r < 9) (hp : p ≤ 7) (hx : x ≤ 7) (hy : y ≤ 7) (e0 : h.1 67 (3 * a + 0) = nI p) (e1 : h.1 66 (5 * r + 0) = nI x) (e2 : h.1 66 (5 * r + 1) = nI y) (s1 : h.1 70 (8 * p + x) = nI v1) (s2 : h.1 70 (8 * p + y) = nI v2) (h1 : v1 ≤ 1000000) (h2 : v2 ≤ 1000000) : f_Mod_haulOf N h (nI a) (nI r) = some (nI (min v1 v2)) := by
  have k0 := mofH (N := N) (h := h) ha (show 0 < 3 by decide)
  have k1 := mofS (N := N) (h := h) hr (show 0 < 5 by decide)
  have k2 := mofS (N := N) (h := h) hr (show 1 < 5 by decide)
  rw [show nI 0 = (0 : Int32) from rfl, e0] at k0
  rw [show nI 0 = (0 : Int32) from rfl, e1] at k1
  rw [show nI 1 = (1 : Int32) from rfl, e2] at k2
  have m1 : 8 * nI p + nI x = nI (8 * p + x) := by rw [show (8 : Int32) = nI 8 from rfl, pk_mul, nI_add]
  have m2 : 8 * nI p + nI y = nI (8 * p + y) := by rw [show (8 : Int32) = nI 8 from rfl, pk_mul, nI_add]
  simp only [f_Mod_haulOf, k0, k1, k2, bd_some, m1, m2, ix_nI (show 8 * p + x < 64 by omega) (by decide), ix_nI (show 8 * p + y < 64 by omega) (by decide), gd_t, nI_clamp (show 8 * p + x < 2 ^ 31 by omega), nI_clamp (show 8 * p + y < 2 ^ 31 by omega), s1, s2, z_mmin, nI_lt_i (show v2 < 2 ^ 31 by omega) (show v1 < 2 ^ 31 by omega)]
  by_cases c : v2 < v1
  · rw [if_pos c, Nat.min_eq_right (by omega)]
  · rw [if_neg c, Nat.min_eq_left (by omega)]
/-- how far: d steps, or no way -/
theorem far {h : mu_H} {s u : Nat} (hp : Ipar h s u) (N : Nat) {a r : Nat} (ha : a < u) (hr : r < s) : (∃ d, d < 8 ∧ f_Par_stepsTo N h 3 (nI a) (nI r) = some (nI d) ∧ f_Mod_haulOf N h (nI a) (nI r) = some (nI d)) ∨ (f_Par_stepsTo N h 3 (nI a) (nI r) = some (-1) ∧ f_Mod_haulOf N h (nI a) (nI r) = some (nI 1000000)) := by
  obtain ⟨h9, h6, -, -, -, -, -, -, hs, hh, ht⟩ := hp
  obtain ⟨g1, ⟨p, p7, ep⟩, -, -⟩ := hh a ha
  obtain ⟨g2, ⟨x, x7, ex⟩, ⟨y, y7, ey⟩, -, -⟩ := hs r hr
  have ht := ht (by omega)
  have i1 := ht (8 * p + x) (by omega)
  have i2 := ht (8 * p + y) (by omega)
  have q0 : h.1 67 (3 * a + 0) = nI p := (g1 0 (by decide)).trans ep
  have q1 : h.1 66 (5 * r + 0) = nI x := (g2 0 (by decide)).trans ex
  have q2 : h.1 66 (5 * r + 1) = nI y := (g2 1 (by decide)).trans ey
  rcases i1 with ⟨d1, l1, a1, b1⟩ | ⟨a1, b1⟩ <;> rcases i2 with ⟨d2, l2, a2, b2⟩ | ⟨a2, b2⟩
  · refine Or.inl ⟨min d1 d2, by omega, ?_, st_m (by omega) (by omega) p7 x7 y7 q0 q1 q2 b1 b2 (by omega) (by omega)⟩
    rw [st_c (o := 3) (by omega) (by omega) p7 x7 y7 ep ex ey a1 a2 (by omega) (by omega), if_pos (by omega)]
  · refine Or.inl ⟨min d1 1000000, by omega, ?_, st_m (by omega) (by omega) p7 x7 y7 q0 q1 q2 b1 b2 (by omega) (by omega)⟩
    rw [st_c (o := 3) (by omega) (by omega) p7 x7 y7 ep ex ey a1 a2 (by omega) (by omega), if_pos (by omega), show min d1 1000 = min d1 1000000 by omega]
  · refine Or.inl ⟨min 1000000 d2, by omega, ?_, st_m (by omega) (by omega) p7 x7 y7 q0 q1 q2 b1 b2 (by omega) (by omega)⟩
    rw [st_c (o := 3) (by omega) (by omega) p7 x7 y7 ep ex ey a1 a2 (by omega) (by omega), if_pos (by omega), show min 1000 d2 = min 1000000 d2 by omega]
  · refine Or.inr ⟨?_, st_m (by omega) (by omega) p7 x7 y7 q0 q1 q2 b1 b2 (by omega) (by omega)⟩
    rw [st_c (o := 3) (by omega) (by omega) p7 x7 y7 ep ex ey a1 a2 (by omega) (by omega), if_neg (by omega)]
/-- whether it can come, both -/
theorem comes_c {N : Nat} {h : mu_H} {x y z : Int32} (e : f_Par_stepsTo N h 3 x y = some z) : f_Lab_canCome N h x y = some (if z = -1 then 0 else 1) := by
  simp only [f_Lab_canCome, e, bd_some]
  by_cases c : z = -1 <;> simp [c]
theorem comes_m {N : Nat} {h : mu_H} {x y z : Int32} (e : f_Mod_haulOf N h x y = some z) : f_Mod_comes N h x y = some (if 1000000 ≤ z then 0 else 1) := by
  simp only [f_Mod_comes, e, bd_some]
  by_cases c : (1000000 : Int32) ≤ z <;> simp [c]
theorem pp_haul {h : mu_H} {s u : Nat} (hp : Ipar h s u) (N : Nat) (a1 a2 : Int32) : ∃ r, f_Owe_haul N h a1 a2 = some r ∧ f_Mod_haul N h a1 a2 = some r := by
  have hp0 := hp
  obtain ⟨h9, h6, -, e3, e4, e5, e6, -⟩ := hp
  have k1 := c_isH (N := N) (o := 3) e4 a1
  have k2 := m_isH (N := N) e6 h6 a1
  have k3 := c_isS (N := N) (o := 3) e3 a2
  have k4 := m_isS (N := N) e5 h9 a2
  rcases in_or a1 u (by omega) with ⟨a, ha, rfl, q1, q2⟩ | hno
  · rcases in_or a2 s (by omega) with ⟨r, hr, rfl, q3, q4⟩ | hno
    · rcases far hp0 N ha hr with ⟨d, hd, f1, f2⟩ | ⟨f1, f2⟩
      · have g : ¬ (1000000 : Int32) ≤ nI d := nI_ge (b := 1000000) (by omega) (by decide)
        exact ⟨nI d, by simp [f_Owe_haul, k1, k3, q1, q2, q3, q4, f1], by simp [f_Mod_haul, k2, k4, q1, q2, q3, q4, comes_m f2, f2, g]⟩
      · exact ⟨-1, by simp [f_Owe_haul, k1, k3, q1, q2, q3, q4, f1], by simp [f_Mod_haul, k2, k4, q1, q2, q3, q4, comes_m f2, show (1000000 : Int32) ≤ nI 1000000 from by decide]⟩
    · exact ⟨-1, by simp [f_Owe_haul, k1, k3, q1, q2, hno], by simp [f_Mod_haul, k2, k4, q1, q2, hno]⟩
  · exact ⟨-1, by simp [f_Owe_haul, k1, hno], by simp [f_Mod_haul, k2, hno]⟩
