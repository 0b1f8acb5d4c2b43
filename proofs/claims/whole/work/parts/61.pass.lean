/-! a season passes, both; seasons -/
def shl (M : Nat → Int32) (j : Nat) : Nat → Int32 := fun i => if 34 ≤ i ∧ i < 34 + j then M (i + 3) else M i
theorem sh_l {N : Nat} {hm : mu_H} {M : Nat → Int32} (hN : 300 ≤ N) (k : mu_H → Option mu_H) : lp (f_Mod_passSeason_L152 k) N (3, ur hm 68 M) = k (ur hm 68 (shl M 177)) := by
  have key := lp_end (body := f_Mod_passSeason_L152 k) (fun j => (nI (j + 3), ur hm 68 (shl M j))) 177 (v := k (ur hm 68 (shl M 177))) ?_ ?_ (f := N) (by omega)
  · have e0 : shl M 0 = M := by
      funext i
      rw [shl, if_neg (by omega)]
    rw [← key]
    show lp _ N (_, _) = lp _ N (_, ur hm 68 (shl M 0))
    rw [e0]
    rfl
  · intro j hj rec
    have e1 : shl M j (34 + (j + 3)) = M (34 + j + 3) := by rw [shl, if_neg (by omega)]; rfl
    have e2 : upd (shl M j) (34 + j) (M (34 + j + 3)) = shl M (j + 1) := by
      funext i
      simp only [upd, shl]
      by_cases c : i = 34 + j
      · rw [if_pos c, if_pos (by omega), c]
      · rw [if_neg c]
        by_cases d : 34 ≤ i ∧ i < 34 + j
        · rw [if_pos d, if_pos (by omega)]
        · rw [if_neg d, if_neg (by omega)]
    have e3 : 34 + (j + 3) - 3 = 34 + j := by omega
    have e4 : j + 3 + 1 = j + 1 + 3 := by omega
    simp (disch := omega) only [gd_t, bd_some, bn_eq, jn_eq, bi_some, if_pos, if_neg, i10, nI_lt_i, nI_le_i, nI_eq_i, ll_le, ll_lt, ll_eq, lr_le, lr_lt, lr_eq, ix_n, nI_clamp, nI_add, add_l, add_r, nI_mul, mul_l, mul_r, sub_n, sub_r, div_r, ite_some, if_true, if_false, and_self, and_true, true_and, false_and, and_false, Nat.reduceAdd, Nat.reduceMul, not_false_iff, not_true, f_Mod_passSeason_L152, ui_ur, ur_g, e1, e2, e3, e4]
  · intro rec
    simp (disch := omega) only [gd_t, bd_some, bn_eq, jn_eq, bi_some, if_pos, if_neg, i10, nI_lt_i, nI_le_i, nI_eq_i, ll_le, ll_lt, ll_eq, lr_le, lr_lt, lr_eq, ix_n, nI_clamp, nI_add, add_l, add_r, nI_mul, mul_l, mul_r, sub_n, sub_r, div_r, ite_some, if_true, if_false, and_self, and_true, true_and, false_and, and_false, Nat.reduceAdd, Nat.reduceMul, not_false_iff, not_true, f_Mod_passSeason_L152]
/-- the log's row after one season more -/
def lgM (M8 : Nat → Int32) (m : Nat) (a b : Int32) : Nat → Int32 := upd (upd (upd (upd (upd M8 (34 + 3 * m) a) (34 + 3 * m + 1) b) (34 + 3 * m + 2) (M8 31)) 33 (nI (m + 1))) 31 0
theorem pass_m {N s u n : Nat} {hc hm : mu_H} (hN : 300 ≤ N) (hp : Ipar (mg hc hm) s u) (hs : 0 < s) {R0 : Nat → Int32} (hb : Ib s u R0 (hm.1 68)) (hn : n ≤ 3998) (h32 : hm.1 68 32 = nI n) (h33 : hm.1 68 33 = nI (min n 60)) (M3 : Nat → Int32) (hM3 : M3 = (if (n + 1) % 4 = 0 then fold (yrS hc) (upd (fold (wnS hc (n % 4 = 3)) (hm.1 68) s) 32 (nI (n + 1))) u else upd (fold (wnS hc (n % 4 = 3)) (hm.1 68) s) 32 (nI (n + 1)))) (h333 : M3 33 = nI (min n 60)) : f_Mod_passSeason N hm = some (ur hm 68 (lgM (if 60 ≤ n then upd (shl M3 177) 33 (nI 59) else M3) (min n 59) (fold (sm M3 0) 0 s) (fold (bdf M3) 0 s))) := by
  have h9 := hp.1
  have h6 := hp.2.1
  have e5 : hm.1 51 25 = nI s := hp.2.2.2.2.2.1
  have z33 : (33 : Int32).toNatClampNeg = 33 := rfl
  have z32 : (32 : Int32).toNatClampNeg = 32 := rfl
  have z31 : (31 : Int32).toNatClampNeg = 31 := rfl
  have i33 : ix 33 214 = true := rfl
  have i32 : ix 32 214 = true := rfl
  have i31 : ix 31 214 = true := rfl
  obtain ⟨hb1, hk1⟩ := wn_I (h := hc) (n % 4 = 3) hb s (Nat.le_refl s) h9
  have w := ps_m (N := N) hN hp hb (n := n) (by omega)
  rw [ur_self] at w
  have hb2 : Ib s u (upd (fold (wnS hc (n % 4 = 3)) R0 s) 31 (nI (n + 1))) (upd (fold (wnS hc (n % 4 = 3)) (hm.1 68) s) 32 (nI (n + 1))) := Ib_up hb1 (by decide) (by decide)
  have h321 : fold (wnS hc (n % 4 = 3)) (hm.1 68) s 32 = nI n := ((hk1 32 (by decide)).2).trans h32
  have y := fun k => yr_m (N := N) hN hp hs hb2 (n := n + 1) (by omega) upd_s k
  rw [← hM3] at y
  have hsum : ∀ M8 : Nat → Int32, (∀ k, k < 9 → M8 k = M3 k) → f_Mod_sumOf N (ur hm 68 M8) 0 (nI s) = some (fold (sm M3 0) 0 s) := by
    intro M8 hM8
    rw [show f_Mod_sumOf N (ur hm 68 M8) 0 (nI s) = some (fold (sm ((ur hm 68 M8).1 68) 0) 0 s) from sum_m (a := 0) (by omega) (by omega), ur_1]
    exact congrArg some (fold_eq (fun i hi x => by show x + M8 (0 + i) = x + M3 (0 + i); rw [hM8 (0 + i) (by omega)]))
  by_cases c : 60 ≤ n
  · have hs1 := hsum (upd (shl M3 177) 33 (nI 59)) (fun k hk => by rw [upd_n (by omega), shl, if_neg (by omega)])
    have e60 : min n 60 = 60 := by omega
    have e59 : min n 59 = 59 := by omega
    rw [e60] at h333
    have q33 : shl M3 177 33 = nI 60 := by rw [shl, if_neg (by omega)]; exact h333
    have q31 : shl M3 177 31 = M3 31 := by rw [shl, if_neg (by omega)]
    have u33 : upd (shl M3 177) 33 (nI 59) 33 = nI 59 := upd_s
    have u31 : upd (shl M3 177) 33 (nI 59) 31 = M3 31 := by rw [upd_n (by decide)]; exact q31
    have n60 : nI 60 = (60 : Int32) := rfl
    have m60 : (60 : Int32) - 1 = nI 59 := rfl
    rw [e59, if_pos c]
    simp only [f_Mod_passSeason, i32, gd_t, z32, h32, w, bd_some, bn_eq, ur_1, h321, nI_1, ui_ur, jn_eq, y, bd_m hN h9 (show (ur hm 68 M3).1 51 25 = nI s from by rw [ur_n (by decide)]; exact e5), i33, z33, h333, n60, if_true, sh_l hN, q33, m60, u33, i31, z31, ur_n (show (51 : Nat) ≠ 68 by decide), e5, hs1]
    simp (disch := omega) only [gd_t, bd_some, bn_eq, jn_eq, bi_some, if_pos, if_neg, i10, nI_lt_i, nI_le_i, nI_eq_i, ll_le, ll_lt, ll_eq, lr_le, lr_lt, lr_eq, ix_n, nI_clamp, nI_add, add_l, add_r, nI_mul, mul_l, mul_r, sub_n, sub_r, div_r, ite_some, if_true, if_false, and_self, and_true, true_and, false_and, and_false, Nat.reduceAdd, Nat.reduceMul, not_false_iff, not_true, ur_g, ui_ur]
    simp [lgM, upd]
    rw [nI_1]
  · have hs1 := hsum M3 (fun k hk => rfl)
    have e60 : min n 60 = n := by omega
    have e59 : min n 59 = n := by omega
    rw [e60] at h333
    rw [e59, if_neg c]
    simp only [f_Mod_passSeason, i32, gd_t, z32, h32, w, bd_some, bn_eq, ur_1, h321, nI_1, ui_ur, jn_eq, y, bd_m hN h9 (show (ur hm 68 M3).1 51 25 = nI s from by rw [ur_n (by decide)]; exact e5), i33, z33, h333, i31, z31, ur_n (show (51 : Nat) ≠ 68 by decide), e5, hs1]
    simp (disch := omega) only [gd_t, bd_some, bn_eq, jn_eq, bi_some, if_pos, if_neg, i10, nI_lt_i, nI_le_i, nI_eq_i, ll_le, ll_lt, ll_eq, lr_le, lr_lt, lr_eq, ix_n, nI_clamp, nI_add, add_l, add_r, nI_mul, mul_l, mul_r, sub_n, sub_r, div_r, ite_some, if_true, if_false, and_self, and_true, true_and, false_and, and_false, Nat.reduceAdd, Nat.reduceMul, not_false_iff, not_true, ur_g, ui_ur, upd_n, h333, lgM]
theorem pass_2 {N s u n : Nat} {hc hm : mu_H} (hN : 300 ≤ N) (hp : Ipar (mg hc hm) s u) (hs : 0 < s) (hI : Ist s u (hc.1 15) (hc.1 16) (hm.1 68)) (h33 : hc.1 15 33 = nI n) (hn : n ≤ 3998) : ∃ hc' hm', f_Lab_passSeason N hc = some hc' ∧ f_Mod_passSeason N hm = some hm' ∧ sc [15, 16] hc hc' ∧ sM [68] [] hm hm' ∧ Ist s u (hc'.1 15) (hc'.1 16) (hm'.1 68) ∧ hc'.1 15 33 = nI (n + 1) ∧ hc'.2 = hc.2 ∧ hm'.2 = hm.2 ∧ ∀ k, k / 3 ≠ n % 100 → hc'.1 16 k = hc.1 16 k := by
  have h9 := hp.1
  have h6 := hp.2.1
  have hb := Ib_of hI
  obtain ⟨q1, q2, q3, ⟨n', hn', q4, q5, q6, q7⟩, q8, q9⟩ := hI
  have : n' = n := nI_inj (by omega) (by omega) (q5.symm.trans h33)
  subst this
  have q31 : hm.1 68 32 = nI n' := q3.symm.trans q4
  obtain ⟨dy, hdy, ed, -⟩ := P_rul (k := 0) hp hs (by decide)
  obtain ⟨hb1, hk1⟩ := wn_I (h := hc) (n' % 4 = 3) hb s (Nat.le_refl s) h9
  have hb2 : Ib s u (upd (fold (wnS hc (n' % 4 = 3)) (hc.1 15) s) 31 (nI (n' + 1))) (upd (fold (wnS hc (n' % 4 = 3)) (hm.1 68) s) 32 (nI (n' + 1))) := Ib_up hb1 (by decide) (by decide)
  obtain ⟨R2, hR2⟩ : ∃ R2, R2 = upd (fold (wnS hc (n' % 4 = 3)) (hc.1 15) s) 31 (nI (n' + 1)) := ⟨_, rfl⟩
  obtain ⟨M2, hM2⟩ : ∃ M2, M2 = upd (fold (wnS hc (n' % 4 = 3)) (hm.1 68) s) 32 (nI (n' + 1)) := ⟨_, rfl⟩
  rw [← hR2, ← hM2] at hb2
  obtain ⟨R3, hR3⟩ : ∃ R3, R3 = if (n' + 1) % 4 = 0 then fold (yrS hc) R2 u else R2 := ⟨_, rfl⟩
  obtain ⟨M3, hM3⟩ : ∃ M3, M3 = if (n' + 1) % 4 = 0 then fold (yrS hc) M2 u else M2 := ⟨_, rfl⟩
  have hb3 : Ib s u R3 M3 ∧ ∀ k, 31 ≤ k → R3 k = R2 k ∧ M3 k = M2 k := by
    rw [hR3, hM3]
    by_cases c : (n' + 1) % 4 = 0
    · rw [if_pos c, if_pos c]
      exact yr_I ⟨dy, hdy, ed⟩ hb2 u (Nat.le_refl u) h6
    · rw [if_neg c, if_neg c]
      exact ⟨hb2, fun _ _ => ⟨rfl, rfl⟩⟩
  obtain ⟨hb3, hk3⟩ := hb3
  have r31 : R3 31 = nI (n' + 1) := by rw [(hk3 31 (by decide)).1, hR2, upd_s]
  have r32 : R3 32 = hc.1 15 32 := by rw [(hk3 32 (by decide)).1, hR2, upd_n (by decide)]; exact (hk1 32 (by decide)).1
  have r33 : R3 33 = nI n' := by rw [(hk3 33 (by decide)).1, hR2, upd_n (by decide), (hk1 33 (by decide)).1]; exact q5
  have m31 : M3 31 = hm.1 68 31 := by rw [(hk3 31 (by decide)).2, hM2, upd_n (by decide)]; exact (hk1 31 (by decide)).2
  have m32 : M3 32 = nI (n' + 1) := by rw [(hk3 32 (by decide)).2, hM2, upd_s]
  have mk : ∀ k, 33 ≤ k → M3 k = hm.1 68 k := fun k hk => by rw [(hk3 k (by omega)).2, hM2, upd_n (by omega)]; exact (hk1 k (by omega)).2
  have m33 : M3 33 = nI (min n' 60) := (mk 33 (by decide)).trans q6
  obtain ⟨hc', w1, w2, w3, w4, w5⟩ := lg_c (N := N) (hc := hc) hN (show n' ≤ 3999 by omega) r33
  have hpm := pass_m hN hp hs hb hn q31 q6 M3 (by rw [hM3, hM2]) m33
  obtain ⟨s1, s2⟩ := sum_Ib h9 hb3
  rw [s1, s2] at hpm
  refine ⟨hc', _, ?_, hpm, w2, sM_ur (by decide) (by decide), ?_, ?_, w5, rfl, ?_⟩
  · have e1 := fun k => ps_c (N := N) hN hp hb (n' % 4 = 3) rfl k
    rw [ur_self] at e1
    have z31 : (31 : Int32).toNatClampNeg = 31 := rfl
    have i31 : ix 31 34 = true := rfl
    have h4 : n' - n' / 4 * 4 = n' % 4 := by omega
    have h41 : n' + 1 - (n' + 1) / 4 * 4 = (n' + 1) % 4 := by omega
    have hy := yr_c (N := N) hN hp hs hb2
    have hw : f_Sta_isWinter N hc 14 = some (nI (if n' % 4 = 3 then 1 else 0)) := by
      simp (disch := omega) only [gd_t, bd_some, bn_eq, jn_eq, bi_some, if_pos, if_neg, i10, nI_lt_i, nI_le_i, nI_eq_i, ll_le, ll_lt, ll_eq, lr_le, lr_lt, lr_eq, ix_n, nI_clamp, nI_add, add_l, add_r, nI_mul, mul_l, mul_r, sub_n, sub_r, div_r, ite_some, if_true, if_false, and_self, and_true, true_and, false_and, and_false, Nat.reduceAdd, Nat.reduceMul, not_false_iff, not_true, f_Sta_isWinter, z31, i31, q4, h4]
      by_cases c : n' % 4 = 3 <;> simp [c] <;> rfl
    have e31 : fold (wnS hc (n' % 4 = 3)) (hc.1 15) s 31 = nI n' := ((hk1 31 (by decide)).1).trans q4
    have r231 : R2 31 = nI (n' + 1) := by rw [hR2, upd_s]
    simp only [f_Lab_passSeason, hw, bd_some, jn_eq, e1, f_Sta_nextSeason, f_Sta_season, z31, i31, gd_t, ur_1, e31, nI_1, bn_eq, ui_ur, ← hR2, r231]
    by_cases c : (n' + 1) % 4 = 0
    · rw [if_pos c] at hR3
      rw [← hR3] at hy
      simp (disch := omega) only [gd_t, bd_some, bn_eq, jn_eq, bi_some, if_pos, if_neg, i10, nI_lt_i, nI_le_i, nI_eq_i, ll_le, ll_lt, ll_eq, lr_le, lr_lt, lr_eq, ix_n, nI_clamp, nI_add, add_l, add_r, nI_mul, mul_l, mul_r, sub_n, sub_r, div_r, ite_some, if_true, if_false, and_self, and_true, true_and, false_and, and_false, Nat.reduceAdd, Nat.reduceMul, not_false_iff, not_true, h41, c, hy, w1]
    · rw [if_neg c] at hR3
      rw [← hR3]
      simp (disch := omega) only [gd_t, bd_some, bn_eq, jn_eq, bi_some, if_pos, if_neg, i10, nI_lt_i, nI_le_i, nI_eq_i, ll_le, ll_lt, ll_eq, lr_le, lr_lt, lr_eq, ix_n, nI_clamp, nI_add, add_l, add_r, nI_mul, mul_l, mul_r, sub_n, sub_r, div_r, ite_some, if_true, if_false, and_self, and_true, true_and, false_and, and_false, Nat.reduceAdd, Nat.reduceMul, not_false_iff, not_true, h41, w1]
  · rw [w3, w4, ur_1]
    have hne : ∀ i, 1 ≤ i → i < 60 → i ≤ n' → (n' - i) % 100 ≠ n' % 100 := fun i h1 h2 h3 => by omega
    obtain ⟨M8, hM8⟩ : ∃ M8, M8 = if 60 ≤ n' then upd (shl M3 177) 33 (nI 59) else M3 := ⟨_, rfl⟩
    have k8 : ∀ k, k ≤ 32 → M8 k = M3 k := by
      intro k hk
      rw [hM8]
      split
      · rw [upd_n (by omega), shl, if_neg (by omega)]
      · rfl
    have l8 : ∀ i w, 1 ≤ i → i < min (n' + 1) 60 → w < 3 → M8 (34 + 3 * (min (n' + 1) 60 - 1 - i) + w) = M3 (34 + 3 * (min n' 60 - 1 - (i - 1)) + w) := by
      intro i w h1 h2 h3
      rw [hM8]
      split
      · rw [upd_n (by omega), shl, if_pos (by omega)]
        congr 1; omega
      · congr 1; omega
    rw [← hM8]
    refine ⟨fun k hk => ?_, ?_, ?_, ⟨n' + 1, by omega, ?_, ?_, ?_, fun i hi w hw => ?_⟩, fun r hr => ?_, fun a ha => ?_⟩
    · rw [upd_n (by omega), upd_n (by omega), lgM, upd_n (by omega), upd_n (by omega), upd_n (by omega), upd_n (by omega), upd_n (by omega), k8 k (by omega)]
      exact hb3.1 k hk
    · rw [upd_s, lgM, upd_s]
    · rw [upd_n (by omega), upd_n (by omega), lgM, upd_n (by omega), upd_n (by omega), upd_n (by omega), upd_n (by omega), upd_n (by omega), k8 32 (by omega), r31, m32]
    · rw [upd_n (by omega), upd_n (by omega), r31]
    · rw [upd_n (by omega), upd_s]
    · rw [lgM, upd_n (by omega), upd_s, show min n' 59 + 1 = min (n' + 1) 60 by omega]
    · by_cases c : i = 0
      · subst c
        have ei : 34 + 3 * (min (n' + 1) 60 - 1 - 0) + w = 34 + 3 * min n' 59 + w := by omega
        have ej : (n' + 1 - 1 - 0) % 100 * 3 + w = n' % 100 * 3 + w := by omega
        rw [ei, ej, lgM, upd_n (by omega), upd_n (by omega)]
        rcases (show w = 0 ∨ w = 1 ∨ w = 2 by omega) with rfl | rfl | rfl
        · rw [upd_n (by omega), upd_n (by omega), Nat.add_zero, upd_s, upd_n (by omega), upd_n (by omega), Nat.add_zero, upd_s]
        · rw [upd_n (by omega), upd_s, upd_n (by omega), upd_s]
        · rw [upd_s, upd_s, k8 31 (by omega), m31, r32, q2]
      · have ej : (n' + 1 - 1 - i) = n' - 1 - (i - 1) := by omega
        have hsl := hne i (by omega) (by omega) (by omega)
        rw [lgM, upd_n (by omega), upd_n (by omega), upd_n (by omega), upd_n (by omega), upd_n (by omega), l8 i w (by omega) hi hw, mk _ (by omega), q7 (i - 1) (by omega) w hw, ej, upd_n (by omega), upd_n (by omega), upd_n (by omega)]
    · rw [upd_n (by omega), upd_n (by omega), upd_n (by omega), upd_n (by omega)]
      exact hb3.2.1 r hr
    · rw [upd_n (by omega), upd_n (by omega), upd_n (by omega), upd_n (by omega)]
      exact hb3.2.2 a ha
  · rw [w3, upd_n (by decide), upd_s]
  · intro k hk
    rw [w4, upd_n (by omega), upd_n (by omega), upd_n (by omega)]
