/-! keep: how it was ahead of an act -/
theorem wr_c {N q : Nat} {h : mu_H} (hq : q < 40) : f_Sta_writeTo N h 14 (nI (q * 34)) = some (ur h 21 (fun k => if 34 * q ≤ k ∧ k < 34 * q + 34 then h.1 15 (k - 34 * q) else h.1 21 k)) := by
  have e : va_cpy (h.1 15) (h.1 21) 0 (q * 34) 34 = (fun k => if 34 * q ≤ k ∧ k < 34 * q + 34 then h.1 15 (k - 34 * q) else h.1 21 k) := by
    funext k
    simp [va_cpy, Nat.mul_comm]
  have z0 : (0 : Int32).toNatClampNeg = 0 := rfl
  have z1 : (34 : Int32).toNatClampNeg = 34 := rfl
  have c1 : cpk 0 (nI (q * 34)) 34 34 1360 = true := by
    simp only [cpk, Bool.and_eq_true, decide_eq_true_eq, z0, z1, nI_clamp (show q * 34 < 2147483648 by omega)]
    exact ⟨⟨⟨⟨by decide, nI_pos (by omega)⟩, by decide⟩, by decide⟩, by omega⟩
  simp (disch := omega) only [gd_t, bd_some, bn_eq, jn_eq, bi_some, if_pos, if_neg, i10, nI_lt_i, nI_le_i, nI_eq_i, ll_le, ll_lt, ll_eq, lr_le, lr_lt, lr_eq, ix_n, nI_clamp, nI_add, add_l, add_r, nI_mul, mul_l, mul_r, sub_n, sub_r, div_r, ite_some, if_true, if_false, and_self, and_true, true_and, false_and, and_false, Nat.reduceAdd, Nat.reduceMul, not_false_iff, not_true, f_Sta_writeTo, c1, z0, z1, e]
/-- after keep: as before, one act more, and the newest of them is now -/
def Ikep (h : mu_H) (s u n : Nat) : Prop := ∃ p q v, p ≤ 40 ∧ q < 40 ∧ 0 < p ∧ h.1 20 1 = nI p ∧ h.1 51 32 = nI p ∧ h.1 20 2 = nI q ∧ v 0 = n ∧ v 1 = n ∧ Ipst s u p q v (h.1 21) (h.1 16) (h.1 71)
theorem Ikep_fr {A K : List Nat} {h h' : mu_H} {s u n : Nat} (e : sM A K h h') (hA : ∀ x ∈ [20, 21, 16, 71], x ∉ A) (hK : 32 ∉ K) (hp : Ikep h s u n) : Ikep h' s u n := by
  simp only [Ikep, e.1 20 (hA 20 (by decide)) (by decide), e.1 21 (hA 21 (by decide)) (by decide), e.1 16 (hA 16 (by decide)) (by decide), e.1 71 (hA 71 (by decide)) (by decide), e.2 32 hK]
  exact hp
theorem kp_sh {N : Nat} {h : mu_H} {k : mu_H → Option mu_H} (hN : 9000 ≤ N) : lp (f_Mod_keep_L13 k) N (214, h) = k (ur h 71 (fun i => if i + 214 < 8560 then h.1 71 (i + 214) else h.1 71 i)) := by
  have key := lp_end (body := f_Mod_keep_L13 k) (fun j => (nI (j + 214), ur h 71 (fun i => if i < j then h.1 71 (i + 214) else h.1 71 i))) 8346 (v := k (ur h 71 (fun i => if i < 8346 then h.1 71 (i + 214) else h.1 71 i))) ?_ ?_ (f := N) (by omega)
  · have e0 : (fun i => if i < 0 then h.1 71 (i + 214) else h.1 71 i) = h.1 71 := by
      funext i
      simp
    have e1 : (fun i => if i < 8346 then h.1 71 (i + 214) else h.1 71 i) = (fun i => if i + 214 < 8560 then h.1 71 (i + 214) else h.1 71 i) := by
      funext i
      by_cases c : i < 8346
      · rw [if_pos c, if_pos (by omega)]
      · rw [if_neg c, if_neg (by omega)]
    rw [← e1, ← key]
    show lp _ N (_, h) = lp _ N (_, ur h 71 (fun i => if i < 0 then h.1 71 (i + 214) else h.1 71 i))
    rw [e0, ur_self]
    rfl
  · intro j hj rec
    have e2 : upd (fun i => if i < j then h.1 71 (i + 214) else h.1 71 i) j (h.1 71 (j + 214)) = (fun i => if i < j + 1 then h.1 71 (i + 214) else h.1 71 i) := by
      funext i
      simp only [upd]
      by_cases c : i = j
      · rw [if_pos c, if_pos (by omega), c]
      · rw [if_neg c]
        by_cases d : i < j
        · rw [if_pos d, if_pos (by omega)]
        · rw [if_neg d, if_neg (by omega)]
    simp (disch := omega) only [gd_t, bd_some, bn_eq, jn_eq, bi_some, if_pos, if_neg, i10, nI_lt_i, nI_le_i, nI_eq_i, ll_le, ll_lt, ll_eq, lr_le, lr_lt, lr_eq, ix_n, nI_clamp, nI_add, add_l, add_r, nI_mul, mul_l, mul_r, sub_n, sub_r, div_r, ite_some, if_true, if_false, and_self, and_true, true_and, false_and, and_false, Nat.reduceAdd, Nat.reduceMul, not_false_iff, not_true, f_Mod_keep_L13, ui_ur, ur_g, Nat.add_sub_cancel, e2]
  · intro rec
    simp (disch := omega) only [gd_t, bd_some, bn_eq, jn_eq, bi_some, if_pos, if_neg, i10, nI_lt_i, nI_le_i, nI_eq_i, ll_le, ll_lt, ll_eq, lr_le, lr_lt, lr_eq, ix_n, nI_clamp, nI_add, add_l, add_r, nI_mul, mul_l, mul_r, sub_n, sub_r, div_r, ite_some, if_true, if_false, and_self, and_true, true_and, false_and, and_false, Nat.reduceAdd, Nat.reduceMul, not_false_iff, not_true, f_Mod_keep_L13]
theorem kp_wr {N p : Nat} {h : mu_H} {k : mu_H → Option mu_H} (hN : 9000 ≤ N) (hp : p < 40) (e : h.1 51 32 = nI p) : lp (f_Mod_keep_L54 k) N (0, h) = k (ur h 71 (fun i => if 214 * p ≤ i ∧ i < 214 * p + 214 then h.1 68 (i - 214 * p) else h.1 71 i)) := by
  have key := lp_end (body := f_Mod_keep_L54 k) (fun j => (nI j, ur h 71 (fun i => if 214 * p ≤ i ∧ i < 214 * p + j then h.1 68 (i - 214 * p) else h.1 71 i))) 214 (v := k (ur h 71 (fun i => if 214 * p ≤ i ∧ i < 214 * p + 214 then h.1 68 (i - 214 * p) else h.1 71 i))) ?_ ?_ (f := N) (by omega)
  · have e0 : (fun i => if 214 * p ≤ i ∧ i < 214 * p + 0 then h.1 68 (i - 214 * p) else h.1 71 i) = h.1 71 := by
      funext i
      rw [if_neg (by omega)]
    rw [← key]
    show lp _ N (_, h) = lp _ N (_, ur h 71 (fun i => if 214 * p ≤ i ∧ i < 214 * p + 0 then h.1 68 (i - 214 * p) else h.1 71 i))
    rw [e0, ur_self]
    rfl
  · intro j hj rec
    have e2 : upd (fun i => if 214 * p ≤ i ∧ i < 214 * p + j then h.1 68 (i - 214 * p) else h.1 71 i) (214 * p + j) (h.1 68 j) = (fun i => if 214 * p ≤ i ∧ i < 214 * p + (j + 1) then h.1 68 (i - 214 * p) else h.1 71 i) := by
      funext i
      simp only [upd]
      by_cases c : i = 214 * p + j
      · rw [if_pos c, if_pos (by omega), show i - 214 * p = j by omega]
      · rw [if_neg c]
        by_cases d : 214 * p ≤ i ∧ i < 214 * p + j
        · rw [if_pos d, if_pos (by omega)]
        · rw [if_neg d, if_neg (by omega)]
    simp (disch := omega) only [gd_t, bd_some, bn_eq, jn_eq, bi_some, if_pos, if_neg, i10, nI_lt_i, nI_le_i, nI_eq_i, ll_le, ll_lt, ll_eq, lr_le, lr_lt, lr_eq, ix_n, nI_clamp, nI_add, add_l, add_r, nI_mul, mul_l, mul_r, sub_n, sub_r, div_r, ite_some, if_true, if_false, and_self, and_true, true_and, false_and, and_false, Nat.reduceAdd, Nat.reduceMul, not_false_iff, not_true, f_Mod_keep_L54, ui_ur, ur_g, e, e2]
  · intro rec
    simp (disch := omega) only [gd_t, bd_some, bn_eq, jn_eq, bi_some, if_pos, if_neg, i10, nI_lt_i, nI_le_i, nI_eq_i, ll_le, ll_lt, ll_eq, lr_le, lr_lt, lr_eq, ix_n, nI_clamp, nI_add, add_l, add_r, nI_mul, mul_l, mul_r, sub_n, sub_r, div_r, ite_some, if_true, if_false, and_self, and_true, true_and, false_and, and_false, Nat.reduceAdd, Nat.reduceMul, not_false_iff, not_true, f_Mod_keep_L54]
theorem keep_2 {N s u n : Nat} (hN : 9000 ≤ N) {hc hm : mu_H} (hnow : Inow (mg hc hm) s u) (hpas : Ipas (mg hc hm) s u) (hn : hc.1 15 33 = nI n) (hn3 : n ≤ 3999) : ∃ hc' hm', f_Pas_keep N hc 14 = some hc' ∧ f_Mod_keep N hm = some hm' ∧ sc [20, 21] hc hc' ∧ sM [71] [32] hm hm' ∧ Ikep (mg hc' hm') s u n ∧ hc'.2 = hc.2 ∧ hm'.2 = hm.2 := by
  obtain ⟨p, q, v, hp40, hq, p1, p2, p3, p4, pv, p5⟩ := hpas
  have p1 : hc.1 20 1 = nI p := p1
  have p2 : hm.1 51 32 = nI p := p2
  have p3 : hc.1 20 2 = nI q := p3
  have p4 : hc.1 15 33 = nI (v 0) := p4
  have p5 : Ipst s u p q v (hc.1 21) (hc.1 16) (hm.1 71) := p5
  have hnow1 : Ist s u (hc.1 15) (hc.1 16) (hm.1 68) := hnow
  obtain ⟨m, hm3, -, hm33, -, -⟩ := hnow1.2.2.2.1
  have hv0 : v 0 = n := nI_inj (by omega) (by omega) (p4.symm.trans hn)
  obtain ⟨q1, hq1⟩ : ∃ q1, q1 = (q + 1) % 40 := ⟨_, rfl⟩
  have hs2 : q + 1 - (q + 1) / 40 * 40 = q1 := by omega
  obtain ⟨P1, hP1⟩ : ∃ P1 : Nat → Int32, P1 = (fun k => if 34 * q ≤ k ∧ k < 34 * q + 34 then hc.1 15 (k - 34 * q) else hc.1 21 k) := ⟨_, rfl⟩
  have hw := wr_c (N := N) (h := hc) hq
  rw [← hP1] at hw
  obtain ⟨p', hp'⟩ : ∃ p', p' = if 40 ≤ p then 40 else p + 1 := ⟨_, rfl⟩
  obtain ⟨Q1, hQ1⟩ : ∃ Q1 : Nat → Int32, Q1 = (fun i => if 214 * (p' - 1) ≤ i ∧ i < 214 * (p' - 1) + 214 then hm.1 68 (i - 214 * (p' - 1)) else if 40 ≤ p then (if i + 214 < 8560 then hm.1 71 (i + 214) else hm.1 71 i) else hm.1 71 i) := ⟨_, rfl⟩
  have hpp : p' ≤ 40 ∧ 0 < p' ∧ p' ≤ p + 1 := by rw [hp']; split <;> omega
  have A1 : ∃ hc', f_Pas_keep N hc 14 = some hc' ∧ sc [20, 21] hc hc' ∧ hc'.1 20 1 = nI p' ∧ hc'.1 20 2 = nI q1 ∧ hc'.1 21 = P1 ∧ hc'.2 = hc.2 := by
    have g2 : (ur hc 21 P1).1 20 2 = nI q := by rw [ur_n (by decide), p3]
    have g3 : (ui (ur hc 21 P1) 20 2 (nI q1)).1 20 1 = nI p := by rw [ui_g, if_neg (by decide), ur_n (by decide), p1]
    by_cases c : 40 ≤ p
    · refine ⟨ui (ur hc 21 P1) 20 2 (nI q1), ?_, sc_trans (sc_ur (by decide)) (sc_ui (by decide)), ?_, ?_, ?_, rfl⟩
      · simp only [f_Pas_keep, p3]
        simp (disch := omega) only [gd_t, bd_some, bn_eq, jn_eq, bi_some, if_pos, if_neg, i10, nI_lt_i, nI_le_i, nI_eq_i, ll_le, ll_lt, ll_eq, lr_le, lr_lt, lr_eq, ix_n, nI_clamp, nI_add, add_l, add_r, nI_mul, mul_l, mul_r, sub_n, sub_r, div_r, ite_some, if_true, if_false, and_self, and_true, true_and, false_and, and_false, Nat.reduceAdd, Nat.reduceMul, not_false_iff, not_true, hw, g2, hs2, g3]
      · rw [g3, hp', if_pos c, show p = 40 by omega]
      · simp [ui_g]
      · rw [ui_n (by decide), ur_1]
    · refine ⟨ui (ui (ur hc 21 P1) 20 2 (nI q1)) 20 1 (nI (p + 1)), ?_, sc_trans (sc_trans (sc_ur (by decide)) (sc_ui (by decide))) (sc_ui (by decide)), ?_, ?_, ?_, rfl⟩
      · simp only [f_Pas_keep, p3]
        simp (disch := omega) only [gd_t, bd_some, bn_eq, jn_eq, bi_some, if_pos, if_neg, i10, nI_lt_i, nI_le_i, nI_eq_i, ll_le, ll_lt, ll_eq, lr_le, lr_lt, lr_eq, ix_n, nI_clamp, nI_add, add_l, add_r, nI_mul, mul_l, mul_r, sub_n, sub_r, div_r, ite_some, if_true, if_false, and_self, and_true, true_and, false_and, and_false, Nat.reduceAdd, Nat.reduceMul, not_false_iff, not_true, hw, g2, hs2, g3]
      · rw [hp', if_neg c]; simp [ui_g]
      · simp [ui_g]
      · rw [ui_n (by decide), ui_n (by decide), ur_1]
  have A2 : ∃ hm', f_Mod_keep N hm = some hm' ∧ sM [71] [32] hm hm' ∧ hm'.1 51 32 = nI p' ∧ hm'.1 71 = Q1 ∧ hm'.2 = hm.2 := by
    by_cases c : 40 ≤ p
    · have c' : p = 40 := by omega
      have g1 : (ui (ur hm 71 (fun i => if i + 214 < 8560 then hm.1 71 (i + 214) else hm.1 71 i)) 51 32 (nI 39)).1 51 32 = nI 39 := by simp [ui_g]
      refine ⟨ui (ur (ui (ur hm 71 (fun i => if i + 214 < 8560 then hm.1 71 (i + 214) else hm.1 71 i)) 51 32 (nI 39)) 71 Q1) 51 32 (nI 40), ?_, sM_trans (sM_trans (sM_trans (sM_ur (by decide) (by decide)) (sM_u5 (by decide))) (sM_ur (by decide) (by decide))) (sM_u5 (by decide)), ?_, ?_, rfl⟩
      · have w1 := kp_sh (N := N) (h := hm) (k := fun h11 => bn (ui h11 51 32 ((h11.1 51 32) - 1)) fun h12 => lp (f_Mod_keep_L54 (fun h4 => bn (ui h4 51 32 ((h4.1 51 32) + 1)) fun h5 => some h5)) N (0, h12)) hN
        have w2 := kp_wr (N := N) (p := 39) (h := ui (ur hm 71 (fun i => if i + 214 < 8560 then hm.1 71 (i + 214) else hm.1 71 i)) 51 32 (nI 39)) (k := fun h4 => bn (ui h4 51 32 ((h4.1 51 32) + 1)) fun h5 => some h5) hN (by decide) g1
        have e40 : (nI 40 = (40 : Int32)) = True := eq_true rfl
        have e39 : nI 40 - 1 = nI 39 := rfl
        simp only [f_Mod_keep, p2, c', e40, if_true, jn_eq]
        rw [w1]
        simp only [bn_eq, ur_n (show (51 : Nat) ≠ 71 by decide), p2, c', e39]
        simp only [bn_eq] at w2
        rw [w2]
        have e41 : nI 39 + 1 = nI 40 := rfl
        have hQ2 : (fun i => if 214 * 39 ≤ i ∧ i < 214 * 39 + 214 then (ui (ur hm 71 (fun i => if i + 214 < 8560 then hm.1 71 (i + 214) else hm.1 71 i)) 51 32 (nI 39)).1 68 (i - 214 * 39) else (ui (ur hm 71 (fun i => if i + 214 < 8560 then hm.1 71 (i + 214) else hm.1 71 i)) 51 32 (nI 39)).1 71 i) = Q1 := by
          rw [hQ1, show p' - 1 = 39 by rw [hp', if_pos c], ui_n (show (68 : Nat) ≠ 51 by decide), ui_n (show (71 : Nat) ≠ 51 by decide), ur_n (show (68 : Nat) ≠ 71 by decide), ur_1]
          funext i
          simp only [if_pos c]
        rw [hQ2]
        simp only [bn_eq, ur_n (show (51 : Nat) ≠ 71 by decide), g1, e41]
      · rw [hp', if_pos c]; simp [ui_g]
      · rw [ui_n (by decide), ur_1]
    · refine ⟨ui (ur hm 71 Q1) 51 32 (nI (p + 1)), ?_, sM_trans (sM_ur (by decide) (by decide)) (sM_u5 (by decide)), ?_, ?_, rfl⟩
      · have w2 := kp_wr (N := N) (p := p) (h := hm) (k := fun h4 => bn (ui h4 51 32 ((h4.1 51 32) + 1)) fun h5 => some h5) hN (by omega) p2
        simp (disch := omega) only [gd_t, bd_some, bn_eq, jn_eq, bi_some, if_pos, if_neg, i10, nI_lt_i, nI_le_i, nI_eq_i, ll_le, ll_lt, ll_eq, lr_le, lr_lt, lr_eq, ix_n, nI_clamp, nI_add, add_l, add_r, nI_mul, mul_l, mul_r, sub_n, sub_r, div_r, ite_some, if_true, if_false, and_self, and_true, true_and, false_and, and_false, Nat.reduceAdd, Nat.reduceMul, not_false_iff, not_true, f_Mod_keep, p2]
        have hQ2 : (fun i => if 214 * p ≤ i ∧ i < 214 * p + 214 then hm.1 68 (i - 214 * p) else hm.1 71 i) = Q1 := by
          rw [hQ1, show p' - 1 = p by rw [hp', if_neg c]; omega]
          funext i
          simp only [if_neg c]
        rw [hQ2] at w2
        simp only [bn_eq, ur_n (show (51 : Nat) ≠ 71 by decide), p2, nI_1] at w2
        exact w2
      · rw [hp', if_neg c]; simp [ui_g]
      · rw [ui_n (by decide), ur_1]
  obtain ⟨hc', a1, a2, a3, a4, a5, a6⟩ := A1
  obtain ⟨hm', b1, b2, b3, b4, b5⟩ := A2
  refine ⟨hc', hm', a1, b1, a2, b2, ⟨p', q1, fun e => if e = 0 then n else v (e - 1), hpp.1, by omega, hpp.2.1, a3, b3, a4, rfl, hv0, ?_⟩, a6, b5⟩
  have x16 : (mg hc' hm').1 16 = hc.1 16 := (mg_c (by decide)).trans (a2 16 (by decide))
  have x21 : (mg hc' hm').1 21 = P1 := (mg_c (by decide)).trans a5
  have x71 : (mg hc' hm').1 71 = Q1 := (mg_m (by decide)).trans b4
  rw [x16, x21, x71]
  intro e he
  by_cases e0 : e = 0
  · subst e0
    refine ⟨Nat.le_of_eq hv0, by show n ≤ v 0 + 1; omega, ?_, ?_⟩
    · rw [show (q1 + 39 - 0) % 40 = q by omega, hP1]
      simp only [if_pos (show 34 * q ≤ 34 * q + 33 ∧ 34 * q + 33 < 34 * q + 34 by omega)]
      rw [show 34 * q + 33 - 34 * q = 33 by omega]
      exact p4
    · refine Ist_ext (fun k hk => ?_) (fun k hk => rfl) (fun k hk => ?_) hnow1
      · simp only [show (q1 + 39 - 0) % 40 = q by omega, hP1, if_pos (show 34 * q ≤ 34 * q + k ∧ 34 * q + k < 34 * q + 34 by omega), show 34 * q + k - 34 * q = k by omega]
      · simp only [hQ1, show p' - 1 - 0 = p' - 1 by omega, if_pos (show 214 * (p' - 1) ≤ 214 * (p' - 1) + k ∧ 214 * (p' - 1) + k < 214 * (p' - 1) + 214 by omega), show 214 * (p' - 1) + k - 214 * (p' - 1) = k by omega]
  · have hpe : e - 1 < p := by omega
    obtain ⟨w1, w2, w3, w4⟩ := p5 (e - 1) hpe
    rw [show e - 1 + 1 = e by omega] at w1 w2 w3
    have hsl : (q1 + 39 - e) % 40 = (q + 39 - (e - 1)) % 40 := by omega
    have hne : ¬ (q + 39 - (e - 1)) % 40 = q := by omega
    have hlt : (q + 39 - (e - 1)) % 40 < 40 := by omega
    rw [hsl]
    generalize (q + 39 - (e - 1)) % 40 = sl at *
    have hPk : ∀ k, k < 34 → P1 (34 * sl + k) = hc.1 21 (34 * sl + k) := by
      intro k hk
      rw [hP1]
      simp only [if_neg (show ¬ (34 * q ≤ 34 * sl + k ∧ 34 * sl + k < 34 * q + 34) by omega)]
    have hQk : ∀ k, k < 214 → Q1 (214 * (p' - 1 - e) + k) = hm.1 71 (214 * (p - 1 - (e - 1)) + k) := by
      intro k hk
      rw [hQ1]
      simp only [if_neg (show ¬ (214 * (p' - 1) ≤ 214 * (p' - 1 - e) + k ∧ 214 * (p' - 1 - e) + k < 214 * (p' - 1) + 214) by omega)]
      by_cases c : 40 ≤ p
      · rw [if_pos c, if_pos (by omega), show 214 * (p' - 1 - e) + k + 214 = 214 * (p - 1 - (e - 1)) + k by rw [hp', if_pos c]; omega]
      · rw [if_neg c, show 214 * (p' - 1 - e) + k = 214 * (p - 1 - (e - 1)) + k by rw [hp', if_neg c]; omega]
    have w5 := Ist_ext (fun k hk => hPk k hk) (fun k _ => rfl) (fun k hk => hQk k hk) w4
    simp only [if_neg e0, if_neg (show ¬ e + 1 = 0 by omega), Nat.add_sub_cancel]
    exact ⟨w1, w2, (hPk 33 (by decide)).trans w3, w5⟩
/-- one season more in the log hurts nothing that was kept -/
theorem Ist_log {s u m n : Nat} {R L L' M : Nat → Int32} (h : Ist s u R L M) (hm : R 33 = nI m) (h1 : m ≤ n) (h2 : n ≤ m + 39) (hn : n ≤ 3999) (hL : ∀ k, k / 3 ≠ n % 100 → L' k = L k) : Ist s u R L' M := by
  obtain ⟨q1, q2, q3, ⟨m', hm', q4, q5, q6, q7⟩, q8, q9⟩ := h
  have e : m' = m := nI_inj (by omega) (by omega) (q5.symm.trans hm)
  subst e
  refine ⟨q1, q2, q3, ⟨m', hm', q4, q5, q6, fun i hi w hw => ?_⟩, q8, q9⟩
  rw [q7 i hi w hw, hL]
  omega
theorem v_ch {s u p q : Nat} {v : Nat → Nat} {P L Q : Nat → Int32} (h : Ipst s u p q v P L Q) : ∀ e, e < p → v (e + 1) ≤ v 1 ∧ v 1 ≤ v (e + 1) + e := by
  intro e
  induction e with
  | zero => intro _; exact ⟨Nat.le_refl _, Nat.le_refl _⟩
  | succ e ih =>
    intro he
    have a := ih (by omega)
    have b := h (e + 1) he
    omega
/-- after the act: the past again -/
theorem Ikep_done {hc hm hc' hm' : mu_H} {s u n n' : Nat} (hk : Ikep (mg hc hm) s u n) (hn : n ≤ n') (hn' : n' ≤ n + 1) (h3 : n' ≤ 3999) (e20 : hc'.1 20 = hc.1 20) (e21 : hc'.1 21 = hc.1 21) (e71 : hm'.1 71 = hm.1 71) (e51 : hm'.1 51 32 = hm.1 51 32) (e33 : hc'.1 15 33 = nI n') (hL : ∀ k, k / 3 ≠ n % 100 → hc'.1 16 k = hc.1 16 k) : Ipas (mg hc' hm') s u := by
  obtain ⟨p, q, v, hp, hq, hp0, p1, p2, p3, v0, v1, hP⟩ := hk
  have hP : Ipst s u p q v (hc.1 21) (hc.1 16) (hm.1 71) := hP
  have ch := v_ch hP
  refine ⟨p, q, fun e => if e = 0 then n' else v e, hp, hq, ?_, ?_, ?_, e33, h3, ?_⟩
  · show hc'.1 20 1 = nI p
    rw [e20]; exact p1
  · show hm'.1 51 32 = nI p
    rw [e51]; exact p2
  · show hc'.1 20 2 = nI q
    rw [e20]; exact p3
  · show Ipst s u p q _ (hc'.1 21) (hc'.1 16) (hm'.1 71)
    rw [e21, e71]
    intro e he
    obtain ⟨w1, w2, w3, w4⟩ := hP e he
    have c := ch e he
    have w5 := Ist_log w4 w3 (n := n) (by omega) (by omega) (by omega) hL
    simp only [if_neg (show ¬ e + 1 = 0 by omega)]
    by_cases e0 : e = 0
    · subst e0
      simp only [if_true]
      exact ⟨by omega, by omega, w3, w5⟩
    · simp only [if_neg e0]
      exact ⟨w1, w2, w3, w5⟩
theorem act_I {hc hm hc1 hm1 hc' hm' : mu_H} {s u n n' nse : Nat} (hp : Ipar (mg hc hm) s u) (hsee : Isee (mg hc hm) nse) (himg : Iimg (mg hc hm) s u) (htap : Itap (mg hc hm)) (hlaw : Ilaw (mg hc hm)) (href : Iref (mg hc hm)) (k1 : sc [20, 21] hc hc1) (k2 : sM [71] [32] hm hm1) (hk : Ikep (mg hc1 hm1) s u n) (f1 : sc [15, 16, 26, 29, 32, 35, 36] hc1 hc') (f2 : sM [60, 61, 68] [] hm1 hm') (hnow : Inow (mg hc' hm') s u) (hn : n ≤ n') (hn' : n' ≤ n + 1) (h3 : n' ≤ 3999) (e33 : hc'.1 15 33 = nI n') (hL : ∀ k, k / 3 ≠ n % 100 → hc'.1 16 k = hc1.1 16 k) : (∀ c, 51 ≤ c → hc'.1 c = hc.1 c) ∧ (∀ c, c < 51 → hm'.1 c = hm.1 c) ∧ Inv (mg hc' hm') := by
  have g1 : sc [15, 16, 20, 21, 26, 29, 32, 35, 36] hc hc' := sc_trans (sc_mono k1 (by decide)) (sc_mono f1 (by decide))
  have g2 : sM [60, 61, 68, 71] [32] hm hm' := sM_trans (sM_mono k2 (by decide) (by decide)) (sM_mono f2 (by decide) (by decide))
  have e := mg_same g1 g2
  have hpas : Ipas (mg hc' hm') s u := Ikep_done hk hn hn' h3 (f1 20 (by decide)) (f1 21 (by decide)) (f2.1 71 (by decide) (by decide)) (f2.2 32 (by decide)) e33 hL
  exact ⟨(hi_of g1 (by decide)), (lo_of g2 (by decide)), s, u, (Ipar_fr e (by decide) (by decide) hp), ⟨_, Isee_fr e (by decide) (by decide) hsee⟩, hnow, (Iimg_fr e (by decide) (by decide) himg), hpas, (Itap_fr e (by decide) (by decide) htap), (Ilaw_fr e (by decide) (by decide) hlaw), (Iref_fr e (by decide) href)⟩
/-- one number of the state changed, on both sides -/
theorem Ist_u {s u k : Nat} {x : Int32} {R L M : Nat → Int32} (h : Ist s u R L M) (hk : k ≤ 30) (h1 : k < 9 → bN x 99 ∧ k < s) (h2 : 9 ≤ k → k < 18 → bN x 9) (h3 : 18 ≤ k → k < 24 → bN x 9 ∧ k < 18 + u) (h4 : 24 ≤ k → k < 30 → bN x 999 ∧ k < 24 + u) : Ist s u (upd R k x) L (upd M k x) := by
  obtain ⟨q1, q2, q3, ⟨n, hn, q4, q5, q6, q7⟩, q8, q9⟩ := h
  refine ⟨fun j hj => ?_, ?_, ?_, ⟨n, hn, ?_, ?_, ?_, fun i hi w hw => ?_⟩, fun r hr => ?_, fun a ha => ?_⟩
  · by_cases c : j = k
    · subst c; rw [upd_s, upd_s]
    · rw [upd_n c, upd_n c]; exact q1 j hj
  · rw [upd_n (by omega), upd_n (by omega)]; exact q2
  · rw [upd_n (by omega), upd_n (by omega)]; exact q3
  · rw [upd_n (by omega)]; exact q4
  · rw [upd_n (by omega)]; exact q5
  · rw [upd_n (by omega)]; exact q6
  · rw [upd_n (by omega)]; exact q7 i hi w hw
  · obtain ⟨a, b, c⟩ := q8 r hr
    refine ⟨?_, ?_, fun q => ?_⟩
    · by_cases d : r = k
      · subst d; rw [upd_s]; exact (h1 hr).1
      · rw [upd_n d]; exact a
    · by_cases d : 9 + r = k
      · subst d; rw [upd_s]; exact h2 (by omega) (by omega)
      · rw [upd_n d]; exact b
    · by_cases d : r = k
      · have := (h1 (by omega)).2; omega
      · rw [upd_n d]; exact c q
  · obtain ⟨b, c, d⟩ := q9 a ha
    refine ⟨?_, ?_, fun q => ⟨?_, ?_⟩⟩
    · by_cases e : 18 + a = k
      · subst e; rw [upd_s]; exact (h3 (by omega) (by omega)).1
      · rw [upd_n e]; exact b
    · by_cases e : 24 + a = k
      · subst e; rw [upd_s]; exact (h4 (by omega) (by omega)).1
      · rw [upd_n e]; exact c
    · by_cases e : 18 + a = k
      · have := (h3 (by omega) (by omega)).2; omega
      · rw [upd_n e]; exact (d q).1
    · by_cases e : 24 + a = k
      · have := (h4 (by omega) (by omega)).2; omega
      · rw [upd_n e]; exact (d q).2
