/-! game -/
theorem ecs {N s u a r k : Nat} {hc hm hc' : mu_H} {o : Option (List Cla)} (hX : Cx hc hm s u o) (hN : 3000 ≤ N) (f : VC hc hc') (ha : a < u) (hr : r < s) (hk : k < 4) (hcm : cme hc a r = true) : ∃ hc2, sc [26, 29, 32, 35, 36] hc' hc2 ∧ f_Lab_effectNow N hc' (nI a) (nI r) (nI k) = some (nI (efn hc o a r k), hc2) := by
  have h9 := hX.1.1
  obtain ⟨w1, w2, -⟩ := wr_2 hX hr
  obtain ⟨h1, h2, h3⟩ := Cx_V hX f VM_refl
  obtain ⟨hc2, -, x1, -, x2, -⟩ := eff_2 (w := tn (hc.1 15 r)) hN h1 h2 h3 ha hr w1 hk (by rw [cme_V f]; exact Or.inr (Or.inr hcm))
  rw [efv_V f] at x1
  refine ⟨hc2, x2, ?_⟩
  rw [f_Lab_effectNow, wearS (o := 14) (show r < 34 by omega), f 15 (by decide), w2, bd_some, x1]
  rfl
theorem lp_hv {σ ρ : Type} {body : (σ → Option ρ) → σ → Option ρ} (V : Nat → mu_H → Prop) (st : Nat → mu_H → σ) (n : Nat) (k : mu_H → Option ρ) (hs : ∀ i, i < n → ∀ h, V i h → ∃ h', V (i + 1) h' ∧ ∀ rec : σ → Option ρ, body rec (st i h) = rec (st (i + 1) h')) (he : ∀ h, V n h → ∀ rec : σ → Option ρ, body rec (st n h) = k h) : ∀ N h, V 0 h → n < N → ∃ h', V n h' ∧ lp body N (st 0 h) = k h' := by
  have key : ∀ d i, i + d = n → ∀ N h, V i h → d < N → ∃ h', V n h' ∧ lp body N (st i h) = k h' := by
    intro d
    induction d with
    | zero =>
      intro i hi N h hV hN
      obtain ⟨f, rfl⟩ : ∃ f, N = f + 1 := ⟨N - 1, by omega⟩
      have : i = n := by omega
      subst this
      exact ⟨h, hV, he h hV (lp body f)⟩
    | succ d ih =>
      intro i hi N h hV hN
      obtain ⟨f, rfl⟩ : ∃ f, N = f + 1 := ⟨N - 1, by omega⟩
      obtain ⟨h1, v1, e1⟩ := hs i (by omega) h hV
      obtain ⟨h2, v2, e2⟩ := ih (i + 1) (by omega) f h1 v1 (by omega)
      exact ⟨h2, v2, (e1 (lp body f)).trans e2⟩
  exact fun N h hV hN => key n 0 (by omega) N h hV hN
/-- both say whether the two can meet -/
theorem meet_2 {N s u : Nat} {hc hm : mu_H} {o : Option (List Cla)} (hX : Cx hc hm s u o) (a1 a2 a3 : Int32) : (f_Lab_canMeet N hc a1 a2 a3 = some 0 ∧ f_Mod_areTwo N hm a1 a2 a3 = some 0) ∨ (f_Lab_canMeet N hc a1 a2 a3 = some 1 ∧ f_Mod_areTwo N hm a1 a2 a3 = some 1 ∧ ∃ a b r, a < u ∧ b < u ∧ r < s ∧ a1 = nI a ∧ a2 = nI b ∧ a3 = nI r ∧ cme hc a r = true ∧ cme hc b r = true) := by
  have hp := hX.1
  have h9 := hp.1
  have h6 := hp.2.1
  have k1 := c_isH (N := N) (h := hc) (o := 3) hp.2.2.2.2.1 a1
  have k2 := m_isH (N := N) (h := hm) hp.2.2.2.2.2.2.1 h6 a1
  have k1' := c_isH (N := N) (h := hc) (o := 3) hp.2.2.2.2.1 a2
  have k2' := m_isH (N := N) (h := hm) hp.2.2.2.2.2.2.1 h6 a2
  have k3 := c_isS (N := N) (h := hc) (o := 3) hp.2.2.2.1 a3
  have k4 := m_isS (N := N) (h := hm) hp.2.2.2.2.2.1 h9 a3
  have h10 : ¬ (1 : Int32) = 0 := by decide
  rcases in_or a1 u (by omega) with ⟨a, ha, rfl, q1, q2⟩ | no1
  · rcases in_or a2 u (by omega) with ⟨b, hb, rfl, q3, q4⟩ | no2
    · by_cases hab : nI a = nI b
      · refine Or.inl ⟨?_, ?_⟩
        · simp only [f_Lab_canMeet, k1, k1', q1, q2, q3, q4, and_self, if_true, bd_some, if_neg h10, if_pos hab]
        · simp only [f_Mod_areTwo, k2, k2', q1, q2, q3, q4, and_self, if_true, bd_some, if_neg h10, if_pos hab]
      · rcases in_or a3 s (by omega) with ⟨r, hr, rfl, q5, q6⟩ | no3
        · obtain ⟨x1, x2⟩ := come_c hp N ha hr
          obtain ⟨y1, y2⟩ := come_c hp N hb hr
          by_cases c1 : cme hc a r = true
          · by_cases c2 : cme hc b r = true
            · refine Or.inr ⟨?_, ?_, a, b, r, ha, hb, hr, rfl, rfl, rfl, c1, c2⟩
              · simp only [f_Lab_canMeet, k1, k1', k3, q1, q2, q3, q4, q5, q6, and_self, if_true, bd_some, if_neg h10, if_neg hab, x1, y1, if_pos c1, if_pos c2]
              · simp only [f_Mod_areTwo, k2, k2', k4, q1, q2, q3, q4, q5, q6, and_self, if_true, bd_some, if_neg h10, if_neg hab, x2, y2, if_pos c1, if_pos c2]
            · refine Or.inl ⟨?_, ?_⟩
              · simp only [f_Lab_canMeet, k1, k1', k3, q1, q2, q3, q4, q5, q6, and_self, if_true, bd_some, if_neg h10, if_neg hab, x1, y1, if_pos c1, if_neg c2]
              · simp only [f_Mod_areTwo, k2, k2', k4, q1, q2, q3, q4, q5, q6, and_self, if_true, bd_some, if_neg h10, if_neg hab, x2, y2, if_pos c1, if_neg c2]
          · refine Or.inl ⟨?_, ?_⟩
            · simp only [f_Lab_canMeet, k1, k1', k3, q1, q2, q3, q4, q5, q6, and_self, if_true, bd_some, if_neg h10, if_neg hab, x1, if_neg c1]
            · simp only [f_Mod_areTwo, k2, k2', k4, q1, q2, q3, q4, q5, q6, and_self, if_true, bd_some, if_neg h10, if_neg hab, x2, if_neg c1]
        · refine Or.inl ⟨?_, ?_⟩
          · simp only [f_Lab_canMeet, k1, k1', k3, q1, q2, q3, q4, and_self, if_true, bd_some, if_neg h10, if_neg hab, if_neg no3]
          · simp only [f_Mod_areTwo, k2, k2', k4, q1, q2, q3, q4, and_self, if_true, bd_some, if_neg h10, if_neg hab, if_neg no3]
    · refine Or.inl ⟨?_, ?_⟩
      · simp only [f_Lab_canMeet, k1, k1', q1, q2, and_self, if_true, bd_some, if_neg h10, if_neg no2]
      · simp only [f_Mod_areTwo, k2, k2', q1, q2, and_self, if_true, bd_some, if_neg h10, if_neg no2]
  · refine Or.inl ⟨?_, ?_⟩
    · simp only [f_Lab_canMeet, k1, if_true, bd_some, if_neg no1]
    · simp only [f_Mod_areTwo, k2, if_true, bd_some, if_neg no1]
/-- the table of the game -/
theorem setup_c {N s u a b r : Nat} {hc hm : mu_H} {o : Option (List Cla)} (hN : 3000 ≤ N) (hX : Cx hc hm s u o) (ha : a < u) (hb : b < u) (hr : r < s) (ca : cme hc a r = true) (cb : cme hc b r = true) : ∃ h', VC hc h' ∧ (∀ k, k < 4 → h'.1 48 k = nI (efn hc o a r k) ∧ h'.1 49 k = nI (efn hc o b r k)) ∧ f_Out_setUpGame N hc (nI a) (nI b) (nI r) = some h' := by
  have L := lp_hv (body := f_Out_setUpGame_L3 N (nI a) (nI b) (nI r)) (fun i h => VC hc h ∧ ∀ k, k < i → h.1 48 k = nI (efn hc o a r k) ∧ h.1 49 k = nI (efn hc o b r k)) (fun i h => (nI i, h)) 4 some (by
    rintro i hi h ⟨hV, hk⟩
    obtain ⟨h1, v1, w1⟩ := ecs (N := N) (k := i) hX hN hV ha hr hi ca
    have hV1 : VC hc (ui h1 48 i (nI (efn hc o a r i))) := sc_trans (sc_trans hV (sc_mono v1 (by decide))) (sc_ui (by decide))
    obtain ⟨h2, v2, w2⟩ := ecs (N := N) (k := i) hX hN hV1 hb hr hi cb
    refine ⟨ui h2 49 i (nI (efn hc o b r i)), ⟨sc_trans (sc_trans hV1 (sc_mono v2 (by decide))) (sc_ui (by decide)), fun k hk2 => ?_⟩, fun rec => ?_⟩
    · rw [ui_n (by decide), v2 48 (by decide), ui_s, v1 48 (by decide), ui_s, v2 49 (by decide), ui_n (by decide), v1 49 (by decide)]
      by_cases c : k = i
      · subst c
        rw [upd_s, upd_s]
        exact ⟨rfl, rfl⟩
      · rw [upd_n c, upd_n c]
        exact hk k (by omega)
    · simp (disch := omega) only [↓bn_eq, ↓jn_eq, ↓reduceIte, gd_t, bd_some, bn_eq, jn_eq, bi_some, if_pos, if_neg, i10, nI_lt_i, nI_le_i, nI_eq_i, ll_le, ll_lt, ll_eq, lr_le, lr_lt, lr_eq, ix_n, nI_clamp, nI_add, add_l, add_r, nI_mul, mul_l, mul_r, sub_n, sub_r, div_r, ite_some, if_true, if_false, and_self, and_true, true_and, false_and, and_false, Nat.reduceAdd, Nat.reduceMul, not_false_iff, not_true, f_Out_setUpGame_L3, w1, w2]) (by
    rintro h ⟨hV, hk⟩ rec
    simp (disch := omega) only [↓bn_eq, ↓jn_eq, ↓reduceIte, gd_t, bd_some, bn_eq, jn_eq, bi_some, if_pos, if_neg, i10, nI_lt_i, nI_le_i, nI_eq_i, ll_le, ll_lt, ll_eq, lr_le, lr_lt, lr_eq, ix_n, nI_clamp, nI_add, add_l, add_r, nI_mul, mul_l, mul_r, sub_n, sub_r, div_r, ite_some, if_true, if_false, and_self, and_true, true_and, false_and, and_false, Nat.reduceAdd, Nat.reduceMul, not_false_iff, not_true, f_Out_setUpGame_L3]) N hc ⟨VC_refl, fun k hk => by omega⟩ (by omega)
  obtain ⟨h', ⟨x1, x2⟩, x3⟩ := L
  exact ⟨h', x1, x2, x3⟩
def cst (x : Nat) : Int32 := if x = 0 then 4 else if x = 1 then 2 else 0
def gv (h : mu_H) (o : Option (List Cla)) (a b r x y z : Nat) : Int32 := nI ((efn h o a r x + efn h o b r y) / 2) - cst z
theorem cst_6 {x : Nat} (hx : x < 4) : sv_6.getD x 0 = cst x := by
  rcases (show x = 0 ∨ x = 1 ∨ x = 2 ∨ x = 3 by omega) with rfl | rfl | rfl | rfl <;> rfl
theorem ones_c {N a b r x y : Nat} {hc h : mu_H} {o : Option (List Cla)} (hk : ∀ k, k < 4 → h.1 48 k = nI (efn hc o a r k) ∧ h.1 49 k = nI (efn hc o b r k)) (hx : x < 4) (hy : y < 4) : f_Out_ones N h (nI x) (nI y) = some (gv hc o a b r x y x) ∧ f_Out_others N h (nI x) (nI y) = some (gv hc o a b r x y y) := by
  have l1 := efn_le (h := hc) (o := o) (a := a) (r := r) (k := x)
  have l2 := efn_le (h := hc) (o := o) (a := b) (r := r) (k := y)
  constructor
  · simp (disch := omega) only [↓bn_eq, ↓jn_eq, ↓reduceIte, gd_t, bd_some, bn_eq, jn_eq, bi_some, if_pos, if_neg, i10, nI_lt_i, nI_le_i, nI_eq_i, ll_le, ll_lt, ll_eq, lr_le, lr_lt, lr_eq, ix_n, nI_clamp, nI_add, add_l, add_r, nI_mul, mul_l, mul_r, sub_n, sub_r, div_r, ite_some, if_true, if_false, and_self, and_true, true_and, false_and, and_false, Nat.reduceAdd, Nat.reduceMul, not_false_iff, not_true, f_Out_ones, (hk x hx).1, (hk y hy).2, cst_6, gv]
  · simp (disch := omega) only [↓bn_eq, ↓jn_eq, ↓reduceIte, gd_t, bd_some, bn_eq, jn_eq, bi_some, if_pos, if_neg, i10, nI_lt_i, nI_le_i, nI_eq_i, ll_le, ll_lt, ll_eq, lr_le, lr_lt, lr_eq, ix_n, nI_clamp, nI_add, add_l, add_r, nI_mul, mul_l, mul_r, sub_n, sub_r, div_r, ite_some, if_true, if_false, and_self, and_true, true_and, false_and, and_false, Nat.reduceAdd, Nat.reduceMul, not_false_iff, not_true, f_Out_others, (hk x hx).1, (hk y hy).2, cst_6, gv]
theorem gof_m {N s u a b r x y : Nat} {hc hm h : mu_H} {o : Option (List Cla)} (hN : 3000 ≤ N) (hX : Cx hc hm s u o) (hV : VM hm h) (ha : a < u) (hb : b < u) (hr : r < s) (ca : cme hc a r = true) (cb : cme hc b r = true) (hx : x < 4) (hy : y < 4) : ∃ h', VM hm h' ∧ f_Mod_gameOf N h (nI a) (nI b) (nI r) (nI x) (nI y) = some (gv hc o a b r x y x, h') := by
  obtain ⟨h1, v1, w1⟩ := emn (N := N) (k := x) hX hN hV ha hr hx (Or.inr (Or.inr ca))
  obtain ⟨h2, v2, w2⟩ := emn (N := N) (k := y) hX hN v1 hb hr hy (Or.inr (Or.inr cb))
  have l1 := efn_le (h := hc) (o := o) (a := a) (r := r) (k := x)
  have l2 := efn_le (h := hc) (o := o) (a := b) (r := r) (k := y)
  refine ⟨h2, v2, ?_⟩
  rw [f_Mod_gameOf, w1, bi_some, w2, bi_some, jn_eq, gv, nI_add, show nI (efn hc o a r x + efn hc o b r y) / 2 = nI ((efn hc o a r x + efn hc o b r y) / 2) from div_r (m := 2) (by decide) (by decide) (by omega), cst]
  rcases (show x = 0 ∨ x = 1 ∨ x = 2 ∨ x = 3 by omega) with rfl | rfl | rfl | rfl <;> rfl
theorem gv_sw {h : mu_H} {o : Option (List Cla)} {a b r x y z : Nat} : gv h o b a r y x z = gv h o a b r x y z := by
  rw [gv, gv, Nat.add_comm]
theorem pl_2 {N : Nat} {hc hm : mu_H} (x : Int32) : (f_Owe_isPlayed N hc x = some 0 ∧ f_Mod_isGameKind N hm x = some 0) ∨ (f_Owe_isPlayed N hc x = some 1 ∧ f_Mod_isGameKind N hm x = some 1 ∧ ∃ k, k < 4 ∧ x = nI k) := by
  simp only [f_Owe_isPlayed, f_Mod_isGameKind]
  by_cases c0 : x = 0
  · subst c0; exact Or.inr ⟨rfl, rfl, 0, by decide, rfl⟩
  by_cases c1 : x = 1
  · subst c1; exact Or.inr ⟨rfl, rfl, 1, by decide, rfl⟩
  by_cases c3 : x = 3
  · subst c3; exact Or.inr ⟨rfl, rfl, 3, by decide, rfl⟩
  exact Or.inl ⟨by simp [c0, c1, c3], by simp [c0, c1, c3]⟩
theorem op_game {N : Nat} (hN : 3000 ≤ N) (a1 a2 a3 a4 a5 a6 : Int32) (hc hm : mu_H) (hI : Inv (mg hc hm)) : ∃ r hc' hm', f_Owe_game N hc a1 a2 a3 a4 a5 a6 = some (r, hc') ∧ f_Mod_game N hm a1 a2 a3 a4 a5 a6 = some (r, hm') ∧ (∀ c, 51 ≤ c → hc'.1 c = hc.1 c) ∧ (∀ c, c < 51 → hm'.1 c = hm.1 c) ∧ Inv (mg hc' hm') := by
  obtain ⟨s, u, o, hX⟩ := Cx_of hI
  have h10 : ¬ (1 : Int32) = 0 := by decide
  have hno := V_I hI VC_refl VM_refl
  have k5 : f_Mod_in N hm a6 0 1 = some (if 0 ≤ a6 ∧ a6 < nI 2 then 1 else 0) := m_in (n := 2) (by decide) a6
  rcases meet_2 (N := N) hX a1 a2 a3 with ⟨m1, m2⟩ | ⟨m1, m2, a, b, r, ha, hb, hr, rfl, rfl, rfl, ca, cb⟩
  · exact ⟨-1000000, hc, hm, by simp only [f_Owe_game, m1, bd_some, jn_eq, if_true], by simp only [f_Mod_game, m2, bd_some, jn_eq, if_true], hno⟩
  rcases pl_2 (N := N) (hc := hc) (hm := hm) a4 with ⟨p1, p2⟩ | ⟨p1, p2, x, hx, rfl⟩
  · exact ⟨-1000000, hc, hm, by simp only [f_Owe_game, m1, bd_some, jn_eq, if_true, if_neg h10, p1], by simp only [f_Mod_game, m2, bd_some, jn_eq, if_true, if_neg h10, p2], hno⟩
  rcases pl_2 (N := N) (hc := hc) (hm := hm) a5 with ⟨p3, p4⟩ | ⟨p3, p4, y, hy, rfl⟩
  · exact ⟨-1000000, hc, hm, by simp only [f_Owe_game, m1, bd_some, jn_eq, if_true, if_neg h10, p1, p3], by simp only [f_Mod_game, m2, bd_some, jn_eq, if_true, if_neg h10, p2, p4], hno⟩
  rcases in_or a6 2 (by decide) with ⟨w, hw, rfl, q1, q2⟩ | no
  · obtain ⟨hc', v1, v2, v3⟩ := setup_c (N := N) hN hX ha hb hr ca cb
    obtain ⟨o1, o2⟩ := ones_c (N := N) (x := x) (y := y) v2 hx hy
    have q1' : ¬ nI w < 0 := nlt_le.mpr q1
    have q2' : nI w ≤ 1 := nI_le (b := 1) (by omega) (by decide)
    rcases (show w = 0 ∨ w = 1 by omega) with rfl | rfl
    · obtain ⟨hm', v4, v5⟩ := gof_m (N := N) hN hX VM_refl ha hb hr ca cb hx hy
      refine ⟨gv hc o a b r x y x, hc', hm', ?_, ?_, V_I hI v1 v4⟩
      · simp only [f_Owe_game, m1, bd_some, jn_eq, if_neg h10, p1, p3, if_neg q1', if_pos q2', v3, if_pos (show nI 0 = (0 : Int32) from rfl), o1]
      · simp only [f_Mod_game, m2, bd_some, jn_eq, if_neg h10, p2, p4, k5, q1, q2, and_self, if_true, if_pos (show nI 0 = (0 : Int32) from rfl), v5, bi_some]
    · obtain ⟨hm', v4, v5⟩ := gof_m (N := N) hN hX VM_refl hb ha hr cb ca hy hx
      rw [gv_sw] at v5
      refine ⟨gv hc o a b r x y y, hc', hm', ?_, ?_, V_I hI v1 v4⟩
      · simp only [f_Owe_game, m1, bd_some, jn_eq, if_neg h10, p1, p3, if_neg q1', if_pos q2', v3, if_neg (show ¬ nI 1 = (0 : Int32) from by decide), o2]
      · simp only [f_Mod_game, m2, bd_some, jn_eq, if_neg h10, p2, p4, k5, q1, q2, and_self, if_true, if_neg (show ¬ nI 1 = (0 : Int32) from by decide), v5, bi_some]
  · refine ⟨-1000000, hc, hm, ?_, ?_, hno⟩
    · simp only [f_Owe_game, m1, bd_some, jn_eq, if_neg h10, p1, p3]
      by_cases c : a6 < 0
      · rw [if_pos c]
      · rw [if_neg c, if_neg (fun q => no ⟨nlt_le.mp c, ?_⟩)]
        rw [Int32.lt_iff_toInt_lt]
        rw [Int32.le_iff_toInt_le] at q
        have z1 : (1 : Int32).toInt = 1 := rfl
        have z2 : (nI 2).toInt = 2 := rfl
        omega
    · simp only [f_Mod_game, m2, bd_some, jn_eq, if_neg h10, p2, p4, k5, if_neg no, if_true]
