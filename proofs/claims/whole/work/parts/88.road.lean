/-! road, shares, toll -/
section Road
variable {N s u : Nat} {hc hm : mu_H}
def hom (h : mu_H) (a : Nat) : Nat := tn (h.1 4 (5 * (10 + a) + 0))
def rdv (h : mu_H) (s p : Nat) : Nat := if Dw h s 0 p = 1000000000 then 0 else Dw h s 0 p % 512
theorem rdv_lt {p : Nat} : rdv hc s p < 512 := by
  rw [rdv]; split <;> omega
def uso (h : mu_H) (s b : Nat) : Nat := sig (fun r => if b.testBit r = true then tn (pU h r) else 0) s
def usa (h : mu_H) (s a : Nat) : Nat := uso h s (rdv h s (hom h a))
theorem P_hom (hp : Ipar (mg hc hm) s u) {a : Nat} (ha : a < u) : hom hc a < 8 ∧ hc.1 4 (5 * (10 + a) + 0) = nI (hom hc a) ∧ hm.1 67 (3 * a + 0) = nI (hom hc a) := by
  obtain ⟨h1, h2, -, -⟩ := hp.2.2.2.2.2.2.2.2.2.1 a ha
  obtain ⟨a1, a2⟩ := bN_tn (x := hc.1 4 (5 * (10 + a) + 0)) h2 (by decide)
  exact ⟨Nat.lt_succ_of_le a1, a2, (h1 0 (by decide)).trans a2⟩
theorem uso_le (hp : Ipar (mg hc hm) s u) (b : Nat) : uso hc s b ≤ 81 := by
  have h9 := hp.1
  have : ∀ n, n ≤ s → sig (fun r => if b.testBit r = true then tn (pU hc r) else 0) n ≤ 9 * n := by
    intro n
    induction n with
    | zero => intro _; exact Nat.le_refl 0
    | succ n ih =>
      intro hn
      obtain ⟨v, hv, e⟩ := P_use hp (show n < s by omega)
      have := ih (by omega)
      rw [sig_s, e, tn_n (by omega)]
      split <;> omega
  have := this s (Nat.le_refl s)
  rw [uso]; omega
theorem use_l (hN : 300 ≤ N) (hp : Ipar (mg hc hm) s u) {h : mu_H} (h3 : h.1 3 = hc.1 3) (h4 : h.1 4 = hc.1 4) {b : Nat} (hb : b < 512) : lp (f_Roa_useOf_L11 N h (nI b)) N (0, 0) = some (nI (uso hc s b)) := by
  have h9 := hp.1
  have e3 : h.1 3 2 = nI s := by rw [h3]; exact hp.2.2.2.1
  refine lp_end (body := f_Roa_useOf_L11 N h (nI b)) (fun i => (nI (sig (fun r => if b.testBit r = true then tn (pU hc r) else 0) i), nI i)) s (v := some (nI (uso hc s b))) (fun i hi rec => ?_) (fun rec => ?_) (f := N) (by omega)
  · obtain ⟨v, hv, e⟩ := P_use hp hi
    have o4 : f_Par_ofStretch N h 3 (nI i) 4 = some (nI v) := by
      rw [ofS4 (by omega), pU, h4]; exact congrArg some e
    rw [sig_s, e, tn_n (by omega)]
    simp (disch := omega) only [↓bn_eq, ↓jn_eq, ↓reduceIte, gd_t, bd_some, bn_eq, jn_eq, bi_some, if_pos, if_neg, i10, nI_lt_i, nI_le_i, nI_eq_i, ll_le, ll_lt, ll_eq, lr_le, lr_lt, lr_eq, ix_n, nI_clamp, nI_add, add_l, add_r, nI_mul, mul_l, mul_r, sub_n, sub_r, div_r, ite_some, if_true, if_false, and_self, and_true, true_and, false_and, and_false, Nat.reduceAdd, Nat.reduceMul, not_false_iff, not_true, f_Roa_useOf_L11, f_Par_stretches, e3, sr_0, o4]
    by_cases c : b.testBit i = true
    · simp [c]
    · simp [c]
  · simp (disch := omega) only [↓bn_eq, ↓jn_eq, ↓reduceIte, gd_t, bd_some, bn_eq, jn_eq, bi_some, if_pos, if_neg, i10, nI_lt_i, nI_le_i, nI_eq_i, ll_le, ll_lt, ll_eq, lr_le, lr_lt, lr_eq, ix_n, nI_clamp, nI_add, add_l, add_r, nI_mul, mul_l, mul_r, sub_n, sub_r, div_r, ite_some, if_true, if_false, and_self, and_true, true_and, false_and, and_false, Nat.reduceAdd, Nat.reduceMul, not_false_iff, not_true, f_Roa_useOf_L11, f_Par_stretches, e3, uso]
theorem use_m (hN : 300 ≤ N) {h : mu_H} (hp : Ipar (mg hc h) s u) {b : Nat} (hb : b < 512) : f_Mod_useOf N h (nI b) = some (nI (uso hc s b)) := by
  have h9 := hp.1
  have e5 : h.1 51 25 = nI s := hp.2.2.2.2.2.1
  refine lp_end (body := f_Mod_useOf_L4 N h (nI b)) (fun i => (nI (sig (fun r => if b.testBit r = true then tn (pU hc r) else 0) i), nI i)) s (v := some (nI (uso hc s b))) (fun i hi rec => ?_) (fun rec => ?_) (f := N) (by omega)
  · obtain ⟨v, hv, e⟩ := P_use hp hi
    have o4 := P_of4 (N := N) hp hi
    rw [e] at o4
    rw [sig_s, e, tn_n (by omega)]
    simp (disch := omega) only [↓bn_eq, ↓jn_eq, ↓reduceIte, gd_t, bd_some, bn_eq, jn_eq, bi_some, if_pos, if_neg, i10, nI_lt_i, nI_le_i, nI_eq_i, ll_le, ll_lt, ll_eq, lr_le, lr_lt, lr_eq, ix_n, nI_clamp, nI_add, add_l, add_r, nI_mul, mul_l, mul_r, sub_n, sub_r, div_r, ite_some, if_true, if_false, and_self, and_true, true_and, false_and, and_false, Nat.reduceAdd, Nat.reduceMul, not_false_iff, not_true, f_Mod_useOf_L4, e5, f_Mod_has, sr_1, o4]
    by_cases c : b.testBit i = true
    · simp [c]
    · simp [c]
  · simp (disch := omega) only [↓bn_eq, ↓jn_eq, ↓reduceIte, gd_t, bd_some, bn_eq, jn_eq, bi_some, if_pos, if_neg, i10, nI_lt_i, nI_le_i, nI_eq_i, ll_le, ll_lt, ll_eq, lr_le, lr_lt, lr_eq, ix_n, nI_clamp, nI_add, add_l, add_r, nI_mul, mul_l, mul_r, sub_n, sub_r, div_r, ite_some, if_true, if_false, and_self, and_true, true_and, false_and, and_false, Nat.reduceAdd, Nat.reduceMul, not_false_iff, not_true, f_Mod_useOf_L4, e5, uso]
/-- the class's roads, once spread -/
theorem road_c (hN : 3000 ≤ N) (hp : Ipar (mg hc hm) s u) (hnow : Ist s u (hc.1 15) (hc.1 16) (hm.1 68)) {X : Nat → Int32} {a : Nat} (ha : a < u) : f_Roa_roadOf N (ur hc 38 (WRw X (Dw hc s 0))) (nI a) = some (nI (rdv hc s (hom hc a))) ∧ f_Roa_useOf N (ur hc 38 (WRw X (Dw hc s 0))) (nI a) = some (nI (usa hc s a)) := by
  have h6 := hp.2.1
  obtain ⟨p8, e1, -⟩ := P_hom hp ha
  have oh : f_Par_ofHouse N (ur hc 38 (WRw X (Dw hc s 0))) 3 (nI a) 0 = some (nI (hom hc a)) := by
    have := ofH (N := N) (h := ur hc 38 (WRw X (Dw hc s 0))) (o := 3) (r := a) (k := 0) (by omega) (by decide)
    rw [show (ur hc 38 (WRw X (Dw hc s 0))).1 (3 + 1) (5 * (10 + a) + 0) = nI (hom hc a) from e1] at this
    exact this
  have eW : (ur hc 38 (WRw X (Dw hc s 0))).1 38 (hom hc a) = nI (Dw hc s 0 (hom hc a)) := by rw [ur_1, WRw, if_pos p8]
  obtain ⟨hx', -, -, -, x3⟩ := way_2 (N := N) hN hp hnow p8 (show 0 < 8 by decide)
  have hr : f_Roa_roadOf N (ur hc 38 (WRw X (Dw hc s 0))) (nI a) = some (nI (rdv hc s (hom hc a))) := by
    rw [f_Roa_roadOf, oh, bd_some, f_Roa_reaches, ix_nI p8 (by decide), gd_t, nI_clamp (by omega), eW, rdv]
    rcases x3 with ⟨y1, -⟩ | ⟨y1, -⟩
    · rw [y1]; rfl
    · have d5 : nI (Dw hc s 0 (hom hc a)) / 512 = nI (Dw hc s 0 (hom hc a) / 512) := div_r (m := 512) (by decide) (by decide) (by omega)
      rw [if_neg (show ¬ (1000000000 : Int32) ≤ nI (Dw hc s 0 (hom hc a)) from nI_ge (b := 1000000000) (by omega) (by decide)), bd_some, if_neg (by decide), f_Roa_stretchesTo, ix_nI p8 (by decide), gd_t, nI_clamp (by omega), eW, d5, bd_some, show (512 : Int32) = nI 512 from rfl, pk_mul, sub_n (by omega) (by omega), if_neg (by omega)]
      exact congrArg some (congrArg nI (by omega))
  refine ⟨hr, ?_⟩
  rw [f_Roa_useOf, hr, bd_some]
  exact use_l (by omega) hp (ur_n (by decide)) (ur_n (by decide)) rdv_lt
/-- the model's -/
theorem road_m (hN : 3000 ≤ N) (hp : Ipar (mg hc hm) s u) (hnow : Ist s u (hc.1 15) (hc.1 16) (hm.1 68)) {h : mu_H} (hV : VW hm h) {a : Nat} (ha : a < u) : ∃ h', VW hm h' ∧ f_Mod_roadOf N h (nI a) = some (nI (rdv hc s (hom hc a)), h') ∧ f_Mod_useOf N h' (nI (rdv hc s (hom hc a))) = some (nI (usa hc s a)) := by
  have h6 := hp.2.1
  have hV : sM [] [36, 37] hm h := hV
  have hp1 : Ipar (mg hc h) s u := Ipar_fr (mg_same (A := []) (B := []) (K := [36, 37]) sc_refl hV) (by decide) (by decide) hp
  obtain ⟨p8, -, e1⟩ := P_hom hp1 ha
  obtain ⟨h', x1, x2, -, x3⟩ := way_2 (N := N) hN hp1 (by rw [hV.1 68 (by decide) (by decide)]; exact hnow) p8 (show 0 < 8 by decide)
  have hV2 : VW hm h' := sM_trans hV x2
  have x2' : sM [] [36, 37] hm h' := hV2
  have hp2 : Ipar (mg hc h') s u := Ipar_fr (mg_same (A := []) (B := []) (K := [36, 37]) sc_refl x2') (by decide) (by decide) hp
  have oh : f_Mod_ofHouse N h (nI a) 0 = some (nI (hom hc a)) := by
    have := mofH (N := N) (h := h) (r := a) (k := 0) (by omega) (by decide)
    rw [e1] at this
    exact this
  refine ⟨h', hV2, ?_, use_m (by omega) hp2 rdv_lt⟩
  rw [show nI 0 = (0 : Int32) from rfl] at x1
  rw [f_Mod_roadOf, oh, bd_some, x1, bd_some, rdv]
  rcases x3 with ⟨y1, y2⟩ | ⟨y1, y2⟩
  · rw [if_pos y2, if_pos y1]; rfl
  · rw [if_neg (fun q => by rw [y2, neg1 (by omega)] at q; exact q), y2, if_neg (by omega)]
def usl (h : mu_H) (s u : Nat) : Nat := sig (usa h s) u
theorem usa_le (hp : Ipar (mg hc hm) s u) (a : Nat) : usa hc s a ≤ 81 := uso_le hp _
theorem usl_le (hp : Ipar (mg hc hm) s u) : ∀ n, sig (usa hc s) n ≤ 81 * n := by
  intro n
  induction n with
  | zero => exact Nat.le_refl 0
  | succ n ih => rw [sig_s]; have := usa_le hp n; omega
theorem all_c (hN : 3000 ≤ N) (hp : Ipar (mg hc hm) s u) (hnow : Ist s u (hc.1 15) (hc.1 16) (hm.1 68)) {X : Nat → Int32} : f_Roa_useOfAll N (ur hc 38 (WRw X (Dw hc s 0))) = some (nI (usl hc s u)) := by
  have h6 := hp.2.1
  have e4 : (ur hc 38 (WRw X (Dw hc s 0))).1 3 3 = nI u := by rw [ur_n (by decide)]; exact hp.2.2.2.2.1
  refine lp_end (body := f_Roa_useOfAll_L4 N (ur hc 38 (WRw X (Dw hc s 0)))) (fun i => (nI (sig (usa hc s) i), nI i)) u (v := some (nI (usl hc s u))) (fun i hi rec => ?_) (fun rec => ?_) (f := N) (by omega)
  · have hu := (road_c (N := N) (X := X) hN hp hnow hi).2
    simp (disch := omega) only [↓bn_eq, ↓jn_eq, ↓reduceIte, gd_t, bd_some, bn_eq, jn_eq, bi_some, if_pos, if_neg, i10, nI_lt_i, nI_le_i, nI_eq_i, ll_le, ll_lt, ll_eq, lr_le, lr_lt, lr_eq, ix_n, nI_clamp, nI_add, add_l, add_r, nI_mul, mul_l, mul_r, sub_n, sub_r, div_r, ite_some, if_true, if_false, and_self, and_true, true_and, false_and, and_false, Nat.reduceAdd, Nat.reduceMul, not_false_iff, not_true, f_Roa_useOfAll_L4, f_Par_houses, e4, hu, sig_s]
  · simp (disch := omega) only [↓bn_eq, ↓jn_eq, ↓reduceIte, gd_t, bd_some, bn_eq, jn_eq, bi_some, if_pos, if_neg, i10, nI_lt_i, nI_le_i, nI_eq_i, ll_le, ll_lt, ll_eq, lr_le, lr_lt, lr_eq, ix_n, nI_clamp, nI_add, add_l, add_r, nI_mul, mul_l, mul_r, sub_n, sub_r, div_r, ite_some, if_true, if_false, and_self, and_true, true_and, false_and, and_false, Nat.reduceAdd, Nat.reduceMul, not_false_iff, not_true, f_Roa_useOfAll_L4, f_Par_houses, e4, usl]
theorem all_m (hN : 3000 ≤ N) (hp : Ipar (mg hc hm) s u) (hnow : Ist s u (hc.1 15) (hc.1 16) (hm.1 68)) {h : mu_H} (hV : VW hm h) : ∃ h', VW hm h' ∧ f_Mod_useOfAll N h = some (nI (usl hc s u), h') := by
  have h6 := hp.2.1
  have e6 : hm.1 51 26 = nI u := hp.2.2.2.2.2.2.1
  exact lp_hx (body := f_Mod_useOfAll_L4 N) (VW hm) (fun i h => (nI (sig (usa hc s) i), nI i, h)) u (fun h => some (nI (usl hc s u), h)) (by
    intro i hi h hV
    have hh : h.1 51 26 = nI u := by rw [hV.2 26 (by decide)]; exact e6
    obtain ⟨h', v, r1, r2⟩ := road_m (N := N) hN hp hnow hV hi
    refine ⟨h', v, fun rec => ?_⟩
    simp (disch := omega) only [↓bn_eq, ↓jn_eq, ↓reduceIte, gd_t, bd_some, bn_eq, jn_eq, bi_some, if_pos, if_neg, i10, nI_lt_i, nI_le_i, nI_eq_i, ll_le, ll_lt, ll_eq, lr_le, lr_lt, lr_eq, ix_n, nI_clamp, nI_add, add_l, add_r, nI_mul, mul_l, mul_r, sub_n, sub_r, div_r, ite_some, if_true, if_false, and_self, and_true, true_and, false_and, and_false, Nat.reduceAdd, Nat.reduceMul, not_false_iff, not_true, f_Mod_useOfAll_L4, hh, r1, r2, sig_s]) (by
    intro h hV rec
    have hh : h.1 51 26 = nI u := by rw [hV.2 26 (by decide)]; exact e6
    simp (disch := omega) only [↓bn_eq, ↓jn_eq, ↓reduceIte, gd_t, bd_some, bn_eq, jn_eq, bi_some, if_pos, if_neg, i10, nI_lt_i, nI_le_i, nI_eq_i, ll_le, ll_lt, ll_eq, lr_le, lr_lt, lr_eq, ix_n, nI_clamp, nI_add, add_l, add_r, nI_mul, mul_l, mul_r, sub_n, sub_r, div_r, ite_some, if_true, if_false, and_self, and_true, true_and, false_and, and_false, Nat.reduceAdd, Nat.reduceMul, not_false_iff, not_true, f_Mod_useOfAll_L4, hh, usl]) N h hV (by omega)
theorem op_road (hN : 3000 ≤ N) (a1 : Int32) (hc hm : mu_H) (hI : Inv (mg hc hm)) : ∃ r hc' hm', f_Owe_road N hc a1 = some (r, hc') ∧ f_Mod_road N hm a1 = some (r, hm') ∧ (∀ c, 51 ≤ c → hc'.1 c = hc.1 c) ∧ (∀ c, c < 51 → hm'.1 c = hm.1 c) ∧ Inv (mg hc' hm') := by
  obtain ⟨s, u, o, hp, -, hnow⟩ := Cx_of hI
  have h9 := hp.1
  have h6 := hp.2.1
  have k1 := c_isH (N := N) (h := hc) (o := 3) hp.2.2.2.2.1 a1
  have k2 := m_isH (N := N) (h := hm) hp.2.2.2.2.2.2.1 h6 a1
  have h10 : ¬ (1 : Int32) = 0 := by decide
  have hw := wr_h hnow h9
  rcases in_or a1 u (by omega) with ⟨a, ha, rfl, q1, q2⟩ | no1
  · obtain ⟨X, hX⟩ := spr_from (N := N) (src := 0) hN hp (fun r hr => ⟨(hw r hr).1, (hw r hr).2.1⟩) (by decide)
    rw [show nI 0 = (0 : Int32) from rfl] at hX
    have f1 : sc [38] hc (ur hc 38 (WRw X (Dw hc s 0))) := sc_ur (by decide)
    obtain ⟨c1, -⟩ := road_c (N := N) (X := X) hN hp hnow ha
    obtain ⟨h', v, r1, -⟩ := road_m (N := N) hN hp hnow sM_refl ha
    refine ⟨nI (rdv hc s (hom hc a)), _, h', ?_, ?_, W_I hI f1 v⟩
    · simp only [f_Owe_road, k1, q1, q2, and_self, if_true, bd_some, if_neg h10, hX, c1]
    · simp only [f_Mod_road, k2, q1, q2, and_self, if_true, bd_some, if_neg h10, r1, bi_some]
  · refine ⟨-1, hc, hm, ?_, ?_, V_I hI VC_refl VM_refl⟩
    · simp only [f_Owe_road, k1, bd_some, if_neg no1, if_true]
    · simp only [f_Mod_road, k2, bd_some, if_neg no1, if_true]
theorem op_shares (hN : 3000 ≤ N) (a1 a2 : Int32) (hc hm : mu_H) (hI : Inv (mg hc hm)) : ∃ r hc' hm', f_Owe_shares N hc a1 a2 = some (r, hc') ∧ f_Mod_shares N hm a1 a2 = some (r, hm') ∧ (∀ c, 51 ≤ c → hc'.1 c = hc.1 c) ∧ (∀ c, c < 51 → hm'.1 c = hm.1 c) ∧ Inv (mg hc' hm') := by
  obtain ⟨s, u, o, hp, -, hnow⟩ := Cx_of hI
  have h9 := hp.1
  have h6 := hp.2.1
  have k1 := c_isH (N := N) (h := hc) (o := 3) hp.2.2.2.2.1 a1
  have k2 := m_isH (N := N) (h := hm) hp.2.2.2.2.2.2.1 h6 a1
  have k3 : f_Mod_in N hm a2 0 999 = some (if 0 ≤ a2 ∧ a2 < nI 1000 then 1 else 0) := m_in (n := 1000) (by decide) a2
  have h10 : ¬ (1 : Int32) = 0 := by decide
  have hw := wr_h hnow h9
  have hno := V_I hI VC_refl VM_refl
  rcases in_or a1 u (by omega) with ⟨a, ha, rfl, q1, q2⟩ | no1
  · rcases in_or a2 1000 (by decide) with ⟨c, hcc, rfl, q3, q4⟩ | no2
    · have n3 : ¬ nI c < 0 := nlt_le.mpr q3
      have n4 : nI c ≤ 999 := nI_le (b := 999) (by omega) (by decide)
      obtain ⟨X, hX⟩ := spr_from (N := N) (src := 0) hN hp (fun r hr => ⟨(hw r hr).1, (hw r hr).2.1⟩) (by decide)
      rw [show nI 0 = (0 : Int32) from rfl] at hX
      have f1 : sc [38] hc (ur hc 38 (WRw X (Dw hc s 0))) := sc_ur (by decide)
      obtain ⟨-, c2⟩ := road_c (N := N) (X := X) hN hp hnow ha
      have ca := all_c (N := N) (X := X) hN hp hnow
      obtain ⟨h1, v1, ma⟩ := all_m (N := N) hN hp hnow sM_refl
      obtain ⟨h', v, r1, r2⟩ := road_m (N := N) hN hp hnow v1 ha
      have hul := usl_le hp u
      rw [show sig (usa hc s) u = usl hc s u from rfl] at hul
      by_cases z : usl hc s u = 0
      · refine ⟨0, _, h1, ?_, ?_, W_I hI f1 v1⟩
        · simp only [f_Owe_shares, k1, q1, q2, and_self, if_true, bd_some, if_neg h10, if_neg n3, if_pos n4, hX, ca, z, if_pos (show nI 0 = (0 : Int32) from rfl)]
        · simp only [f_Mod_shares, k2, k3, q1, q2, q3, q4, and_self, if_true, bd_some, if_neg h10, ma, bi_some, z, if_pos (show nI 0 = (0 : Int32) from rfl)]
      · have z2 : ¬ nI (usl hc s u) = 0 := nI_ne0 (by omega) (by omega)
        have z3 : decide (¬ nI (usl hc s u) = 0) = true := by rw [decide_eq_true_eq]; exact z2
        refine ⟨nI c * nI (usa hc s a) / nI (usl hc s u), _, h', ?_, ?_, W_I hI f1 v⟩
        · simp only [f_Owe_shares, k1, q1, q2, and_self, if_true, bd_some, if_neg h10, if_neg n3, if_pos n4, hX, ca, if_neg z2, c2, z3, gd_t]
        · simp only [f_Mod_shares, k2, k3, q1, q2, q3, q4, and_self, if_true, bd_some, if_neg h10, ma, bi_some, if_neg z2, r1, r2, z3, gd_t]
    · refine ⟨-1, hc, hm, ?_, ?_, hno⟩
      · simp only [f_Owe_shares, k1, q1, q2, and_self, if_true, bd_some, if_neg h10]
        by_cases c : a2 < 0
        · rw [if_pos c]
        · rw [if_neg c, if_neg (fun q => no2 ⟨nlt_le.mp c, ?_⟩)]
          rw [Int32.lt_iff_toInt_lt]
          rw [Int32.le_iff_toInt_le] at q
          have z1 : (999 : Int32).toInt = 999 := rfl
          have z2 : (nI 1000).toInt = 1000 := rfl
          omega
      · simp only [f_Mod_shares, k2, k3, q1, q2, and_self, if_true, bd_some, if_neg h10, if_neg no2]
  · refine ⟨-1, hc, hm, ?_, ?_, hno⟩
    · simp only [f_Owe_shares, k1, bd_some, if_neg no1, if_true]
    · simp only [f_Mod_shares, k2, bd_some, if_neg no1, if_true]
theorem op_toll (hN : 3000 ≤ N) (a1 a2 : Int32) (hc hm : mu_H) (hI : Inv (mg hc hm)) : ∃ r hc' hm', f_Owe_toll N hc a1 a2 = some (r, hc') ∧ f_Mod_toll N hm a1 a2 = some (r, hm') ∧ (∀ c, 51 ≤ c → hc'.1 c = hc.1 c) ∧ (∀ c, c < 51 → hm'.1 c = hm.1 c) ∧ Inv (mg hc' hm') := by
  obtain ⟨s, u, o, hp, -, hnow⟩ := Cx_of hI
  have h9 := hp.1
  have h6 := hp.2.1
  have e3 : hc.1 3 2 = nI s := hp.2.2.2.1
  have e4 : hc.1 3 3 = nI u := hp.2.2.2.2.1
  have e5 : hm.1 51 25 = nI s := hp.2.2.2.2.2.1
  have e6 : hm.1 51 26 = nI u := hp.2.2.2.2.2.2.1
  have hz := nI_z (show s < 2 ^ 31 by omega)
  have h10 : ¬ (1 : Int32) = 0 := by decide
  have hw := wr_h hnow h9
  have hno := V_I hI VC_refl VM_refl
  have k1 := two_in (N := N) (h := hm) (a := 1) (b := 9) (by decide) (by decide) (by decide) a1
  rw [show nI 1 = (1 : Int32) from rfl, show nI 9 = (9 : Int32) from rfl] at k1
  have k3 : f_Mod_in N hm a2 0 1 = some (if 0 ≤ a2 ∧ a2 < nI 2 then 1 else 0) := m_in (n := 2) (by decide) a2
  by_cases hs : s = 0
  · refine ⟨-1, hc, hm, ?_, ?_, hno⟩
    · simp only [f_Owe_toll, f_Par_isNone, e3, hz.mpr hs, if_true, bd_some, if_neg h10]
    · simp only [f_Mod_toll, e5, hz.mpr hs, if_true]
  have h0 : ¬ nI s = 0 := fun q => hs (hz.mp q)
  have hu1 : 1 ≤ u := by
    have := hp.2.2.1
    omega
  simp only [f_Owe_toll, f_Par_isNone, e3, h0, if_false, bd_some, if_true, f_Mod_toll, e5, k1, k3, jn_eq]
  by_cases c1 : a1 < 1
  · refine ⟨-1, hc, hm, ?_, ?_, hno⟩
    · simp only [if_pos c1]
    · simp only [if_pos c1, if_true]
  by_cases c9 : 9 < a1
  · refine ⟨-1, hc, hm, ?_, ?_, hno⟩
    · simp only [if_neg c1, if_pos c9]
    · simp only [if_neg c1, if_pos c9, if_true]
  rcases in_or a2 2 (by decide) with ⟨w, hw2, rfl, q1, q2⟩ | no2
  · have n1 : ¬ nI w < 0 := nlt_le.mpr q1
    have n2 : nI w ≤ 1 := nI_le (b := 1) (by omega) (by decide)
    obtain ⟨X, hX⟩ := spr_from (N := N) (src := 0) hN hp (fun r hr => ⟨(hw r hr).1, (hw r hr).2.1⟩) (by decide)
    rw [show nI 0 = (0 : Int32) from rfl] at hX
    have f1 : sc [38] hc (ur hc 38 (WRw X (Dw hc s 0))) := sc_ur (by decide)
    have hrc := fun i (hi : i < u) => (road_c (N := N) (X := X) hN hp hnow hi).2
    have ca := all_c (N := N) (X := X) hN hp hnow
    have e4' : (ur hc 38 (WRw X (Dw hc s 0))).1 3 3 = nI u := by rw [ur_n (by decide)]; exact e4
    have hul := fun a => usa_le hp a
    obtain ⟨b, hb⟩ : ∃ b : Nat → Nat, b = fun i => fold (fun i x => if usa hc s (i + 1) ≤ usa hc s x then x else i + 1) 0 i := ⟨_, rfl⟩
    have b0 : b 0 = 0 := by rw [hb]; rfl
    have b1 : ∀ i, b (i + 1) = if usa hc s (i + 1) ≤ usa hc s (b i) then b i else i + 1 := by intro i; rw [hb]; rfl
    have bl : ∀ i, b i ≤ i := by
      intro i
      induction i with
      | zero => rw [b0]; exact Nat.le_refl 0
      | succ i ih => rw [b1]; split <;> omega
    have L1 : f_Roa_mostUsing N (ur hc 38 (WRw X (Dw hc s 0))) = some (nI (b (u - 1))) := by
      have key := lp_end (body := f_Roa_mostUsing_L4 N (ur hc 38 (WRw X (Dw hc s 0)))) (fun i => (nI (b i), nI (i + 1))) (u - 1) (v := some (nI (b (u - 1)))) (fun i hi rec => by
        have := bl i
        have l1 := hul (i + 1)
        have l2 := hul (b i)
        simp (disch := omega) only [↓bn_eq, ↓jn_eq, ↓reduceIte, gd_t, bd_some, bn_eq, jn_eq, bi_some, if_pos, if_neg, i10, nI_lt_i, nI_le_i, nI_eq_i, ll_le, ll_lt, ll_eq, lr_le, lr_lt, lr_eq, ix_n, nI_clamp, nI_add, add_l, add_r, nI_mul, mul_l, mul_r, sub_n, sub_r, div_r, ite_some, if_true, if_false, and_self, and_true, true_and, false_and, and_false, Nat.reduceAdd, Nat.reduceMul, not_false_iff, not_true, f_Roa_mostUsing_L4, f_Par_houses, e4', hrc (i + 1) (by omega), hrc (b i) (by omega), b1]
        by_cases c : usa hc s (i + 1) ≤ usa hc s (b i)
        · simp [c]
        · simp [c]) (fun rec => by
        simp (disch := omega) only [↓bn_eq, ↓jn_eq, ↓reduceIte, gd_t, bd_some, bn_eq, jn_eq, bi_some, if_pos, if_neg, i10, nI_lt_i, nI_le_i, nI_eq_i, ll_le, ll_lt, ll_eq, lr_le, lr_lt, lr_eq, ix_n, nI_clamp, nI_add, add_l, add_r, nI_mul, mul_l, mul_r, sub_n, sub_r, div_r, ite_some, if_true, if_false, and_self, and_true, true_and, false_and, and_false, Nat.reduceAdd, Nat.reduceMul, not_false_iff, not_true, f_Roa_mostUsing_L4, f_Par_houses, e4']) (f := N) (by omega)
      rw [b0] at key
      exact key
    have L2 := lp_hk (body := fun k => f_Mod_toll_L33 N k) (VW hm) (fun i h => (nI (b i), nI (i + 1), h)) (u - 1) (fun k h => k (nI (b (u - 1)), h)) (by
      intro i hi h hV
      have := bl i
      have hh : h.1 51 26 = nI u := by rw [hV.2 26 (by decide)]; exact e6
      obtain ⟨h1, v1, r1, r2⟩ := road_m (N := N) hN hp hnow hV (show i + 1 < u by omega)
      obtain ⟨h2, v2, r3, r4⟩ := road_m (N := N) hN hp hnow v1 (show b i < u by omega)
      have l1 := hul (i + 1)
      have l2 := hul (b i)
      refine ⟨h2, v2, fun k rec => ?_⟩
      simp (disch := omega) only [↓bn_eq, ↓jn_eq, ↓reduceIte, gd_t, bd_some, bn_eq, jn_eq, bi_some, if_pos, if_neg, i10, nI_lt_i, nI_le_i, nI_eq_i, ll_le, ll_lt, ll_eq, lr_le, lr_lt, lr_eq, ix_n, nI_clamp, nI_add, add_l, add_r, nI_mul, mul_l, mul_r, sub_n, sub_r, div_r, ite_some, if_true, if_false, and_self, and_true, true_and, false_and, and_false, Nat.reduceAdd, Nat.reduceMul, not_false_iff, not_true, f_Mod_toll_L33, hh, r1, r2, r3, r4, b1]
      by_cases c : usa hc s (i + 1) ≤ usa hc s (b i)
      · simp [c]
      · simp [c]) (by
      intro h hV k rec
      have hh : h.1 51 26 = nI u := by rw [hV.2 26 (by decide)]; exact e6
      simp (disch := omega) only [↓bn_eq, ↓jn_eq, ↓reduceIte, gd_t, bd_some, bn_eq, jn_eq, bi_some, if_pos, if_neg, i10, nI_lt_i, nI_le_i, nI_eq_i, ll_le, ll_lt, ll_eq, lr_le, lr_lt, lr_eq, ix_n, nI_clamp, nI_add, add_l, add_r, nI_mul, mul_l, mul_r, sub_n, sub_r, div_r, ite_some, if_true, if_false, and_self, and_true, true_and, false_and, and_false, Nat.reduceAdd, Nat.reduceMul, not_false_iff, not_true, f_Mod_toll_L33, hh]) N hm sM_refl (by omega)
    obtain ⟨h1, v1, L2⟩ := L2
    rw [b0] at L2
    have L2 : ∀ k, lp (f_Mod_toll_L33 N k) N (0, 1, hm) = k (nI (b (u - 1)), h1) := L2
    rcases (show w = 0 ∨ w = 1 by omega) with rfl | rfl
    · refine ⟨nI (b (u - 1)), _, h1, ?_, ?_, W_I hI f1 v1⟩
      · simp only [if_neg c1, if_neg c9, if_neg n1, if_pos n2, hX, if_pos (show nI 0 = (0 : Int32) from rfl), L1, bd_some]
      · simp only [if_neg c1, if_neg c9, if_neg h10, q1, q2, and_self, if_true, bd_some, L2, if_pos (show nI 0 = (0 : Int32) from rfl)]
    · obtain ⟨h2, v2, ma⟩ := all_m (N := N) hN hp hnow v1
      refine ⟨a1 * nI (usl hc s u), _, h2, ?_, ?_, W_I hI f1 v2⟩
      · simp only [if_neg c1, if_neg c9, if_neg n1, if_pos n2, hX, if_neg (show ¬ nI 1 = (0 : Int32) from by decide), ca, bd_some]
      · simp only [if_neg c1, if_neg c9, if_neg h10, q1, q2, and_self, if_true, bd_some, L2, if_neg (show ¬ nI 1 = (0 : Int32) from by decide), ma, bi_some]
  · refine ⟨-1, hc, hm, ?_, ?_, hno⟩
    · simp only [if_neg c1, if_neg c9]
      by_cases c : a2 < 0
      · rw [if_pos c]
      · rw [if_neg c, if_neg (fun q => no2 ⟨nlt_le.mp c, ?_⟩)]
        rw [Int32.lt_iff_toInt_lt]
        rw [Int32.le_iff_toInt_le] at q
        have z1 : (1 : Int32).toInt = 1 := rfl
        have z2 : (nI 2).toInt = 2 := rfl
        omega
    · simp only [if_neg c1, if_neg c9, if_neg h10, if_neg no2, bd_some, if_true]
end Road
