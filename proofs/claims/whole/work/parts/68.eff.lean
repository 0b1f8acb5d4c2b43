/-! effect, doesBy; does -/
theorem eff_2 {N s u : Nat} {hc hm : mu_H} {o : Option (List Cla)} (hN : 3000 ≤ N) (hp : Ipar (mg hc hm) s u) (hl : HL hc hm o) (hnow : Ist s u (hc.1 15) (hc.1 16) (hm.1 68)) {a r w k : Nat} (ha : a < u) (hr : r < s) (hw : w ≤ 99) (hk : k < 4) (hcm : k = 2 ∨ k = 3 ∨ cme hc a r = true) : ∃ hc' hm', f_Lab_effect N hc (nI a) (nI r) (nI k) (nI w) = some (nI (efv hc o a r k w), hc') ∧ f_Mod_doesBy N hm (nI a) (nI r) (nI k) (nI w) = some (nI (efv hc o a r k w), hm') ∧ sc [26, 29, 32, 35, 36] hc hc' ∧ sM [60, 61] [] hm hm' ∧ hc'.2 = hc.2 ∧ hm'.2 = hm.2 := by
  obtain ⟨n, hn, n31, -, -, -⟩ := hnow.2.2.2.1
  have n32 : hm.1 68 32 = nI n := hnow.2.2.1.symm.trans n31
  have ht31 : tn (hc.1 15 31) = n := by rw [n31]; exact tn_n (by omega)
  have z31 : (31 : Int32).toNatClampNeg = 31 := rfl
  have i31 : ix 31 34 = true := rfl
  have z32 : (32 : Int32).toNatClampNeg = 32 := rfl
  have i32 : ix 32 214 = true := rfl
  have h4 : n - n / 4 * 4 = n % 4 := by omega
  have hN4 : nI n - nI n / 4 * 4 = nI (n % 4) := by
    simp (disch := omega) only [↓bn_eq, ↓jn_eq, ↓reduceIte, gd_t, bd_some, bn_eq, jn_eq, bi_some, if_pos, if_neg, i10, nI_lt_i, nI_le_i, nI_eq_i, ll_le, ll_lt, ll_eq, lr_le, lr_lt, lr_eq, ix_n, nI_clamp, nI_add, add_l, add_r, nI_mul, mul_l, mul_r, sub_n, sub_r, div_r, ite_some, if_true, if_false, and_self, and_true, true_and, false_and, and_false, Nat.reduceAdd, Nat.reduceMul, not_false_iff, not_true, h4]
  have h10 : ¬ (1 : Int32) = 0 := by decide
  have hwin : ∀ h' : mu_H, h'.1 15 = hc.1 15 → f_Sta_isWinter N h' 14 = some (if n % 4 = 3 then 1 else 0) := by
    intro h' e
    simp only [f_Sta_isWinter, i31, gd_t, z31, Nat.reduceAdd, e, n31, hN4]
    by_cases c : n % 4 = 3
    · rw [if_pos c, if_pos (by rw [c]; rfl)]
    · rw [if_neg c, if_neg (show ¬ nI (n % 4) = 3 from fun q => c (nI_inj (b := 3) (by omega) (by decide) q))]
  have hwm : ∀ h' : mu_H, f_Mod_isWinter N h' (nI n) = some (if n % 4 = 3 then 1 else 0) := by
    intro h'
    simp only [f_Mod_isWinter, hN4]
    by_cases c : n % 4 = 3
    · rw [if_pos c, if_pos (by rw [c]; rfl)]
    · rw [if_neg c, if_neg (show ¬ nI (n % 4) = 3 from fun q => c (nI_inj (b := 3) (by omega) (by decide) q))]
  rcases (show k = 2 ∨ k = 3 ∨ k = 0 ∨ k = 1 by omega) with rfl | rfl | hk2
  · refine ⟨hc, hm, ?_, ?_, sc_refl, sM_refl, rfl, rfl⟩
    · simp only [f_Lab_effect, jn_eq, show nI 2 = (2 : Int32) from rfl, if_true, hwin hc rfl, bd_some, show ¬ (2 : Int32) = 1 from by decide, if_false, efv, ht31]
      by_cases c : n % 4 = 3
      · rw [if_pos c, if_pos c, if_neg h10]; rfl
      · rw [if_neg c, if_neg c, if_pos rfl]; rfl
    · simp only [f_Mod_doesBy, jn_eq, show nI 2 = (2 : Int32) from rfl, if_true, show ¬ (2 : Int32) = 1 from by decide, show ¬ (2 : Int32) = 0 from by decide, if_false, i32, gd_t, z32, n32, hwm, bd_some, efv, ht31]
      by_cases c : n % 4 = 3
      · rw [if_pos c, if_pos c, if_neg h10]; rfl
      · rw [if_neg c, if_neg c, if_pos rfl]; rfl
  · refine ⟨hc, hm, ?_, ?_, sc_refl, sM_refl, rfl, rfl⟩
    · simp only [f_Lab_effect, jn_eq, show nI 3 = (3 : Int32) from rfl, if_true, hwin hc rfl, bd_some, show ¬ (3 : Int32) = 1 from by decide, show ¬ (3 : Int32) = 2 from by decide, if_false, efv, ht31, show ¬ (3 : Nat) = 2 from by decide]
      by_cases c : n % 4 = 3
      · rw [if_pos c, if_pos c, if_neg h10]; rfl
      · rw [if_neg c, if_neg c, if_pos rfl]; rfl
    · simp only [f_Mod_doesBy, jn_eq, show nI 3 = (3 : Int32) from rfl, if_true, show ¬ (3 : Int32) = 1 from by decide, show ¬ (3 : Int32) = 0 from by decide, show ¬ (3 : Int32) = 2 from by decide, if_false, i32, gd_t, z32, n32, hwm, bd_some, efv, ht31, show ¬ (3 : Nat) = 2 from by decide]
      by_cases c : n % 4 = 3
      · rw [if_pos c, if_pos c, if_neg h10]; rfl
      · rw [if_neg c, if_neg c, if_pos rfl]; rfl
  · have hcm : cme hc a r = true := by
      rcases hcm with q | q | q
      · omega
      · omega
      · exact q
    obtain ⟨hc', w1, w2, w3⟩ := own_c hN hp hl hnow ha hr hw hcm
    obtain ⟨hm', v1, v2, v3⟩ := own_m (k := k) hN hp hl hnow ha hr hw (by omega) hcm
    refine ⟨hc', hm', ?_, v1, w2, v2, w3, v3⟩
    have hle : ownv hc o a r w ≤ 99 := cl99_le _
    have d2 : ∀ v, v ≤ 99 → nI v / 2 = nI (v / 2) := fun v hv => div_r (m := 2) (by decide) (by decide) (by omega)
    rcases hk2 with rfl | rfl
    · simp only [f_Lab_effect, jn_eq, show nI 0 = (0 : Int32) from rfl, show ¬ (0 : Int32) = 1 from by decide, show ¬ (0 : Int32) = 2 from by decide, show ¬ (0 : Int32) = 3 from by decide, if_false, w1, bi_some, hwin hc' (w2 15 (by decide)), bd_some, efv, ht31, show ¬ (0 : Nat) = 2 from by decide, show ¬ (0 : Nat) = 3 from by decide, Nat.zero_add, Nat.div_one]
      by_cases c : n % 4 = 3
      · rw [if_pos c, if_pos c, if_neg h10, d2 _ hle]
      · rw [if_neg c, if_neg c, if_pos rfl]
    · simp only [f_Lab_effect, jn_eq, show nI 1 = (1 : Int32) from rfl, if_true, show ¬ (1 : Int32) = 2 from by decide, show ¬ (1 : Int32) = 3 from by decide, if_false, w1, bi_some, bn_eq, hwin hc' (w2 15 (by decide)), bd_some, efv, ht31, show ¬ (1 : Nat) = 2 from by decide, show ¬ (1 : Nat) = 3 from by decide, Nat.reduceAdd, d2 _ hle]
      by_cases c : n % 4 = 3
      · rw [if_pos c, if_pos c, if_neg h10, d2 _ (by omega)]
      · rw [if_neg c, if_neg c, if_pos rfl]
theorem st_fr {h h' : mu_H} {x y : Int32} (e4 : h'.1 4 = h.1 4) (e5 : h'.1 5 = h.1 5) : f_Par_stepsTo 0 h' 3 x y = f_Par_stepsTo 0 h 3 x y := by
  simp only [f_Par_stepsTo, f_Par_ofHouse, f_Par_ofStretch, e4, e5]
theorem cme_fr {h h' : mu_H} {a r : Nat} (e4 : h'.1 4 = h.1 4) (e5 : h'.1 5 = h.1 5) : cme h' a r = cme h a r := by
  rw [cme, cme, st_fr e4 e5]
theorem efv_fr {h h' : mu_H} {o : Option (List Cla)} {a r k w : Nat} (e4 : h'.1 4 = h.1 4) (e5 : h'.1 5 = h.1 5) (e15 : h'.1 15 = h.1 15) : efv h' o a r k w = efv h o a r k w := by
  have h1 : ∀ i, ltr h' a r w i = ltr h a r w i := fun i => by simp only [ltr, dst, ct, zl, st_fr e4 e5, e4, e15]
  have h2 : ltr h' a r w = ltr h a r w := funext h1
  simp only [efv, ownv, h2, dst, ct, st_fr e4 e5, e4, e15]
/-- scratch of a day: nothing of the invariant -/
theorem scr_I {hc hm hc' hm' : mu_H} (hI : Inv (mg hc hm)) (f1 : sc [26, 29, 32, 35, 36] hc hc') (f2 : sM [60, 61] [] hm hm') : (∀ c, 51 ≤ c → hc'.1 c = hc.1 c) ∧ (∀ c, c < 51 → hm'.1 c = hm.1 c) ∧ Inv (mg hc' hm') := by
  obtain ⟨s, u, hp, ⟨nse, hsee⟩, hnow, himg, hpas, htap, hlaw, href⟩ := hI
  have e := mg_same f1 f2
  exact ⟨(hi_of f1 (by decide)), (lo_of f2 (by decide)), s, u, (Ipar_fr e (by decide) (by decide) hp), ⟨_, Isee_fr e (by decide) (by decide) hsee⟩, (Inow_fr e (by decide) hnow), (Iimg_fr e (by decide) (by decide) himg), (Ipas_fr e (by decide) (by decide) hpas), (Itap_fr e (by decide) (by decide) htap), (Ilaw_fr e (by decide) (by decide) hlaw), (Iref_fr e (by decide) href)⟩
theorem wear_2 {s u : Nat} {hc hm : mu_H} (hnow : Ist s u (hc.1 15) (hc.1 16) (hm.1 68)) {r : Nat} (hr : r < 9) : ∃ w, w ≤ 99 ∧ hc.1 15 r = nI w ∧ hm.1 68 r = nI w := by
  obtain ⟨⟨w, hw, e⟩, -, -⟩ := hnow.2.2.2.2.1 r hr
  exact ⟨w, hw, e, (hnow.1 r (by omega)).symm.trans e⟩
/-! the view of a call that asks what days do: base heaps, and heaps that differ in scratch alone -/
def Cx (hc hm : mu_H) (s u : Nat) (o : Option (List Cla)) : Prop := Ipar (mg hc hm) s u ∧ HL hc hm o ∧ Ist s u (hc.1 15) (hc.1 16) (hm.1 68)
def VC (h : mu_H) : mu_H → Prop := sc [26, 29, 32, 35, 36, 43, 44, 45, 46, 47, 48, 49] h
def VM (h : mu_H) : mu_H → Prop := sM [60, 61, 72] [35] h
theorem Cx_of {hc hm : mu_H} (hI : Inv (mg hc hm)) : ∃ s u o, Cx hc hm s u o := by
  obtain ⟨s, u, hp, ⟨nse, hsee⟩, hnow, himg, hpas, htap, hlaw, href⟩ := hI
  obtain ⟨o, ho⟩ := HL_of hlaw
  exact ⟨s, u, o, hp, ho, hnow⟩
theorem Cx_V {hc hm hc' hm' : mu_H} {s u : Nat} {o : Option (List Cla)} (h : Cx hc hm s u o) (h1 : VC hc hc') (h2 : VM hm hm') : Cx hc' hm' s u o := by
  obtain ⟨a, b, c⟩ := h
  refine ⟨Ipar_fr (mg_same h1 h2) (by decide) (by decide) a, HL_fr h1 h2 (by decide) (by decide) (by decide) (by decide) b, ?_⟩
  rw [h1 15 (by decide), h1 16 (by decide), h2.1 68 (by decide) (by decide)]
  exact c
theorem VC_refl {h : mu_H} : VC h h := sc_refl
theorem VM_refl {h : mu_H} : VM h h := sM_refl
theorem V_I {hc hm hc' hm' : mu_H} (hI : Inv (mg hc hm)) (f1 : VC hc hc') (f2 : VM hm hm') : (∀ c, 51 ≤ c → hc'.1 c = hc.1 c) ∧ (∀ c, c < 51 → hm'.1 c = hm.1 c) ∧ Inv (mg hc' hm') := by
  obtain ⟨s, u, hp, ⟨nse, hsee⟩, hnow, himg, hpas, htap, hlaw, href⟩ := hI
  have f1 : sc [26, 29, 32, 35, 36, 43, 44, 45, 46, 47, 48, 49] hc hc' := f1
  have f2 : sM [60, 61, 72] [35] hm hm' := f2
  have e := mg_same f1 f2
  exact ⟨(hi_of f1 (by decide)), (lo_of f2 (by decide)), s, u, (Ipar_fr e (by decide) (by decide) hp), ⟨_, Isee_fr e (by decide) (by decide) hsee⟩, (Inow_fr e (by decide) hnow), (Iimg_fr e (by decide) (by decide) himg), (Ipas_fr e (by decide) (by decide) hpas), (Itap_fr e (by decide) (by decide) htap), (Ilaw_fr e (by decide) (by decide) hlaw), (Iref_fr e (by decide) href)⟩
theorem efv_V {h h' : mu_H} {o : Option (List Cla)} {a r k w : Nat} (f : VC h h') : efv h' o a r k w = efv h o a r k w := efv_fr (f 4 (by decide)) (f 5 (by decide)) (f 15 (by decide))
theorem cme_V {h h' : mu_H} {a r : Nat} (f : VC h h') : cme h' a r = cme h a r := cme_fr (f 4 (by decide)) (f 5 (by decide))
section Cxs
variable {N s u a r k w : Nat} {hc hm hc' hm' : mu_H} {o : Option (List Cla)}
theorem ec (hX : Cx hc hm s u o) (hN : 3000 ≤ N) (f : VC hc hc') (ha : a < u) (hr : r < s) (hw : w ≤ 99) (hk : k < 4) (hcm : k = 2 ∨ k = 3 ∨ cme hc a r = true) : ∃ hc2, VC hc hc2 ∧ f_Lab_effect N hc' (nI a) (nI r) (nI k) (nI w) = some (nI (efv hc o a r k w), hc2) := by
  obtain ⟨h1, h2, h3⟩ := Cx_V hX f VM_refl
  obtain ⟨hc2, -, w1, -, w2, -⟩ := eff_2 hN h1 h2 h3 ha hr hw hk (by rw [cme_V f]; exact hcm)
  rw [efv_V f] at w1
  exact ⟨hc2, sc_trans f (sc_mono w2 (by decide)), w1⟩
theorem em (hX : Cx hc hm s u o) (hN : 3000 ≤ N) (f : VM hm hm') (ha : a < u) (hr : r < s) (hw : w ≤ 99) (hk : k < 4) (hcm : k = 2 ∨ k = 3 ∨ cme hc a r = true) : ∃ hm2, VM hm hm2 ∧ f_Mod_doesBy N hm' (nI a) (nI r) (nI k) (nI w) = some (nI (efv hc o a r k w), hm2) := by
  obtain ⟨h1, h2, h3⟩ := Cx_V hX VC_refl f
  obtain ⟨-, hm2, -, w1, -, w2, -⟩ := eff_2 hN h1 h2 h3 ha hr hw hk hcm
  exact ⟨hm2, sM_trans f (sM_mono w2 (by decide) (by decide)), w1⟩
theorem wr_2 (hX : Cx hc hm s u o) (hr : r < s) : tn (hc.1 15 r) ≤ 99 ∧ hc.1 15 r = nI (tn (hc.1 15 r)) ∧ hm.1 68 r = nI (tn (hc.1 15 r)) := by
  have h9 := hX.1.1
  obtain ⟨w, hw, e1, e2⟩ := wear_2 hX.2.2 (show r < 9 by omega)
  rw [e1, tn_n (by omega)]
  exact ⟨hw, rfl, e2⟩
/-- what it does now -/
def efn (h : mu_H) (o : Option (List Cla)) (a r k : Nat) : Nat := efv h o a r k (tn (h.1 15 r))
theorem efn_le {h : mu_H} : efn h o a r k ≤ 99 := efv_le
theorem ecn (hX : Cx hc hm s u o) (hN : 3000 ≤ N) (f : VC hc hc') (ha : a < u) (hr : r < s) (hk : k < 4) (hcm : k = 2 ∨ k = 3 ∨ cme hc a r = true) : ∃ hc2, VC hc hc2 ∧ f_Lab_effectNow N hc' (nI a) (nI r) (nI k) = some (nI (efn hc o a r k), hc2) := by
  have h9 := hX.1.1
  obtain ⟨w1, w2, -⟩ := wr_2 hX hr
  obtain ⟨hc2, v1, v2⟩ := ec hX hN f ha hr w1 hk hcm
  refine ⟨hc2, v1, ?_⟩
  rw [f_Lab_effectNow, wearS (o := 14) (show r < 34 by omega), f 15 (by decide), w2, bd_some, v2]
  rfl
theorem emn (hX : Cx hc hm s u o) (hN : 3000 ≤ N) (f : VM hm hm') (ha : a < u) (hr : r < s) (hk : k < 4) (hcm : k = 2 ∨ k = 3 ∨ cme hc a r = true) : ∃ hm2, VM hm hm2 ∧ f_Mod_doesNow N hm' (nI a) (nI r) (nI k) = some (nI (efn hc o a r k), hm2) := by
  have h9 := hX.1.1
  obtain ⟨w1, -, w2⟩ := wr_2 hX hr
  obtain ⟨hm2, v1, v2⟩ := em hX hN f ha hr w1 hk hcm
  refine ⟨hm2, v1, ?_⟩
  rw [f_Mod_doesNow, show 0 + nI r = nI r from add0 _, ix_nI (show r < 214 by omega) (by decide), gd_t, nI_clamp (show r < 2147483648 by omega), f.1 68 (by decide) (by decide), w2, v2]
  rfl
theorem cmc (hX : Cx hc hm s u o) (f : VC hc hc') (ha : a < u) (hr : r < s) : f_Lab_canCome N hc' (nI a) (nI r) = some (if cme hc a r = true then 1 else 0) := by
  have h1 := (come_c (Cx_V hX f VM_refl).1 N ha hr).1
  rw [cme_V f] at h1
  exact h1
theorem cmm (hX : Cx hc hm s u o) (f : VM hm hm') (ha : a < u) (hr : r < s) : f_Mod_comes N hm' (nI a) (nI r) = some (if cme hc a r = true then 1 else 0) := (come_c (Cx_V hX VC_refl f).1 N ha hr).2
end Cxs
/-- a loop whose states are known but for scratch -/
theorem lp_hx {σ ρ : Type} {body : (σ → Option ρ) → σ → Option ρ} (V : mu_H → Prop) (st : Nat → mu_H → σ) (n : Nat) (k : mu_H → Option ρ) (hs : ∀ i, i < n → ∀ h, V h → ∃ h', V h' ∧ ∀ rec : σ → Option ρ, body rec (st i h) = rec (st (i + 1) h')) (he : ∀ h, V h → ∀ rec : σ → Option ρ, body rec (st n h) = k h) : ∀ N h, V h → n < N → ∃ h', V h' ∧ lp body N (st 0 h) = k h' := by
  have key : ∀ d i, i + d = n → ∀ N h, V h → d < N → ∃ h', V h' ∧ lp body N (st i h) = k h' := by
    intro d
    induction d with
    | zero =>
      intro i hi N h hV hN
      obtain ⟨f, rfl⟩ : ∃ f, N = f + 1 := ⟨N - 1, by omega⟩
      have : i = n := by omega
      subst this
      exact ⟨h, hV, he h hV (lp body f)⟩
    | succ d ih =>
      intro i hi N h hV hN
      obtain ⟨f, rfl⟩ : ∃ f, N = f + 1 := ⟨N - 1, by omega⟩
      obtain ⟨h1, v1, e1⟩ := hs i (by omega) h hV
      obtain ⟨h2, v2, e2⟩ := ih (i + 1) (by omega) f h1 v1 (by omega)
      exact ⟨h2, v2, (e1 (lp body f)).trans e2⟩
  exact fun N h hV hN => key n 0 (by omega) N h hV hN
theorem op_does {N : Nat} (hN : 3000 ≤ N) (a1 a2 a3 : Int32) (hc hm : mu_H) (hI : Inv (mg hc hm)) : ∃ r hc' hm', f_Owe_does N hc a1 a2 a3 = some (r, hc') ∧ f_Mod_does N hm a1 a2 a3 = some (r, hm') ∧ (∀ c, 51 ≤ c → hc'.1 c = hc.1 c) ∧ (∀ c, c < 51 → hm'.1 c = hm.1 c) ∧ Inv (mg hc' hm') := by
  obtain ⟨s, u, o, hX⟩ := Cx_of hI
  have hp := hX.1
  have h9 := hp.1
  have h6 := hp.2.1
  have k1 := c_isH (N := N) (h := hc) (o := 3) hp.2.2.2.2.1 a1
  have k2 := m_isH (N := N) (h := hm) hp.2.2.2.2.2.2.1 h6 a1
  have k3 := c_isS (N := N) (h := hc) (o := 3) hp.2.2.2.1 a2
  have k4 := m_isS (N := N) (h := hm) hp.2.2.2.2.2.1 h9 a2
  have h10 : ¬ (1 : Int32) = 0 := by decide
  have hno := V_I hI VC_refl VM_refl
  have k5 : f_Mod_in N hm a3 0 3 = some (if 0 ≤ a3 ∧ a3 < nI 4 then 1 else 0) := m_in (n := 4) (by decide) a3
  rcases in_or a1 u (by omega) with ⟨a, ha, rfl, q1, q2⟩ | no1
  · rcases in_or a2 s (by omega) with ⟨r, hr, rfl, q3, q4⟩ | no2
    · rcases in_or a3 4 (by decide) with ⟨k, hk, rfl, q5, q6⟩ | no3
      · have q5' : ¬ nI k < 0 := nlt_le.mpr q5
        have q6' : nI k < 4 := q6
        obtain ⟨w1, w2, -⟩ := wr_2 hX hr
        have kc := cmc (N := N) hX VC_refl ha hr
        have km := cmm (N := N) hX VM_refl ha hr
        by_cases c : k = 2 ∨ cme hc a r = true
        · obtain ⟨hc', v1, e1⟩ := ec (N := N) hX hN VC_refl ha hr w1 hk (by rcases c with c | c; exact Or.inl c; exact Or.inr (Or.inr c))
          obtain ⟨hm', v2, e2⟩ := emn (N := N) hX hN VM_refl ha hr hk (by rcases c with c | c; exact Or.inl c; exact Or.inr (Or.inr c))
          refine ⟨nI (efn hc o a r k), hc', hm', ?_, ?_, V_I hI v1 v2⟩
          · have hcw : f_Lab_canWork N hc (nI a) (nI r) (nI k) = some 1 := by
              rw [f_Lab_canWork, kc]
              rcases c with c | c
              · rw [if_pos (by rw [c]; rfl)]
              · rw [c]; split <;> rfl
            simp only [f_Owe_does, k1, k3, q1, q2, q3, q4, and_self, if_true, bd_some, if_neg h10, if_neg q5', if_pos q6', hcw, wearS (o := 14) (show r < 34 by omega), Nat.reduceAdd]
            rw [w2, e1]
            rfl
          · simp only [f_Mod_does, k2, k4, k5, q1, q2, q3, q4, q5, q6, and_self, if_true, bd_some, if_neg h10, jn_eq, e2, bi_some, km]
            rcases c with c | c
            · rw [if_pos (by rw [c]; rfl)]
            · rw [c]; split <;> rfl
        · have ck : ¬ nI k = 2 := fun q => c (Or.inl (nI_inj (b := 2) (by omega) (by decide) q))
          have cc : ¬ cme hc a r = true := fun q => c (Or.inr q)
          refine ⟨-1, hc, hm, ?_, ?_, hno⟩
          · simp only [f_Owe_does, k1, k3, q1, q2, q3, q4, and_self, if_true, bd_some, if_neg h10, if_neg q5', if_pos q6', f_Lab_canWork, kc, if_neg ck, if_neg cc]
          · simp only [f_Mod_does, k2, k4, k5, q1, q2, q3, q4, q5, q6, and_self, if_true, bd_some, if_neg h10, jn_eq, km, if_neg ck, if_neg cc]
      · refine ⟨-1, hc, hm, ?_, ?_, hno⟩
        · simp only [f_Owe_does, k1, k3, q1, q2, q3, q4, and_self, if_true, bd_some, if_neg h10]
          by_cases c : a3 < 0
          · rw [if_pos c]
          · rw [if_neg c, if_neg (show ¬ a3 < 4 from fun q => no3 ⟨nlt_le.mp c, q⟩)]
        · simp only [f_Mod_does, k2, k4, k5, q1, q2, q3, q4, and_self, if_true, bd_some, if_neg h10, if_neg no3]
    · refine ⟨-1, hc, hm, ?_, ?_, hno⟩
      · simp only [f_Owe_does, k1, k3, q1, q2, and_self, if_true, bd_some, if_neg h10, if_neg no2]
      · simp only [f_Mod_does, k2, k4, q1, q2, and_self, if_true, bd_some, if_neg h10, if_neg no2]
  · refine ⟨-1, hc, hm, ?_, ?_, hno⟩
    · simp only [f_Owe_does, k1, bd_some, if_neg no1, if_true]
    · simp only [f_Mod_does, k2, bd_some, if_neg no1, if_true]
