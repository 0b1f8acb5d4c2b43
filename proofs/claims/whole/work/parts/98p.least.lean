/-! least -/
section Least
variable {N s u r goal : Nat} {hc hm : mu_H} {o : Option (List Cla)}
def KL (hc : mu_H) (u r : Nat) (L : Nat → Nat) (a : Nat) : Nat := if a < u ∧ cme hc a r = true then L a else 0
theorem KL_u {L : Nat → Nat} {a v : Nat} (ha : a < u) (hcm : cme hc a r = true) : KL hc u r (uN L a v) = uN (KL hc u r L) a v := by
  funext b
  rw [KL]
  by_cases q : b = a
  · subst q; rw [if_pos ⟨ha, hcm⟩, uN_s, uN_s]
  · rw [uN_n q, uN_n q, KL]
def MH (hm h : mu_H) (u : Nat) (L : Nat → Nat) : Prop := VM hm h ∧ ∀ a, a < u → h.1 72 a = nI (L a)
theorem emw (hX : Cx hc hm s u o) (hN : 3000 ≤ N) {h : mu_H} (f : VM hm h) {a w : Nat} (ha : a < u) (hr : r < s) (hw : w ≤ 99) (hcm : cme hc a r = true) : ∃ h2, sM [60, 61] [] h h2 ∧ f_Mod_doesBy N h (nI a) (nI r) 0 (nI w) = some (nI (efv hc o a r 0 w), h2) := by
  obtain ⟨h1, h2, h3⟩ := Cx_V hX VC_refl f
  obtain ⟨-, hm2, -, x1, -, x2, -⟩ := eff_2 (k := 0) hN h1 h2 h3 ha hr hw (by decide) (Or.inr (Or.inr hcm))
  exact ⟨hm2, x2, x1⟩
theorem fx_m {a w : Nat} (hw : w ≤ 99) : z_mmax 0 (nI w - nI (efv hc o a r 0 w)) = nI (fxH hc o r a w) := by
  have hev := efv_le (h := hc) (o := o) (a := a) (r := r) (k := 0) (w := w)
  rw [fxH, z_mmax]
  have hs : (nI w - nI (efv hc o a r 0 w)).toInt = (w : Int) - (efv hc o a r 0 w : Nat) := pk_sub_toInt (by omega) (by omega)
  have zz : (0 : Int32).toInt = 0 := rfl
  by_cases c : efv hc o a r 0 w < w
  · rw [if_pos (Int32.lt_iff_toInt_lt.mpr (by omega)), sub_n (by omega) (by omega)]
  · rw [if_neg (fun q => by have := Int32.lt_iff_toInt_lt.mp q; omega), show w - efv hc o a r 0 w = 0 by omega]; rfl
/-- the model's search -/
def Mo (X : Option (Int32 × mu_H)) (S : Option Nat) (h' : mu_H) : Prop := match S with
  | some x => X = some (1, h') ∧ h'.1 51 35 = nI x
  | none => X = some (0, h')
theorem can_m (hX : Cx hc hm s u o) (hN : 3000 ≤ N) (hr : r < s) (hg : goal ≤ 99) : ∀ d f h (L : Nat → Nat) w row, MH hm h u L → (∀ a, L a ≤ 9) → d < f → d ≤ 6 → w ≤ 99 → (row + 1) * 10 ^ d ≤ 1000000 → ∃ h', MH hm h' u L ∧ Mo (lp (f_Mod_canMend_R N) f (h, nI r, nI d, nI w, nI goal, nI row)) (srch u goal (fxH hc o r) d (KL hc u r L) w row) h' := by
  have h6 := hX.1.2.1
  have e26 : hm.1 51 26 = nI u := hX.1.2.2.2.2.2.2.1
  intro d
  induction d with
  | zero =>
    intro f h L w row hM hL hf hd hw hrow
    obtain ⟨f, rfl⟩ : ∃ g, f = g + 1 := ⟨f - 1, by omega⟩
    refine ⟨ui h 51 35 (nI row), ⟨sM_trans hM.1 (sM_u5 (by decide)), fun a ha => by rw [ui_n (by decide)]; exact hM.2 a ha⟩, ?_⟩
    have e : lp (f_Mod_canMend_R N) (f + 1) (h, nI r, nI 0, nI w, nI goal, nI row) = if nI goal < nI w then some (0, ui h 51 35 (nI row)) else some (1, ui h 51 35 (nI row)) := by
      show f_Mod_canMend_B N (fun h a1 a2 a3 a4 a5 => lp (f_Mod_canMend_R N) f (h, a1, a2, a3, a4, a5)) h (nI r) (nI 0) (nI w) (nI goal) (nI row) = _
      rw [f_Mod_canMend_B, if_pos (show nI 0 = (0 : Int32) from rfl), bn_eq]
    rw [e, srch]
    by_cases c : w ≤ goal
    · rw [if_neg (fun q => by have := (nI_ltI (by omega) (by omega)).mp q; omega), if_pos c]
      exact ⟨rfl, u5_s⟩
    · rw [if_pos ((nI_ltI (by omega) (by omega)).mpr (by omega)), if_neg c]
      exact rfl
  | succ d ih =>
    intro f h L w row hM hL hf hd hw hrow
    obtain ⟨f, rfl⟩ : ∃ g, f = g + 1 := ⟨f - 1, by omega⟩
    have e : lp (f_Mod_canMend_R N) (f + 1) (h, nI r, nI (d + 1), nI w, nI goal, nI row) = lp (f_Mod_canMend_L28 N (fun h a1 a2 a3 a4 a5 => lp (f_Mod_canMend_R N) f (h, a1, a2, a3, a4, a5)) (nI r) (nI (d + 1)) (nI w) (nI goal) (nI row)) N (0, 0, h) := by
      show f_Mod_canMend_B N (fun h a1 a2 a3 a4 a5 => lp (f_Mod_canMend_R N) f (h, a1, a2, a3, a4, a5)) h (nI r) (nI (d + 1)) (nI w) (nI goal) (nI row) = _
      rw [f_Mod_canMend_B, if_neg (nI_ne0 (by omega) (by omega))]
    rw [e, srch_s]
    have hbnd : ∀ a, a < u → ((10 * row + a) + 1) * 10 ^ d ≤ 1000000 := by
      intro a ha
      have h2 : (10 * row + a + 1) * 10 ^ d ≤ (10 * (row + 1)) * 10 ^ d := Nat.mul_le_mul_right _ (by omega)
      have h3 : (10 * (row + 1)) * 10 ^ d = (row + 1) * 10 ^ (d + 1) := by rw [Nat.pow_succ, Nat.mul_comm 10 (row + 1), Nat.mul_assoc, Nat.mul_comm 10 (10 ^ d)]
      omega
    have z0 : zb 0 = true := rfl
    have z1 : zb 1 = true := rfl
    have key : ∀ e i g h, i + e = u → e + 1 < g → MH hm h u L → fold (sstep u goal (fxH hc o r) d (KL hc u r L) w row) none i = none → ∃ h', MH hm h' u L ∧ Mo (lp (f_Mod_canMend_L28 N (fun h a1 a2 a3 a4 a5 => lp (f_Mod_canMend_R N) f (h, a1, a2, a3, a4, a5)) (nI r) (nI (d + 1)) (nI w) (nI goal) (nI row)) g (0, nI i, h)) (fold (sstep u goal (fxH hc o r) d (KL hc u r L) w row) none u) h' := by
      intro e
      induction e with
      | zero =>
        intro i g h hi hg2 hM hn
        obtain ⟨g, rfl⟩ : ∃ q, g = q + 1 := ⟨g - 1, by omega⟩
        have : i = u := by omega
        subst this
        have q26 : h.1 51 26 = nI i := by rw [hM.1.2 26 (by decide)]; exact e26
        refine ⟨h, hM, ?_⟩
        rw [hn]
        show lp _ (g + 1) (0, nI i, h) = some (0, h)
        rw [lp_1, f_Mod_canMend_L28, q26, if_pos ((nI_leI (by omega) (by omega)).mpr (Nat.le_refl i)), z0, gd_t]
      | succ e ihe =>
        intro i g h hi hg2 hM hn
        obtain ⟨g, rfl⟩ : ∃ q, g = q + 1 := ⟨g - 1, by omega⟩
        have hiu : i < u := by omega
        have q26 : h.1 51 26 = nI u := by rw [hM.1.2 26 (by decide)]; exact e26
        have nu : ¬ nI u ≤ nI i := fun q => by have := (nI_leI (by omega) (by omega)).mp q; omega
        have k9 := hL i
        have hki := hM.2 i hiu
        have hs : fold (sstep u goal (fxH hc o r) d (KL hc u r L) w row) none (i + 1) = if 0 < KL hc u r L i then srch u goal (fxH hc o r) d (uN (KL hc u r L) i (KL hc u r L i - 1)) (fxH hc o r i w) (10 * row + i) else none := by
          simp only [fold, hn, sstep]
        by_cases c0 : KL hc u r L i = 0
        · obtain ⟨h', M', R'⟩ := ihe (i + 1) g h (by omega) (by omega) hM (by rw [hs, if_neg (by omega)])
          refine ⟨h', M', ?_⟩
          have st : lp (f_Mod_canMend_L28 N (fun h a1 a2 a3 a4 a5 => lp (f_Mod_canMend_R N) f (h, a1, a2, a3, a4, a5)) (nI r) (nI (d + 1)) (nI w) (nI goal) (nI row)) (g + 1) (0, nI i, h) = lp (f_Mod_canMend_L28 N (fun h a1 a2 a3 a4 a5 => lp (f_Mod_canMend_R N) f (h, a1, a2, a3, a4, a5)) (nI r) (nI (d + 1)) (nI w) (nI goal) (nI row)) g (0, nI (i + 1), h) := by
            rw [lp_1, f_Mod_canMend_L28, q26, if_neg nu, if_pos rfl, ix_nI (show i < 6 by omega) (by decide), gd_t, jn_eq, nI_clamp (show i < 2147483648 by omega), hki, nI_1]
            by_cases cL : L i = 0
            · rw [cL, if_pos (show nI 0 ≤ (0 : Int32) by decide)]
            · have ncm : ¬ cme hc i r = true := fun q => by rw [KL, if_pos ⟨hiu, q⟩] at c0; exact cL c0
              rw [if_neg (fun q => cL ((nI_le0 (by omega)).mp q)), cmm hX hM.1 hiu hr, if_neg ncm, bd_some, if_pos rfl]
          rw [st]; exact R'
        · have hcm : i < u ∧ cme hc i r = true := by
            by_cases q : i < u ∧ cme hc i r = true
            · exact q
            · rw [KL, if_neg q] at c0; exact absurd rfl c0
          have eK : KL hc u r L i = L i := by rw [KL, if_pos hcm]
          have cL : ¬ L i = 0 := by rw [← eK]; exact c0
          obtain ⟨h9, x9⟩ : ∃ h9, h9 = ui h 72 i (nI (L i - 1)) := ⟨_, rfl⟩
          have V9 : VM hm h9 := by rw [x9]; exact sM_trans hM.1 (sM_ui (by decide) (by decide))
          obtain ⟨h11, w1, w2⟩ := emw (N := N) hX hN V9 hiu hr hw hcm.2
          have fw : fxH hc o r i w ≤ w := by rw [fxH]; omega
          have M11 : MH hm h11 u (uN L i (L i - 1)) := ⟨sM_trans V9 (sM_mono w1 (by decide) (by decide)), fun a ha => by
            rw [w1.1 72 (by decide) (by decide), x9, ui_s]
            by_cases q : a = i
            · rw [q, upd_s, uN_s]
            · rw [upd_n q, uN_n q]; exact hM.2 a ha⟩
          obtain ⟨h14, M14, R14⟩ := ih f h11 (uN L i (L i - 1)) (fxH hc o r i w) (10 * row + i) M11 (fun a => by
            by_cases q : a = i
            · rw [q, uN_s]; omega
            · rw [uN_n q]; exact hL a) (by omega) (by omega) (by omega) (hbnd i hiu)
          rw [KL_u hiu hcm.2] at R14
          rw [eK, if_pos (show 0 < L i by omega)] at hs
          obtain ⟨h16, x16⟩ : ∃ h16, h16 = ui h14 72 i (nI (L i)) := ⟨_, rfl⟩
          have M16 : MH hm h16 u L := ⟨by rw [x16]; exact sM_trans M14.1 (sM_ui (by decide) (by decide)), fun a ha => by
            rw [x16, ui_s]
            by_cases q : a = i
            · rw [q, upd_s]
            · rw [upd_n q]
              have := M14.2 a ha
              rw [uN_n q] at this
              exact this⟩
          have st : ∀ y : Int32, lp (f_Mod_canMend_R N) f (h11, nI r, nI d, nI (fxH hc o r i w), nI goal, nI (10 * row + i)) = some (y, h14) → lp (f_Mod_canMend_L28 N (fun h a1 a2 a3 a4 a5 => lp (f_Mod_canMend_R N) f (h, a1, a2, a3, a4, a5)) (nI r) (nI (d + 1)) (nI w) (nI goal) (nI row)) (g + 1) (0, nI i, h) = lp (f_Mod_canMend_L28 N (fun h a1 a2 a3 a4 a5 => lp (f_Mod_canMend_R N) f (h, a1, a2, a3, a4, a5)) (nI r) (nI (d + 1)) (nI w) (nI goal) (nI row)) g (y, nI (i + 1), h16) := by
            intro y hy
            have s1 : nI (L i) - 1 = nI (L i - 1) := sub_r (m := 1) (show 1 ≤ L i by omega) (by omega)
            have s2 : nI (d + 1) - 1 = nI d := sub1 (by omega)
            have s3 : 10 * nI row + nI i = nI (10 * row + i) := by rw [show (10 : Int32) = nI 10 from rfl, pk_mul, nI_add]
            have s4 : h14.1 72 i + 1 = nI (L i) := by
              have := M14.2 i hiu
              rw [uN_s] at this
              rw [this, nI_1]; congr 1; omega
            rw [lp_1, f_Mod_canMend_L28, q26, if_neg nu, if_pos rfl, ix_nI (show i < 6 by omega) (by decide), gd_t, jn_eq, nI_clamp (show i < 2147483648 by omega), hki, nI_1, if_neg (fun q => cL ((nI_le0 (by omega)).mp q)), cmm hX hM.1 hiu hr, if_pos hcm.2, bd_some, if_neg (show ¬ (1 : Int32) = 0 by decide), gd_t, gd_t, bn_eq, s1, ← x9, w2, bi_some, fx_m hw, s2, s3, hy, bi_some, gd_t, gd_t, bn_eq, s4, ← x16]
          cases hsr : srch u goal (fxH hc o r) d (uN (KL hc u r L) i (L i - 1)) (fxH hc o r i w) (10 * row + i) with
          | none =>
            rw [hsr] at R14 hs
            have R14 : lp (f_Mod_canMend_R N) f (h11, nI r, nI d, nI (fxH hc o r i w), nI goal, nI (10 * row + i)) = some (0, h14) := R14
            obtain ⟨h', M', R'⟩ := ihe (i + 1) g h16 (by omega) (by omega) M16 hs
            exact ⟨h', M', by rw [st 0 R14]; exact R'⟩
          | some x =>
            rw [hsr] at R14 hs
            obtain ⟨R1, R2⟩ : lp (f_Mod_canMend_R N) f (h11, nI r, nI d, nI (fxH hc o r i w), nI goal, nI (10 * row + i)) = some (1, h14) ∧ h14.1 51 35 = nI x := R14
            obtain ⟨g, rfl⟩ : ∃ q, g = q + 1 := ⟨g - 1, by omega⟩
            refine ⟨h16, M16, ?_⟩
            rw [st 1 R1, sst_some (show i + 1 ≤ u by omega) hs]
            refine ⟨?_, by rw [x16, ui_n (by decide)]; exact R2⟩
            rw [lp_1, f_Mod_canMend_L28]
            by_cases q : h16.1 51 26 ≤ nI (i + 1)
            · rw [if_pos q, z1, gd_t]
            · rw [if_neg q, if_neg (show ¬ (1 : Int32) = 0 by decide), z1, gd_t]
    exact key u 0 N h (by omega) (by omega) hM rfl
/-- the first number of days by which it goes -/
def fsc (S : Nat → Option Nat) : Nat → Nat → Option (Nat × Nat)
  | 0, _ => none
  | e + 1, d => match S d with
    | some x => some (d, x)
    | none => fsc S e (d + 1)
def SH (hc : mu_H) (o : Option (List Cla)) (u r goal : Nat) (d : Nat) : Option Nat := srch u goal (fxH hc o r) d (K0H hc u r) (tn (hc.1 15 r)) 0
theorem few_c (hX : Cx hc hm s u o) (hN : 3000 ≤ N) (hr : r < s) (hg : goal ≤ 99) : ∃ hc', VC hc hc' ∧ f_Out_fewestDays N hc (nI r) (nI goal) = some (match fsc (SH hc o u r goal) 7 0 with
  | some (d, x) => nI (1000000 * d + x)
  | none => -1, hc') := by
  have h9 := hX.1.1
  have h6 := hX.1.2.1
  have e4 : hc.1 3 3 = nI u := hX.1.2.2.2.2.1
  obtain ⟨W9, W1, W2⟩ := wr_2 hX hr
  have hw : f_Sta_wear N hc 14 (nI r) = some (hc.1 15 r) := wearS (by omega)
  have L := lp_hv (body := f_Out_fewestDays_L12 N (nI r) (fun h3 => (f_Out_foreseeDays N h3 (nI r) (nI (tn (hc.1 15 r)))).bind fun h4 => (f_Out_foreseeLowest N h4 (nI (tn (hc.1 15 r)))).bind fun h5 => lp (f_Out_fewestDays_L77 N (nI goal) (nI (tn (hc.1 15 r))) (fun ((x7, x8, h9) : Int32 × Int32 × mu_H) => some ((x7 * 1000000) + x8, h9))) N (0, h5))) (fun i h => VC hc h ∧ ∀ a, a < i → h.1 43 a = nI (K0H hc u r a)) (fun i h => (nI i, h)) u _ (by
    rintro i hi h ⟨hV, h43⟩
    have hh : h.1 3 3 = nI u := by rw [hV 3 (by decide)]; exact e4
    have k9 := K0_9 (r := r) hX i
    refine ⟨ui h 43 i (nI (K0H hc u r i)), ⟨sc_trans hV (sc_ui (by decide)), fun a ha => ?_⟩, fun rec => ?_⟩
    · rw [ui_s]
      by_cases q : a = i
      · rw [q, upd_s]
      · rw [upd_n q]; exact h43 a (by omega)
    · have nu : ¬ nI u ≤ nI i := fun q => by have := (nI_leI (by omega) (by omega)).mp q; omega
      have i18 : 18 + nI i = nI (18 + i) := by rw [show (18 : Int32) = nI 18 from rfl, nI_add]
      show f_Out_fewestDays_L12 N (nI r) _ rec (nI i, h) = _
      by_cases cm : cme hc i r = true
      · have ek : hc.1 15 (18 + i) = nI (K0H hc u r i) := by
          obtain ⟨⟨v, hv, e⟩, -, -⟩ := hX.2.2.2.2.2.2.2 i (by omega)
          rw [K0H, if_pos ⟨hi, cm⟩, e, tn_n (by omega)]
        have ow : f_Sta_owed N h 14 (nI i) = some (nI (K0H hc u r i)) := by
          rw [f_Sta_owed, i18, ix_nI (by omega) (by decide), gd_t, nI_clamp (by omega), hV 15 (by decide), ek]
        rw [f_Out_fewestDays_L12, f_Par_houses, hh, bd_some, if_neg nu, cmc hX hV hi hr, if_pos cm, bd_some, jn_eq, if_neg (show ¬ (1 : Int32) = 0 by decide), ow, bd_some]
        show gd (ix (nI i) 6) (bn (ui h 43 (nI i).toNatClampNeg (nI (K0H hc u r i))) fun h23 => rec (nI i + 1, h23)) = _
        rw [ix_nI (show i < 6 by omega) (by decide), gd_t, bn_eq, nI_clamp (by omega), nI_1]
      · have ek : K0H hc u r i = 0 := by rw [K0H, if_neg (fun q => cm q.2)]
        rw [f_Out_fewestDays_L12, f_Par_houses, hh, bd_some, if_neg nu, cmc hX hV hi hr, if_neg cm, bd_some, jn_eq, if_pos rfl]
        show gd (ix (nI i) 6) (bn (ui h 43 (nI i).toNatClampNeg 0) fun h23 => rec (nI i + 1, h23)) = _
        rw [ix_nI (show i < 6 by omega) (by decide), gd_t, bn_eq, nI_clamp (by omega), nI_1, ek]
        rfl) (by
    rintro h ⟨hV, h43⟩ rec
    have hh : h.1 3 3 = nI u := by rw [hV 3 (by decide)]; exact e4
    show f_Out_fewestDays_L12 N (nI r) _ rec (nI u, h) = _
    rw [f_Out_fewestDays_L12, f_Par_houses, hh, bd_some, if_pos ((nI_leI (by omega) (by omega)).mpr (Nat.le_refl u))]) N hc ⟨VC_refl, fun a ha => by omega⟩ (by omega)
  obtain ⟨h3, ⟨V3, k3⟩, e3⟩ := L
  have e3 : lp (f_Out_fewestDays_L12 N (nI r) _) N (0, hc) = _ := e3
  obtain ⟨h4', ri, F4, d4⟩ := fo_days (N := N) hN hX hr W9 V3 k3
  obtain ⟨V4, f43, f45, f0, f44⟩ := F4
  have hFo : Fo h4' u (tn (hc.1 15 r)) (K0H hc u r) ri (fxH hc o r) := ⟨by rw [V4 3 (by decide)]; exact e4, h6, W9, fun a w => by rw [fxH]; omega, fun a ha => ⟨f43 a ha, K0_9 hX a⟩, f45, fun a w a1 a2 a3 a4 => f44 a w a1 a2 a3 a3 a4⟩
  obtain ⟨G, g1, hT⟩ := lo_tab (N := N) hN hFo
  obtain ⟨h5, x5⟩ : ∃ h5, h5 = ur h4' 46 G := ⟨_, rfl⟩
  rw [← x5] at g1 hT
  have V5 : VC hc h5 := by rw [x5]; exact sc_trans V4 (sc_ur (by decide))
  have k43 : ∀ a, a < u → h5.1 43 a = nI (K0H hc u r a) := fun a ha => by rw [x5, ur_n (by decide)]; exact f43 a ha
  have row : ∀ d, d ≤ 6 → f_Out_leastRow N h5 (nI d) (nI (tn (hc.1 15 r))) (nI goal) 0 = some (enc (SH hc o u r goal d), h5) := fun d hd => lr_c (goal := goal) (by omega) d 10 h5 (K0H hc u r) (tn (hc.1 15 r)) 0 hT k43 (fun a => K0_9 hX a) (fun a h => h) (fun a ha => by rw [K0H, if_neg (by omega)]) (by omega) hd (Nat.le_refl _) (by omega) hg (by
    have : 10 ^ d ≤ 10 ^ 6 := Nat.pow_le_pow_right (by decide) hd
    omega)
  have key : ∀ e d g, d + e = 7 → e < g → lp (f_Out_fewestDays_L77 N (nI goal) (nI (tn (hc.1 15 r))) (fun ((x7, x8, h9) : Int32 × Int32 × mu_H) => some ((x7 * 1000000) + x8, h9))) g (nI d, h5) = some (match fsc (SH hc o u r goal) e d with
    | some (d, x) => nI (1000000 * d + x)
    | none => -1, h5) := by
    intro e
    induction e with
    | zero =>
      intro d g hd hg2
      obtain ⟨g, rfl⟩ : ∃ q, g = q + 1 := ⟨g - 1, by omega⟩
      have : d = 7 := by omega
      subst this
      rw [lp_1, f_Out_fewestDays_L77, if_pos (show (6 : Int32) < nI 7 by decide)]
      rfl
    | succ e ih =>
      intro d g hd hg2
      obtain ⟨g, rfl⟩ : ∃ q, g = q + 1 := ⟨g - 1, by omega⟩
      rw [lp_1, f_Out_fewestDays_L77, if_neg (fun q => by have := (nI_ltI (a := 6) (by decide) (by omega)).mp q; omega), row d (by omega), bi_some, fsc]
      cases hS : SH hc o u r goal d with
      | none =>
        rw [show enc none = (-1 : Int32) from rfl, if_pos rfl, nI_1]
        exact ih (d + 1) g (by omega) (by omega)
      | some x =>
        have hx := srch_b h6 _ _ _ _ _ hS
        have : 10 ^ d ≤ 10 ^ 6 := Nat.pow_le_pow_right (by decide) (show d ≤ 6 by omega)
        rw [show enc (some x) = nI x from rfl, if_neg (fun q => by rw [neg1 (by omega)] at q; exact q)]
        show some (nI d * 1000000 + nI x, h5) = some (nI (1000000 * d + x), h5)
        rw [show (1000000 : Int32) = nI 1000000 from rfl, pk_mul, nI_add, Nat.mul_comm]
  refine ⟨h5, V5, ?_⟩
  have e1 : f_Out_fewestDays N hc (nI r) (nI goal) = (f_Sta_wear N hc 14 (nI r)).bind fun x1 => lp (f_Out_fewestDays_L12 N (nI r) (fun h3 => (f_Out_foreseeDays N h3 (nI r) x1).bind fun h4 => (f_Out_foreseeLowest N h4 x1).bind fun h5 => lp (f_Out_fewestDays_L77 N (nI goal) x1 (fun ((x7, x8, h9) : Int32 × Int32 × mu_H) => some ((x7 * 1000000) + x8, h9))) N (0, h5))) N (0, hc) := rfl
  rw [e1, hw, bd_some, W1, e3, d4, bd_some, g1, bd_some]
  exact key 7 0 N (by omega) (by omega)
theorem few_m (hX : Cx hc hm s u o) (hN : 3000 ≤ N) (hr : r < s) (hg : goal ≤ 99) (k6 : (Int32 × mu_H) → Option (Int32 × mu_H)) : ∃ hm', VM hm hm' ∧ match fsc (SH hc o u r goal) 7 0 with
  | some (d, x) => lp (f_Mod_least_L32 (fun h5 => lp (f_Mod_least_L67 N (nI r) (nI goal) k6) N (0, h5))) N (0, hm) = k6 (nI d, hm') ∧ hm'.1 51 35 = nI x
  | none => lp (f_Mod_least_L32 (fun h5 => lp (f_Mod_least_L67 N (nI r) (nI goal) k6) N (0, h5))) N (0, hm) = some (-1, hm') := by
  have h9 := hX.1.1
  have h6 := hX.1.2.1
  have e26 : hm.1 51 26 = nI u := hX.1.2.2.2.2.2.2.1
  obtain ⟨W9, W1, W2⟩ := wr_2 hX hr
  obtain ⟨L0, xL⟩ : ∃ L0 : Nat → Nat, L0 = fun a => if a < u then tn (hc.1 15 (18 + a)) else 0 := ⟨_, rfl⟩
  have hL : ∀ a, a < u → hm.1 68 (18 + a) = nI (L0 a) ∧ L0 a ≤ 9 := fun a ha => by
    obtain ⟨⟨v, hv, e⟩, -, -⟩ := hX.2.2.2.2.2.2.2 a (by omega)
    have e2 := hX.2.2.1 (18 + a) (by omega)
    rw [← e2, xL]
    show hc.1 15 (18 + a) = nI (if a < u then tn (hc.1 15 (18 + a)) else 0) ∧ (if a < u then tn (hc.1 15 (18 + a)) else 0) ≤ 9
    rw [if_pos ha, e, tn_n (by omega)]
    exact ⟨rfl, hv⟩
  have hL9 : ∀ a, L0 a ≤ 9 := fun a => by
    by_cases q : a < u
    · exact (hL a q).2
    · rw [xL]; show (if a < u then _ else 0) ≤ 9; rw [if_neg q]; omega
  have hK : KL hc u r L0 = K0H hc u r := by
    funext a
    rw [KL, K0H]
    by_cases q : a < u ∧ cme hc a r = true
    · rw [if_pos q, if_pos q, xL]; show (if a < u then _ else 0) = _; rw [if_pos q.1]
    · rw [if_neg q, if_neg q]
  have L := lp_hv (body := f_Mod_least_L32 (fun h5 => lp (f_Mod_least_L67 N (nI r) (nI goal) k6) N (0, h5))) (fun i h => VM hm h ∧ ∀ a, a < i → h.1 72 a = nI (L0 a)) (fun i h => (nI i, h)) u _ (by
    rintro i hi h ⟨hV, h72⟩
    have q26 : h.1 51 26 = nI u := by rw [hV.2 26 (by decide)]; exact e26
    have i18 : 18 + nI i = nI (18 + i) := by rw [show (18 : Int32) = nI 18 from rfl, nI_add]
    refine ⟨ui h 72 i (nI (L0 i)), ⟨sM_trans hV (sM_ui (by decide) (by decide)), fun a ha => ?_⟩, fun rec => ?_⟩
    · rw [ui_s]
      by_cases q : a = i
      · rw [q, upd_s]
      · rw [upd_n q]; exact h72 a (by omega)
    · show f_Mod_least_L32 _ rec (nI i, h) = _
      rw [f_Mod_least_L32, q26, if_neg (fun q => by have := (nI_leI (by omega) (by omega)).mp q; omega), i18, ix_nI (by omega) (by decide), gd_t, ix_nI (by omega) (by decide), gd_t, bn_eq, nI_clamp (by omega), nI_clamp (by omega), hV.1 68 (by decide) (by decide), (hL i hi).1, nI_1]) (by
    rintro h ⟨hV, h72⟩ rec
    have q26 : h.1 51 26 = nI u := by rw [hV.2 26 (by decide)]; exact e26
    show f_Mod_least_L32 _ rec (nI u, h) = _
    rw [f_Mod_least_L32, q26, if_pos ((nI_leI (by omega) (by omega)).mpr (Nat.le_refl u))]) N hm ⟨VM_refl, fun a ha => by omega⟩ (by omega)
  obtain ⟨h3, M3, e3⟩ := L
  have e3 : lp (f_Mod_least_L32 (fun h5 => lp (f_Mod_least_L67 N (nI r) (nI goal) k6) N (0, h5))) N (0, hm) = lp (f_Mod_least_L67 N (nI r) (nI goal) k6) N (0, h3) := e3
  rw [e3]
  have key2 : ∀ e d g h, d + e = 7 → e < g → MH hm h u L0 → ∃ hm', VM hm hm' ∧ match fsc (SH hc o u r goal) e d with
    | some (d', x) => lp (f_Mod_least_L67 N (nI r) (nI goal) k6) g (nI d, h) = k6 (nI d', hm') ∧ hm'.1 51 35 = nI x
    | none => lp (f_Mod_least_L67 N (nI r) (nI goal) k6) g (nI d, h) = some (-1, hm') := by
    intro e
    induction e with
    | zero =>
      intro d g h hd hg2 hM
      obtain ⟨g, rfl⟩ : ∃ q, g = q + 1 := ⟨g - 1, by omega⟩
      have : d = 7 := by omega
      subst this
      refine ⟨h, hM.1, ?_⟩
      show lp _ (g + 1) (nI 7, h) = some (-1, h)
      rw [lp_1, f_Mod_least_L67, if_pos (show (6 : Int32) < nI 7 by decide)]
    | succ e ih =>
      intro d g h hd hg2 hM
      obtain ⟨g, rfl⟩ : ∃ q, g = q + 1 := ⟨g - 1, by omega⟩
      obtain ⟨h1, M1, R1⟩ := can_m (N := N) hX hN hr hg d 10 h L0 (tn (hc.1 15 r)) 0 hM hL9 (by omega) (by omega) W9 (by
        have : 10 ^ d ≤ 10 ^ 6 := Nat.pow_le_pow_right (by decide) (show d ≤ 6 by omega)
        omega)
      rw [hK] at R1
      have q68 : h.1 68 r = nI (tn (hc.1 15 r)) := by rw [hM.1.1 68 (by decide) (by decide)]; exact W2
      have st : ∀ rec, f_Mod_least_L67 N (nI r) (nI goal) k6 rec (nI d, h) = bi (lp (f_Mod_canMend_R N) 10 (h, nI r, nI d, nI (tn (hc.1 15 r)), nI goal, nI 0)) fun x12 h13 => if x12 = 0 then rec (nI (d + 1), h13) else k6 (nI d, h13) := by
        intro rec
        rw [f_Mod_least_L67, if_neg (fun q => by have := (nI_ltI (a := 6) (by decide) (by omega)).mp q; omega), add0, ix_nI (by omega) (by decide), gd_t, nI_clamp (by omega), q68, nI_1]
        rfl
      rw [lp_1, st, fsc]
      have hSd : SH hc o u r goal d = srch u goal (fxH hc o r) d (K0H hc u r) (tn (hc.1 15 r)) 0 := rfl
      rw [← hSd] at R1
      cases hS : SH hc o u r goal d with
      | none =>
        rw [hS] at R1
        have R1 : lp (f_Mod_canMend_R N) 10 (h, nI r, nI d, nI (tn (hc.1 15 r)), nI goal, nI 0) = some (0, h1) := R1
        rw [R1, bi_some, if_pos rfl]
        exact ih (d + 1) g h1 (by omega) (by omega) M1
      | some x =>
        rw [hS] at R1
        obtain ⟨R1, R2⟩ : lp (f_Mod_canMend_R N) 10 (h, nI r, nI d, nI (tn (hc.1 15 r)), nI goal, nI 0) = some (1, h1) ∧ h1.1 51 35 = nI x := R1
        rw [R1, bi_some, if_neg (show ¬ (1 : Int32) = 0 by decide)]
        exact ⟨h1, M1.1, rfl, R2⟩
  exact key2 7 0 N h3 (by omega) (by omega) M3
theorem op_least (hN : 3000 ≤ N) (a1 a2 a3 : Int32) (hc hm : mu_H) (hI : Inv (mg hc hm)) : ∃ r hc' hm', f_Owe_least N hc a1 a2 a3 = some (r, hc') ∧ f_Mod_least N hm a1 a2 a3 = some (r, hm') ∧ (∀ c, 51 ≤ c → hc'.1 c = hc.1 c) ∧ (∀ c, c < 51 → hm'.1 c = hm.1 c) ∧ Inv (mg hc' hm') := by
  obtain ⟨s, u, o, hX⟩ := Cx_of hI
  have hp := hX.1
  have h9 := hp.1
  have h6 := hp.2.1
  have k3 := c_isS (N := N) (h := hc) (o := 3) hp.2.2.2.1 a1
  have k4 := m_isS (N := N) (h := hm) hp.2.2.2.2.2.1 h9 a1
  have h10 : ¬ (1 : Int32) = 0 := by decide
  have hno := V_I hI VC_refl VM_refl
  have k5 : f_Mod_in N hm a2 0 99 = some (if 0 ≤ a2 ∧ a2 < nI 100 then 1 else 0) := m_in (n := 100) (by decide) a2
  have k6 : f_Mod_in N hm a3 0 1 = some (if 0 ≤ a3 ∧ a3 < nI 2 then 1 else 0) := m_in (n := 2) (by decide) a3
  rw [f_Owe_least, f_Mod_least, k3, bd_some, k4, bd_some]
  rcases in_or a1 s (by omega) with ⟨r, hr, rfl, q3, q4⟩ | no1
  rotate_left
  · rw [if_neg no1, if_pos rfl, if_pos rfl]
    exact ⟨-1, hc, hm, rfl, rfl, hno⟩
  rw [if_pos (show 0 ≤ nI r ∧ nI r < nI s from ⟨q3, q4⟩), if_neg h10, if_neg h10, k5, bd_some]
  rcases in_or a2 100 (by decide) with ⟨g, hg, rfl, q5, q6⟩ | no2
  rotate_left
  · rw [if_neg no2, if_pos rfl]
    refine ⟨-1, hc, hm, ?_, rfl, hno⟩
    by_cases c1 : a2 < 0
    · rw [if_pos c1]
    · have c2 : (99 : Int32) < a2 := by
        rw [Int32.lt_iff_toInt_lt]
        have x1 : ¬ a2.toInt < 0 := fun w => c1 (Int32.lt_iff_toInt_lt.mpr w)
        have x2 : ¬ a2.toInt < 100 := fun w => no2 ⟨nlt_le.mp c1, Int32.lt_iff_toInt_lt.mpr w⟩
        show (99 : Int) < a2.toInt
        omega
      rw [if_neg c1, if_pos c2]
  have n99 : ¬ (99 : Int32) < nI g := fun w => by have := (nI_ltI (a := 99) (by decide) (by omega)).mp w; omega
  rw [if_pos (show 0 ≤ nI g ∧ nI g < nI 100 from ⟨q5, q6⟩), if_neg h10, if_neg (nlt_le.mpr q5), if_neg n99, k6, bd_some]
  rcases in_or a3 2 (by decide) with ⟨t, ht, rfl, q7, q8⟩ | no3
  rotate_left
  · rw [if_neg no3, if_pos rfl]
    refine ⟨-1, hc, hm, ?_, rfl, hno⟩
    by_cases c1 : a3 < 0
    · rw [if_pos c1]
    · have c2 : ¬ a3 ≤ 1 := fun w => no3 ⟨nlt_le.mp c1, by
        rw [Int32.lt_iff_toInt_lt]
        have := Int32.le_iff_toInt_le.mp w
        show a3.toInt < (2 : Int)
        have e1 : (1 : Int32).toInt = 1 := rfl
        omega⟩
      rw [if_neg c1, if_neg c2]
  have t1 : nI t ≤ (1 : Int32) := (nI_leI (b := 1) (by omega) (by decide)).mpr (by omega)
  rw [if_pos (show 0 ≤ nI t ∧ nI t < nI 2 from ⟨q7, q8⟩), if_neg h10, if_neg (nlt_le.mpr q7), if_pos t1]
  obtain ⟨hc', v1, e1⟩ := few_c (N := N) (goal := g) hX hN hr (by omega)
  obtain ⟨hm', v2, e2⟩ := few_m (N := N) (goal := g) hX hN hr (by omega) (fun ((x7, h8) : Int32 × mu_H) => if nI t = 0 then some (x7, h8) else some (h8.1 51 35, h8))
  have e3 : (jn (fun (h5 : mu_H) => jn (fun ((x7, h8) : Int32 × mu_H) => if nI t = 0 then some (x7, h8) else some (h8.1 51 35, h8)) fun k6 => lp (f_Mod_least_L67 N (nI r) (nI g) k6) N (0, h5)) fun k4 => lp (f_Mod_least_L32 k4) N (0, hm)) = lp (f_Mod_least_L32 (fun h5 => lp (f_Mod_least_L67 N (nI r) (nI g) (fun ((x7, h8) : Int32 × mu_H) => if nI t = 0 then some (x7, h8) else some (h8.1 51 35, h8))) N (0, h5))) N (0, hm) := rfl
  rw [e3, e1, bi_some]
  cases hS : fsc (SH hc o u r g) 7 0 with
  | none =>
    rw [hS] at e2
    have e2 : lp (f_Mod_least_L32 (fun h5 => lp (f_Mod_least_L67 N (nI r) (nI g) (fun ((x7, h8) : Int32 × mu_H) => if nI t = 0 then some (x7, h8) else some (h8.1 51 35, h8))) N (0, h5))) N (0, hm) = some (-1, hm') := e2
    refine ⟨-1, hc', hm', ?_, e2, V_I hI v1 v2⟩
    show (if (-1 : Int32) = -1 then some ((-1 : Int32), hc') else _) = _
    rw [if_pos rfl]
  | some p =>
    obtain ⟨d, x⟩ := p
    rw [hS] at e2
    obtain ⟨e2, e4⟩ : lp (f_Mod_least_L32 (fun h5 => lp (f_Mod_least_L67 N (nI r) (nI g) (fun ((x7, h8) : Int32 × mu_H) => if nI t = 0 then some (x7, h8) else some (h8.1 51 35, h8))) N (0, h5))) N (0, hm) = (if nI t = 0 then some (nI d, hm') else some (hm'.1 51 35, hm')) ∧ hm'.1 51 35 = nI x := e2
    have hf : ∀ e d0, fsc (SH hc o u r g) e d0 = some (d, x) → d < d0 + e ∧ SH hc o u r g d = some x := by
      intro e
      induction e with
      | zero => intro d0 h; exact absurd h (by simp [fsc])
      | succ e ih =>
        intro d0 h
        rw [fsc] at h
        cases hq : SH hc o u r g d0 with
        | none =>
          rw [hq] at h
          obtain ⟨y1, y2⟩ := ih (d0 + 1) h
          exact ⟨by omega, y2⟩
        | some y =>
          rw [hq] at h
          have h : some (d0, y) = some (d, x) := h
          cases h
          exact ⟨by omega, hq⟩
    obtain ⟨d7, hx⟩ := hf 7 0 hS
    have hb := srch_b h6 _ _ _ _ _ hx
    have hp10 : 10 ^ d ≤ 10 ^ 6 := Nat.pow_le_pow_right (by decide) (show d ≤ 6 by omega)
    have xb : x < 1000000 := by omega
    have nn : ¬ nI (1000000 * d + x) = -1 := fun q => by rw [neg1 (by omega)] at q; exact q
    have dv : nI (1000000 * d + x) / 1000000 = nI d := by
      have := div_r (a := 1000000 * d + x) (m := 1000000) (by decide) (by decide) (by omega)
      rw [this]
      congr 1
      show (1000000 * d + x) / 1000000 = d
      omega
    have md' : nI (1000000 * d + x) - nI d * 1000000 = nI x := by
      rw [show (1000000 : Int32) = nI 1000000 from rfl, pk_mul, sub_n (by omega) (by omega)]
      congr 1; omega
    rw [e2, e4]
    show ∃ r' hc2 hm2, (if nI (1000000 * d + x) = -1 then some ((-1 : Int32), hc') else if nI t = 0 then some (nI (1000000 * d + x) / 1000000, hc') else some (nI (1000000 * d + x) - nI (1000000 * d + x) / 1000000 * 1000000, hc')) = some (r', hc2) ∧ _
    rw [if_neg nn, dv, md']
    by_cases c : nI t = 0
    · rw [if_pos c, if_pos c]
      exact ⟨nI d, hc', hm', rfl, rfl, V_I hI v1 v2⟩
    · rw [if_neg c, if_neg c]
      exact ⟨nI x, hc', hm', rfl, rfl, V_I hI v1 v2⟩
end Least
