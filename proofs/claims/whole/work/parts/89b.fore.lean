/-! least: what the class foresees -/
section Fore
variable {N s u r : Nat} {hc hm : mu_H} {o : Option (List Cla)}
def fxH (hc : mu_H) (o : Option (List Cla)) (r a w : Nat) : Nat := w - efv hc o a r 0 w
def K0H (hc : mu_H) (u r a : Nat) : Nat := if a < u ∧ cme hc a r = true then tn (hc.1 15 (18 + a)) else 0
theorem K0_cm {a : Nat} (h : 0 < K0H hc u r a) : a < u ∧ cme hc a r = true := by
  rw [K0H] at h
  by_cases c : a < u ∧ cme hc a r = true
  · exact c
  · rw [if_neg c] at h; omega
theorem K0_9 (hX : Cx hc hm s u o) (a : Nat) : K0H hc u r a ≤ 9 := by
  have h6 := hX.1.2.1
  rw [K0H]
  split
  · rename_i c
    obtain ⟨⟨v, hv, e⟩, -, -⟩ := hX.2.2.2.2.2.2.2 a (by omega)
    rw [e, tn_n (by omega)]; exact hv
  · omega
theorem ecw (hX : Cx hc hm s u o) (hN : 3000 ≤ N) {h : mu_H} (f : VC hc h) {a w : Nat} (ha : a < u) (hr : r < s) (hw : w ≤ 99) (hcm : cme hc a r = true) : ∃ h2, sc [26, 29, 32, 35, 36] h h2 ∧ f_Lab_effect N h (nI a) (nI r) 0 (nI w) = some (nI (efv hc o a r 0 w), h2) := by
  obtain ⟨h1, h2, h3⟩ := Cx_V hX f VM_refl
  obtain ⟨hc2, -, x1, -, x2, -⟩ := eff_2 (k := 0) hN h1 h2 h3 ha hr hw (by decide) (by rw [cme_V f]; exact Or.inr (Or.inr hcm))
  rw [efv_V f] at x1
  exact ⟨hc2, x2, x1⟩
def FS (hc : mu_H) (o : Option (List Cla)) (u r W : Nat) (done : Nat → Nat → Prop) (h : mu_H) (ri : Nat → Nat) : Prop := VC hc h ∧ (∀ a, a < u → h.1 43 a = nI (K0H hc u r a)) ∧ (∀ t, t < 100 → h.1 45 t = nI (ri t) ∧ ri t ≤ 1000) ∧ ri W = 0 ∧ ∀ a w, a < u → 0 < K0H hc u r a → w ≤ W → done a w → ri w < 6 → h.1 44 (100 * a + w) = nI (fxH hc o r a w) ∧ ri (fxH hc o r a w) ≤ ri w + 1
theorem FS_m {W : Nat} {d d' : Nat → Nat → Prop} {h : mu_H} {ri : Nat → Nat} (hF : FS hc o u r W d h ri) (hd : ∀ a w, a < u → 0 < K0H hc u r a → w ≤ W → ri w < 6 → d' a w → d a w) : FS hc o u r W d' h ri := ⟨hF.1, hF.2.1, hF.2.2.1, hF.2.2.2.1, fun a w h1 h2 h3 h4 h5 => hF.2.2.2.2 a w h1 h2 h3 (hd a w h1 h2 h3 h5 h4) h5⟩
theorem fo_26 (hN : 3000 ≤ N) (hX : Cx hc hm s u o) (hr : r < s) {W f : Nat} (hW : W ≤ 99) (hf : f ≤ W) : ∀ e i g h ri, i + e = u → e < g → FS hc o u r W (fun a w => f < w ∨ (w = f ∧ a < i)) h ri → ∃ h' ri', FS hc o u r W (fun _ w => f ≤ w) h' ri' ∧ ∀ k, lp (f_Out_foreseeDays_L26 N (nI r) (nI f) k) g (nI i, h) = k h' := by
  have h6 := hX.1.2.1
  have e4 : hc.1 3 3 = nI u := hX.1.2.2.2.2.1
  intro e
  induction e with
  | zero =>
    intro i g h ri hi hg hF
    obtain ⟨g, rfl⟩ : ∃ q, g = q + 1 := ⟨g - 1, by omega⟩
    have hh : h.1 3 3 = nI u := by rw [hF.1 3 (by decide)]; exact e4
    refine ⟨h, ri, FS_m hF (fun a w h1 _ _ _ h5 => by omega), fun k => ?_⟩
    show f_Out_foreseeDays_L26 N (nI r) (nI f) k _ (nI i, h) = _
    rw [f_Out_foreseeDays_L26, f_Par_houses, hh, bd_some, if_pos ((nI_leI (by omega) (by omega)).mpr (by omega))]
  | succ e ih =>
    intro i g h ri hi hg hF
    obtain ⟨g, rfl⟩ : ∃ q, g = q + 1 := ⟨g - 1, by omega⟩
    have hiu : i < u := by omega
    obtain ⟨V, F43, F45, F0, F44⟩ := hF
    have hh : h.1 3 3 = nI u := by rw [V 3 (by decide)]; exact e4
    obtain ⟨r1, r2⟩ := F45 f (by omega)
    have nu : ¬ nI u ≤ nI i := fun q => by have := (nI_leI (by omega) (by omega)).mp q; omega
    by_cases c6 : 6 ≤ ri f
    · refine ⟨h, ri, ⟨V, F43, F45, F0, fun a w h1 h2 h3 h4 h5 => ?_⟩, fun k => ?_⟩
      · by_cases c : w = f
        · rw [c] at h5; omega
        · exact F44 a w h1 h2 h3 (Or.inl (by omega)) h5
      · show f_Out_foreseeDays_L26 N (nI r) (nI f) k _ (nI i, h) = _
        rw [f_Out_foreseeDays_L26, f_Par_houses, hh, bd_some, if_neg nu, ix_nI (by omega) (by decide), gd_t, nI_clamp (by omega), r1, if_pos (show (6 : Int32) ≤ nI (ri f) from (nI_leI (a := 6) (by decide) (by omega)).mpr c6)]
    · have n6 : ¬ (6 : Int32) ≤ nI (ri f) := fun q => c6 ((nI_leI (a := 6) (by decide) (by omega)).mp q)
      have k9 := K0_9 (r := r) hX i
      have hki := F43 i hiu
      by_cases c0 : K0H hc u r i = 0
      · obtain ⟨h', ri', x1, x2⟩ := ih (i + 1) g h ri (by omega) (by omega) ⟨V, F43, F45, F0, fun a w h1 h2 h3 h4 h5 => F44 a w h1 h2 h3 (by
          rcases h4 with q | ⟨q1, q2⟩
          · exact Or.inl q
          · by_cases c : a = i
            · rw [c, c0] at h2; omega
            · exact Or.inr ⟨q1, by omega⟩) h5⟩
        refine ⟨h', ri', x1, fun k => ?_⟩
        rw [← x2 k]
        show f_Out_foreseeDays_L26 N (nI r) (nI f) k (lp (f_Out_foreseeDays_L26 N (nI r) (nI f) k) g) (nI i, h) = _
        rw [f_Out_foreseeDays_L26, f_Par_houses, hh, bd_some, if_neg nu, ix_nI (by omega) (by decide), gd_t, nI_clamp (by omega), r1, if_neg n6, ix_nI (show i < 6 by omega) (by decide), gd_t, jn_eq, nI_clamp (by omega), hki, c0, if_pos (show nI 0 ≤ (0 : Int32) by decide), nI_1]
      · obtain ⟨-, cm⟩ := K0_cm (show 0 < K0H hc u r i by omega)
        obtain ⟨h15, w1, w2⟩ := ecw (N := N) hX hN V hiu hr (show f ≤ 99 by omega) cm
        have hev := efv_le (h := hc) (o := o) (a := i) (r := r) (k := 0) (w := f)
        obtain ⟨t, ht⟩ : ∃ t, t = fxH hc o r i f := ⟨_, rfl⟩
        have htf : t ≤ f := by rw [ht, fxH]; omega
        have hto : z_mmax 0 (nI f - nI (efv hc o i r 0 f)) = nI t := by
          rw [ht, fxH, z_mmax]
          have hs : (nI f - nI (efv hc o i r 0 f)).toInt = (f : Int) - (efv hc o i r 0 f : Nat) := pk_sub_toInt (by omega) (by omega)
          have zz : (0 : Int32).toInt = 0 := rfl
          by_cases c : efv hc o i r 0 f < f
          · rw [if_pos (Int32.lt_iff_toInt_lt.mpr (by omega)), sub_n (by omega) (by omega)]
          · rw [if_neg (fun q => by have := Int32.lt_iff_toInt_lt.mp q; omega), show f - efv hc o i r 0 f = 0 by omega]; rfl
        obtain ⟨rt1, rt2⟩ := F45 t (by omega)
        obtain ⟨ri1, hri1⟩ : ∃ ri1, ri1 = uN ri t (min (ri t) (ri f + 1)) := ⟨_, rfl⟩
        have hge : ∀ w, f ≤ w → ri1 w = ri w := by
          intro w hw
          rw [hri1]
          by_cases c : w = t
          · have : t = f := by omega
            rw [c, uN_s, this]; omega
          · rw [uN_n c]
        have hle : ∀ w, ri1 w ≤ ri w := by
          intro w
          rw [hri1]
          by_cases c : w = t
          · rw [c, uN_s]; omega
          · rw [uN_n c]; exact Nat.le_refl _
        obtain ⟨H, hH⟩ : ∃ H, H = ui (ui h15 44 (100 * i + f) (nI t)) 45 t (nI (min (ri t) (ri f + 1))) := ⟨_, rfl⟩
        have g43 : H.1 43 = h.1 43 := by rw [hH, ui_n (by decide), ui_n (by decide), w1 43 (by decide)]
        have g45 : ∀ x, H.1 45 x = if x = t then nI (min (ri t) (ri f + 1)) else h.1 45 x := by
          intro x
          rw [hH, ui_s, ui_n (by decide), w1 45 (by decide)]; rfl
        have g44 : ∀ x, H.1 44 x = if x = 100 * i + f then nI t else h.1 44 x := by
          intro x
          rw [hH, ui_n (by decide), ui_s, w1 44 (by decide)]; rfl
        have hVH : VC hc H := by
          rw [hH]
          exact sc_trans (sc_trans (sc_trans V (sc_mono w1 (by decide))) (sc_ui (by decide))) (sc_ui (by decide))
        have hFH : FS hc o u r W (fun a w => f < w ∨ (w = f ∧ a < i + 1)) H ri1 := by
          refine ⟨hVH, fun a ha => by rw [g43]; exact F43 a ha, fun x hx => ?_, by rw [hge W hf]; exact F0, fun a w h1 h2 h3 h4 h5 => ?_⟩
          · rw [g45]
            by_cases c : x = t
            · rw [if_pos c, c, hri1, uN_s]; exact ⟨rfl, by omega⟩
            · rw [if_neg c, hri1, uN_n c]; exact F45 x hx
          · have hwf : f ≤ w := by omega
            rw [hge w hwf] at h5 ⊢
            rw [g44]
            by_cases c : a = i ∧ w = f
            · obtain ⟨rfl, rfl⟩ := c
              rw [if_pos rfl, ← ht]
              refine ⟨rfl, ?_⟩
              rw [hri1, uN_s]; omega
            · rw [if_neg (by omega)]
              obtain ⟨y1, y2⟩ := F44 a w h1 h2 h3 (by
                rcases h4 with q | ⟨q1, q2⟩
                · exact Or.inl q
                · exact Or.inr ⟨q1, by
                    by_cases c2 : a = i
                    · exact absurd ⟨c2, q1⟩ c
                    · omega⟩) h5
              exact ⟨y1, Nat.le_trans (hle _) y2⟩
        obtain ⟨h', ri', x1, x2⟩ := ih (i + 1) g H ri1 (by omega) (by omega) hFH
        refine ⟨h', ri', x1, fun k => ?_⟩
        rw [← x2 k]
        show f_Out_foreseeDays_L26 N (nI r) (nI f) k (lp (f_Out_foreseeDays_L26 N (nI r) (nI f) k) g) (nI i, h) = _
        have s4 : nI i * 100 + nI f = nI (100 * i + f) := by
          rw [show (100 : Int32) = nI 100 from rfl, pk_mul, nI_add, Nat.mul_comm]
        have a45 : (ui h15 44 (100 * i + f) (nI t)).1 45 = h.1 45 := by rw [ui_n (by decide), w1 45 (by decide)]
        have mm : z_mmin (nI (ri t)) (nI (ri f) + 1) = nI (min (ri t) (ri f + 1)) := by rw [nI_1, mmin_n (by omega) (by omega)]
        have nle : ¬ nI (K0H hc u r i) ≤ 0 := fun q => c0 ((nI_le0 (by omega)).mp q)
        rw [f_Out_foreseeDays_L26, f_Par_houses, hh, bd_some, if_neg nu, ix_nI (show f < 100 by omega) (by decide), gd_t, nI_clamp (show f < 2147483648 by omega), r1, if_neg n6, ix_nI (show i < 6 by omega) (by decide), gd_t, jn_eq, nI_clamp (show i < 2147483648 by omega), hki, if_neg nle, w2, bi_some, bn_eq, hto, s4, ix_nI (show 100 * i + f < 600 by omega) (by decide), gd_t, bn_eq, nI_clamp (show 100 * i + f < 2147483648 by omega), ix_nI (show t < 100 by omega) (by decide), gd_t, gd_t, gd_t, bn_eq, nI_clamp (show t < 2147483648 by omega), a45, rt1, r1, mm, ← hH, nI_1]
def dn (f : Nat) : Int32 := if f = 0 then -1 else nI (f - 1)
theorem dn_0 : dn 0 = -1 := if_pos rfl
theorem dn_s {f : Nat} : dn (f + 1) = nI f := by
  rw [dn, if_neg (by omega), Nat.add_sub_cancel]
theorem dn_n {f : Nat} (hf : f < 1000) : nI f + -1 = dn f := by
  rw [dn]
  by_cases c : f = 0
  · rw [if_pos c, c]; rfl
  · rw [if_neg c, ← Int32.sub_eq_add_neg]
    exact sub_r (m := 1) (show 1 ≤ f by omega) (by omega)
theorem lp_1 {σ ρ : Type} {body : (σ → Option ρ) → σ → Option ρ} {n : Nat} {s : σ} : lp body (n + 1) s = body (lp body n) s := (rfl)
theorem l19_0 {rec : (Int32 × mu_H) → Option mu_H} {x : Int32} {h : mu_H} : f_Out_foreseeDays_L19 N x rec (-1, h) = some h := by
  rw [f_Out_foreseeDays_L19, if_pos (show (-1 : Int32) < 0 by decide)]
theorem l19_s {rec : (Int32 × mu_H) → Option mu_H} {x : Int32} {h : mu_H} {f : Nat} (hf : f < 1000) : f_Out_foreseeDays_L19 N x rec (nI f, h) = lp (f_Out_foreseeDays_L26 N x (nI f) (fun h7 => rec (dn f, h7))) N (nI 0, h) := by
  rw [f_Out_foreseeDays_L19, if_neg (nI_pos (by omega)), jn_eq, dn_n hf]
  rfl
theorem fo_key (hN : 3000 ≤ N) (hX : Cx hc hm s u o) (hr : r < s) {W : Nat} (hW : W ≤ 99) : ∀ f g h ri, f ≤ W + 1 → f < g → FS hc o u r W (fun _ w => f ≤ w) h ri → ∃ h' ri', FS hc o u r W (fun _ w => w ≤ W) h' ri' ∧ lp (f_Out_foreseeDays_L19 N (nI r)) g (dn f, h) = some h' := by
  have h6 := hX.1.2.1
  intro f
  induction f with
  | zero =>
    intro g h ri _ hg hF
    obtain ⟨g, rfl⟩ : ∃ q, g = q + 1 := ⟨g - 1, by omega⟩
    refine ⟨h, ri, FS_m hF (fun a w _ _ _ _ _ => Nat.zero_le w), ?_⟩
    rw [lp_1, dn_0, l19_0]
  | succ f ih =>
    intro g h ri hj hg hF
    obtain ⟨g, rfl⟩ : ∃ q, g = q + 1 := ⟨g - 1, by omega⟩
    obtain ⟨h1, ri1, x1, x2⟩ := fo_26 (N := N) hN hX hr hW (show f ≤ W by omega) u 0 N h ri (by omega) (by omega) (FS_m hF (fun a w _ _ _ _ q => by omega))
    obtain ⟨h2, ri2, y1, y2⟩ := ih g h1 ri1 (by omega) (by omega) x1
    refine ⟨h2, ri2, y1, ?_⟩
    rw [lp_1, dn_s, l19_s (by omega), x2]
    exact y2
theorem fo_days (hN : 3000 ≤ N) (hX : Cx hc hm s u o) (hr : r < s) {W : Nat} (hW : W ≤ 99) {h : mu_H} (hV : VC hc h) (h43 : ∀ a, a < u → h.1 43 a = nI (K0H hc u r a)) : ∃ h' ri, FS hc o u r W (fun _ w => w ≤ W) h' ri ∧ f_Out_foreseeDays N h (nI r) (nI W) = some h' := by
  have hfi := fill_c (N := N) (h := h) (q := 45) (n := 100) (v := 1000) (by omega) (by decide)
  obtain ⟨H, hH⟩ : ∃ H, H = ui (ur h 45 (fun k => if k < 100 then 1000 else h.1 45 k)) 45 W 0 := ⟨_, rfl⟩
  have hF0 : FS hc o u r W (fun _ w => W + 1 ≤ w) H (uN (fun _ => 1000) W 0) := by
    refine ⟨?_, fun a ha => ?_, fun t ht => ?_, uN_s, fun a w h1 h2 h3 h4 => by omega⟩
    · rw [hH]; exact sc_trans (sc_trans hV (sc_ur (by decide))) (sc_ui (by decide))
    · rw [hH, ui_n (by decide), ur_n (by decide)]; exact h43 a ha
    · rw [hH, ui_s, ur_1]
      by_cases c : t = W
      · rw [c, upd_s, uN_s]; exact ⟨rfl, by omega⟩
      · rw [upd_n c, uN_n c]
        refine ⟨?_, Nat.le_refl _⟩
        show (if t < 100 then (1000 : Int32) else h.1 45 t) = _
        rw [if_pos ht]; rfl
  obtain ⟨h', ri', x1, x2⟩ := fo_key hN hX hr hW (W + 1) N H _ (by omega) (by omega) hF0
  refine ⟨h', ri', x1, ?_⟩
  rw [dn_s] at x2
  rw [f_Out_foreseeDays, hfi, bd_some, ix_nI (by omega) (by decide), gd_t, bn_eq, nI_clamp (by omega), ← hH]
  exact x2
end Fore
