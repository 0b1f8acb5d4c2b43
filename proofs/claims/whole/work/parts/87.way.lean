/-! way, road -/
section Way
variable {N s u : Nat} {hc hm : mu_H}
theorem W_I {hc' hm' : mu_H} (hI : Inv (mg hc hm)) (f1 : sc [38] hc hc') (f2 : VW hm hm') : (∀ c, 51 ≤ c → hc'.1 c = hc.1 c) ∧ (∀ c, c < 51 → hm'.1 c = hm.1 c) ∧ Inv (mg hc' hm') := by
  obtain ⟨s, u, hp, ⟨nse, hsee⟩, hnow, himg, hpas, htap, hlaw, href⟩ := hI
  have f2 : sM [] [36, 37] hm hm' := f2
  have e := mg_same f1 f2
  exact ⟨(hi_of f1 (by decide)), (lo_of f2 (by decide)), s, u, (Ipar_fr e (by decide) (by decide) hp), ⟨_, Isee_fr e (by decide) (by decide) hsee⟩, (Inow_fr e (by decide) hnow), (Iimg_fr e (by decide) (by decide) himg), (Ipas_fr e (by decide) (by decide) hpas), (Itap_fr e (by decide) (by decide) htap), (Ilaw_fr e (by decide) (by decide) hlaw), (Iref_fr e (by decide) href)⟩
theorem wr_h (hnow : Ist s u (hc.1 15) (hc.1 16) (hm.1 68)) (h9 : s ≤ 9) : ∀ r, r < s → wrH hc r ≤ 99 ∧ hc.1 15 r = nI (wrH hc r) ∧ hm.1 68 r = nI (wrH hc r) := by
  intro r hr
  obtain ⟨w, hw, e1, e2⟩ := wear_2 hnow (show r < 9 by omega)
  have : wrH hc r = w := by rw [wrH, e1]; exact tn_n (by omega)
  rw [this]
  exact ⟨hw, e1, e2⟩
/-- both from one place to another -/
theorem way_2 (hN : 3000 ≤ N) (hp : Ipar (mg hc hm) s u) (hnow : Ist s u (hc.1 15) (hc.1 16) (hm.1 68)) {p g : Nat} (hp8 : p < 8) (hg : g < 8) : ∃ h', f_Mod_layWay N hm (nI p) (nI g) = some h' ∧ VW hm h' ∧ ((Dw hc s p g = 1000000000 ∧ h'.1 51 36 = -1) ∨ (Dw hc s p g < 1000000 ∧ h'.1 51 36 = nI (Dw hc s p g % 512) ∧ h'.1 51 37 = nI (Dw hc s p g / 512))) ∧ ((Dw hc s g p = 1000000000 ∧ h'.1 51 36 = -1) ∨ (Dw hc s g p < 1000000 ∧ h'.1 51 36 = nI (Dw hc s g p % 512))) := by
  have h9 := hp.1
  have hw := wr_h hnow h9
  obtain ⟨g1, g2, g3⟩ := gr_b hp
  obtain ⟨h', σ, x1, x2, x3, x4, x5⟩ := lay_m (N := N) (s := s) hN hp (fun r hr => ⟨(hw r hr).1, (hw r hr).2.2⟩) hp8 hg
  have hl : ∀ r, lnH hc r = 512 * wrH hc r + 2 ^ r := fun r => rfl
  refine ⟨h', x1, x2, ?_, ?_⟩
  · rcases D_min (wr := wrH hc) (ln := lnH hc) h9 g1 g2 (fun r hr => (hw r hr).1) hl hp8 x4 x5 with ⟨e1, e2⟩ | ⟨v, e1, e2, e3⟩
    · subst e1
      exact Or.inl ⟨e2, x3⟩
    · subst e1
      have e3 : Dw hc s p g = v := e3
      rw [e3]
      exact Or.inr ⟨e2, x3.2.1, x3.2.2⟩
  · -- the same backwards
    have y5 : ∀ m w b, Sp s (eaH hc) (ebH hc) (wrH hc) p m (2 ^ g) g w b → ∃ v, σ = some v ∧ v ≤ 512 * w + b := by
      intro m w b hs
      obtain ⟨m2, w2, b2, h3, h4⟩ := W_S0 (wr := wrH hc) hl (Wb_rev _ _ _ _ (Sp_W hl _ _ _ _ _ hs))
      obtain ⟨v, e1, e2⟩ := x5 m2 w2 b2 h3
      exact ⟨v, e1, by omega⟩
    have y4 : ∀ v, σ = some v → ∃ m w b, Sp s (eaH hc) (ebH hc) (wrH hc) p m (2 ^ g) g w b ∧ v = 512 * w + b := by
      intro v hv
      obtain ⟨m, w, b, hs, e⟩ := x4 v hv
      obtain ⟨m2, w2, b2, h3, h4⟩ := W_S0 (wr := wrH hc) hl (Wb_rev _ _ _ _ (Sp_W hl _ _ _ _ _ hs))
      obtain ⟨v2, e1, e2⟩ := y5 m2 w2 b2 h3
      rw [hv] at e1
      cases e1
      exact ⟨m2, w2, b2, h3, by omega⟩
    rcases D_min (wr := wrH hc) (ln := lnH hc) h9 g1 g2 (fun r hr => (hw r hr).1) hl hg y4 y5 with ⟨e1, e2⟩ | ⟨v, e1, e2, e3⟩
    · subst e1
      exact Or.inl ⟨e2, x3⟩
    · subst e1
      have e3 : Dw hc s g p = v := e3
      rw [e3]
      exact Or.inr ⟨e2, x3.2.1⟩
theorem op_way (hN : 3000 ≤ N) (a1 a2 a3 : Int32) (hc hm : mu_H) (hI : Inv (mg hc hm)) : ∃ r hc' hm', f_Owe_way N hc a1 a2 a3 = some (r, hc') ∧ f_Mod_way N hm a1 a2 a3 = some (r, hm') ∧ (∀ c, 51 ≤ c → hc'.1 c = hc.1 c) ∧ (∀ c, c < 51 → hm'.1 c = hm.1 c) ∧ Inv (mg hc' hm') := by
  obtain ⟨s, u, o, hX⟩ := Cx_of hI
  obtain ⟨hp, -, hnow⟩ := hX
  have h9 := hp.1
  have e3 : hc.1 3 2 = nI s := hp.2.2.2.1
  have e5 : hm.1 51 25 = nI s := hp.2.2.2.2.2.1
  have hz := nI_z (show s < 2 ^ 31 by omega)
  have h10 : ¬ (1 : Int32) = 0 := by decide
  have hno := V_I hI VC_refl VM_refl
  have k1 : f_Mod_in N hm a1 0 7 = some (if 0 ≤ a1 ∧ a1 < nI 8 then 1 else 0) := m_in (n := 8) (by decide) a1
  have k2 : f_Mod_in N hm a2 0 7 = some (if 0 ≤ a2 ∧ a2 < nI 8 then 1 else 0) := m_in (n := 8) (by decide) a2
  have k3 : f_Mod_in N hm a3 0 1 = some (if 0 ≤ a3 ∧ a3 < nI 2 then 1 else 0) := m_in (n := 2) (by decide) a3
  have hw := wr_h hnow h9
  by_cases hs : s = 0
  · refine ⟨-1, hc, hm, ?_, ?_, hno⟩
    · simp only [f_Owe_way, f_Par_isNone, e3, hz.mpr hs, if_true, bd_some, if_neg h10]
    · simp only [f_Mod_way, e5, hz.mpr hs, if_true]
  have h0 : ¬ nI s = 0 := fun q => hs (hz.mp q)
  rcases in_or a1 8 (by decide) with ⟨p, hp8, rfl, q1, q2⟩ | no1
  · rcases in_or a2 8 (by decide) with ⟨g, hg, rfl, q3, q4⟩ | no2
    · have n1 : ¬ nI p < 0 := nlt_le.mpr q1
      have n2 : ¬ (8 : Int32) ≤ nI p := nI_ge (b := 8) (by omega) (by decide)
      have n3 : ¬ nI g < 0 := nlt_le.mpr q3
      have n4 : nI g < 8 := q4
      obtain ⟨X, hX⟩ := spr_from (N := N) hN hp (fun r hr => ⟨(hw r hr).1, (hw r hr).2.1⟩) hp8
      obtain ⟨h', x1, x2, x3, -⟩ := way_2 (N := N) hN hp hnow hp8 hg
      have f1 : sc [38] hc (ur hc 38 (WRw X (Dw hc s p))) := sc_ur (by decide)
      have eW : (ur hc 38 (WRw X (Dw hc s p))).1 38 g = nI (Dw hc s p g) := by rw [ur_1, WRw, if_pos hg]
      have hre : f_Roa_reaches N (ur hc 38 (WRw X (Dw hc s p))) (nI g) = some (if 1000000000 ≤ Dw hc s p g then 0 else 1) := by
        rw [f_Roa_reaches, ix_nI hg (by decide), gd_t, nI_clamp (by omega), eW]
        rcases x3 with ⟨y1, -⟩ | ⟨y1, -, -⟩
        · rw [y1, if_pos (by decide), if_pos (by decide)]
        · rw [if_neg (show ¬ (1000000000 : Int32) ≤ nI (Dw hc s p g) from nI_ge (b := 1000000000) (by omega) (by decide)), if_neg (by omega)]
      have hwt : Dw hc s p g < 1000000 → f_Roa_wearTo N (ur hc 38 (WRw X (Dw hc s p))) (nI g) = some (nI (Dw hc s p g / 512)) ∧ f_Roa_stretchesTo N (ur hc 38 (WRw X (Dw hc s p))) (nI g) = some (nI (Dw hc s p g % 512)) := by
        intro hlt
        have d5 : nI (Dw hc s p g) / 512 = nI (Dw hc s p g / 512) := div_r (m := 512) (by decide) (by decide) (by omega)
        constructor
        · rw [f_Roa_wearTo, ix_nI hg (by decide), gd_t, nI_clamp (by omega), eW, d5]
        · rw [f_Roa_stretchesTo, ix_nI hg (by decide), gd_t, nI_clamp (by omega), eW, d5, show (512 : Int32) = nI 512 from rfl, pk_mul, sub_n (by omega) (by omega)]
          exact congrArg some (congrArg nI (by omega))
      by_cases c3 : 0 ≤ a3 ∧ a3 < nI 2
      · rcases x3 with ⟨y1, y2⟩ | ⟨y1, y2, y3⟩
        · refine ⟨-1, _, h', ?_, ?_, W_I hI f1 x2⟩
          · rw [y1, if_pos (by decide)] at hre
            simp only [f_Owe_way, f_Par_isNone, e3, h0, if_false, bd_some, if_true, if_neg n1, if_neg n2, if_neg n3, if_pos n4, hX, hre]
          · simp only [f_Mod_way, e5, h0, if_false, k1, k2, k3, q1, q2, q3, q4, c3, and_self, if_true, bd_some, if_neg h10, x1, jn_eq, y2]
        · rw [if_neg (by omega)] at hre
          obtain ⟨t1, t2⟩ := hwt y1
          have n36 : ¬ nI (Dw hc s p g % 512) = -1 := fun q => by rw [neg1 (by omega)] at q; exact q
          rcases in_or a3 2 (by decide) with ⟨w, hw2, rfl, -, -⟩ | no3
          · rcases (show w = 0 ∨ w = 1 by omega) with rfl | rfl
            · refine ⟨nI (Dw hc s p g / 512), _, h', ?_, ?_, W_I hI f1 x2⟩
              · simp only [f_Owe_way, f_Par_isNone, e3, h0, if_false, bd_some, if_true, if_neg n1, if_neg n2, if_neg n3, if_pos n4, hX, hre, if_neg h10, if_pos (show nI 0 = (0 : Int32) from rfl), t1]
              · simp only [f_Mod_way, e5, h0, if_false, k1, k2, k3, q1, q2, q3, q4, c3, and_self, if_true, bd_some, if_neg h10, x1, jn_eq, y2, y3, n36, if_neg (show ¬ nI 0 = (1 : Int32) from by decide)]
            · refine ⟨nI (Dw hc s p g % 512), _, h', ?_, ?_, W_I hI f1 x2⟩
              · simp only [f_Owe_way, f_Par_isNone, e3, h0, if_false, bd_some, if_true, if_neg n1, if_neg n2, if_neg n3, if_pos n4, hX, hre, if_neg h10, if_neg (show ¬ nI 1 = (0 : Int32) from by decide), if_pos (show nI 1 = (1 : Int32) from rfl), t2]
              · simp only [f_Mod_way, e5, h0, if_false, k1, k2, k3, q1, q2, q3, q4, c3, and_self, if_true, bd_some, if_neg h10, x1, jn_eq, y2, y3, n36, if_pos (show nI 1 = (1 : Int32) from rfl)]
          · exact absurd c3 no3
      · -- the class has spread, the model has not looked
        refine ⟨-1, _, hm, ?_, ?_, W_I hI f1 sM_refl⟩
        · have a0 : ¬ a3 = 0 := fun q => c3 (by rw [q]; exact ⟨by decide, by decide⟩)
          have a1 : ¬ a3 = 1 := fun q => c3 (by rw [q]; exact ⟨by decide, by decide⟩)
          simp only [f_Owe_way, f_Par_isNone, e3, h0, if_false, bd_some, if_true, if_neg n1, if_neg n2, if_neg n3, if_pos n4, hX, hre, if_neg a0, if_neg a1]
          split <;> rfl
        · simp only [f_Mod_way, e5, h0, if_false, k1, k2, k3, q1, q2, q3, q4, and_self, if_true, bd_some, if_neg h10, if_neg c3]
    · refine ⟨-1, hc, hm, ?_, ?_, hno⟩
      · have n1 : ¬ nI p < 0 := nlt_le.mpr q1
        have n2 : ¬ (8 : Int32) ≤ nI p := nI_ge (b := 8) (by omega) (by decide)
        simp only [f_Owe_way, f_Par_isNone, e3, h0, if_false, bd_some, if_true, if_neg n1, if_neg n2]
        by_cases c : a2 < 0
        · rw [if_pos c]
        · rw [if_neg c, if_neg (show ¬ a2 < 8 from fun q => no2 ⟨nlt_le.mp c, q⟩)]
      · simp only [f_Mod_way, e5, h0, if_false, k1, k2, q1, q2, and_self, if_true, bd_some, if_neg h10, if_neg no2]
  · refine ⟨-1, hc, hm, ?_, ?_, hno⟩
    · simp only [f_Owe_way, f_Par_isNone, e3, h0, if_false, bd_some, if_true]
      by_cases c : a1 < 0
      · rw [if_pos c]
      · rw [if_neg c, if_pos (show (8 : Int32) ≤ a1 from nlt_le.mp (fun q => no1 ⟨nlt_le.mp c, q⟩))]
    · simp only [f_Mod_way, e5, h0, if_false, k1, bd_some, if_neg no1, if_true]
end Way
