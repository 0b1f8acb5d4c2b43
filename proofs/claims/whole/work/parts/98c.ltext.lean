/-! fault and text of a law -/
section Ltext
variable {N z n : Nat} {T : Nat → Nat}
theorem tk_cg {C V C' V' : Nat → Int32} {b : Nat} {l : List Tok} (h : toks C V b l) (hk : ∀ i, i < b + l.length → C' i = C i ∧ V' i = V i) : toks C' V' b l := fun j hj => by
  obtain ⟨h1, h2⟩ := h j hj
  obtain ⟨k1, k2⟩ := hk (b + j) (by omega)
  exact ⟨k1.trans h1, k2.trans h2⟩
theorem mlay_cg {j : Nat} {C V TF SF ST C' V' TF' SF' ST' : Nat → Int32} (hC : ∀ i, i < 520 * n → C' i = C i ∧ V' i = V i) (hT : ∀ i, i < 140 * n → TF' i = TF i ∧ SF' i = SF i ∧ ST' i = ST i) : ∀ (cs : List Cla) (q i : Nat), mlay j C V TF SF ST q i cs → 520 * j + q + tl cs ≤ 520 * n → 140 * j + i + cs.length ≤ 140 * n → mlay j C' V' TF' SF' ST' q i cs := by
  intro cs
  induction cs with
  | nil => intro q i _ _ _; trivial
  | cons c r ih =>
    intro q i hm h1 h2
    obtain ⟨a1, a2, a3, a4, a5⟩ := hm
    have h1 : 520 * j + q + (c.1.length + c.2.length + tl r) ≤ 520 * n := h1
    rw [List.length_cons] at h2
    obtain ⟨k1, k2, k3⟩ := hT (140 * j + i) (by omega)
    refine ⟨k1.trans a1, k2.trans a2, k3.trans a3, tk_cg a4 (fun x hx => hC x ?_), ih _ _ a5 (by omega) (by omega)⟩
    rw [List.length_append] at hx; omega
theorem tl_ge : ∀ cs : List Cla, (∀ c ∈ cs, okC c) → cs.length ≤ tl cs := by
  intro cs
  induction cs with
  | nil => intro _; exact Nat.le_refl _
  | cons c r ih =>
    intro hok
    have h1 := ih (fun c' h' => hok c' (List.mem_cons_of_mem _ h'))
    have h2 := Gd_ne (hok c List.mem_cons_self).2.1 (by omega)
    show r.length + 1 ≤ c.1.length + c.2.length + tl r
    omega
theorem LawR_cg {j : Nat} {len cl : Int32} {C CM VM TF SF ST CM' VM' TF' SF' ST' : Nat → Int32} (hj : j < n) (hC : ∀ i, i < 520 * n → CM' i = CM i ∧ VM' i = VM i) (hT : ∀ i, i < 140 * n → TF' i = TF i ∧ SF' i = SF i ∧ ST' i = ST i) (h : LawR len C j cl CM VM TF SF ST) : LawR len C j cl CM' VM' TF' SF' ST' := by
  obtain ⟨cs, a1, a2, a3, a4, a5, a6⟩ := h
  have h1 := tl_ge cs a6
  have h2 := lay_len cs 0
  exact ⟨cs, a1, a2, a3, a4, mlay_cg hC hT cs 0 0 a5 (by omega) (by omega), a6⟩
/-- the laws, told for all -/
def Jlaw (h : mu_H) (l : Nat) : Prop := l ≤ 4 ∧ h.1 22 4 = nI l ∧ h.1 51 13 = nI l ∧ h.1 22 5 = h.1 51 29 ∧ (h.1 22 5 = -1 ∨ ∃ j, j < l ∧ h.1 22 5 = nI j) ∧ ∀ j, j < l → LawR (h.1 (24 + 3 * j) 2) (h.1 (24 + 3 * j + 1)) j (h.1 56 j) (h.1 53) (h.1 54) (h.1 57) (h.1 58) (h.1 59)
theorem J_of {h : mu_H} (hI : Ilaw h) : ∃ l, Jlaw h l := by
  obtain ⟨l, a1, a2, a3, a4, a5, a6, a7, a8, a9⟩ := hI
  refine ⟨l, a1, a2, a3, a4, a5, fun j hj => ?_⟩
  rcases (show j = 0 ∨ j = 1 ∨ j = 2 ∨ j = 3 by omega) with rfl | rfl | rfl | rfl
  · exact a6 hj
  · exact a7 hj
  · exact a8 hj
  · exact a9 hj
theorem of_J {h : mu_H} {l : Nat} (hI : Jlaw h l) : Ilaw h := by
  obtain ⟨a1, a2, a3, a4, a5, a6⟩ := hI
  exact ⟨l, a1, a2, a3, a4, a5, fun q => a6 0 q, fun q => a6 1 q, fun q => a6 2 q, fun q => a6 3 q⟩
theorem J_fr {hc hm hc' hm' : mu_H} {l : Nat} (hI : Jlaw (mg hc hm) l) (hl : l ≤ n) (f1 : sc [10, 11, 12] hc hc') (f2 : MG n hm hm') : Jlaw (mg hc' hm') l := by
  obtain ⟨a1, a2, a3, a4, a5, a6⟩ := hI
  have e := mg_same f1 f2.1
  refine ⟨a1, ?_, ?_, ?_, ?_, fun j hj => ?_⟩
  · rw [e.1 22 (by decide) (by decide)]; exact a2
  · rw [e.2 13 (by decide)]; exact a3
  · rw [e.1 22 (by decide) (by decide), e.2 29 (by decide)]; exact a4
  · rw [e.1 22 (by decide) (by decide)]; exact a5
  · have b := a6 j hj
    have x1 : (mg hc' hm').1 (24 + 3 * j) = (mg hc hm).1 (24 + 3 * j) := by
      rw [mg_c (by omega), mg_c (by omega)]; exact f1 _ (by simp only [List.mem_cons, List.not_mem_nil, or_false]; omega)
    have x2 : (mg hc' hm').1 (24 + 3 * j + 1) = (mg hc hm).1 (24 + 3 * j + 1) := by
      rw [mg_c (by omega), mg_c (by omega)]; exact f1 _ (by simp only [List.mem_cons, List.not_mem_nil, or_false]; omega)
    rw [x1, x2]
    have x3 : (mg hc' hm').1 56 j = (mg hc hm).1 56 j := f2.2.2.2 j (by omega)
    rw [x3]
    exact LawR_cg (n := n) (by omega) f2.2.1 f2.2.2.1 b
theorem law_I {hc hm hc' hm' : mu_H} (hI : Inv (mg hc hm)) {l : Nat} (hJ : Jlaw (mg hc hm) l) (hl : l ≤ n) (f1 : sc [10, 11, 12] hc hc') (f2 : MG n hm hm') : (∀ c, 51 ≤ c → hc'.1 c = hc.1 c) ∧ (∀ c, c < 51 → hm'.1 c = hm.1 c) ∧ Inv (mg hc' hm') := by
  obtain ⟨s, u, hp, ⟨nse, hsee⟩, hnow, himg, hpas, htap, hlaw, href⟩ := hI
  have e := mg_same f1 f2.1
  have g2 := f2.1
  exact ⟨(hi_of f1 (by decide)), (lo_of g2 (by decide)), s, u, (Ipar_fr e (by decide) (by decide) hp), ⟨_, Isee_fr e (by decide) (by decide) hsee⟩, (Inow_fr e (by decide) hnow), (Iimg_fr e (by decide) (by decide) himg), (Ipas_fr e (by decide) (by decide) hpas), (Itap_fr e (by decide) (by decide) htap), of_J (J_fr hJ hl f1 f2), (Iref_fr e (by decide) href)⟩
/-- the fault of a law -/
theorem op_flaw (hN : 3000 ≤ N) (hc hm : mu_H) (hI : Inv (mg hc hm)) : ∃ r hc' hm', f_LRd_firstWrong N hc = some (r, hc') ∧ f_Mod_readLaw N hm 4 = some (r, hm') ∧ (∀ c, 51 ≤ c → hc'.1 c = hc.1 c) ∧ (∀ c, c < 51 → hm'.1 c = hm.1 c) ∧ Inv (mg hc' hm') := by
  have hI0 := hI
  obtain ⟨s, u, hp, ⟨nse, hsee⟩, hnow, himg, hpas, htap, hlaw, href⟩ := hI
  obtain ⟨z, T, hTc, hTm⟩ := T_of htap
  obtain ⟨l, hJ⟩ := J_of hlaw
  have h4 := hJ.1
  have e4 : f_Mod_readLaw N hm 4 = f_Mod_readLaw N hm (nI 4) := rfl
  rw [e4]
  rcases law_2 (n := 4) hTc hTm (by decide) hN with ⟨e, hc', hm', a1, a2, a3, a4, a5⟩ | ⟨q, cl, hc', hm', a1, a2, a3, a4, a5, a6⟩
  · exact ⟨nI e, hc', hm', a2, a3, law_I hI0 hJ h4 a4 a5⟩
  · exact ⟨-1, hc', hm', a1, a2, law_I hI0 hJ h4 a3.1 a4.1⟩
theorem cpk_t : cpk 0 0 240 240 240 = true := by decide
/-- a law more -/
theorem op_tlaw (hN : 3000 ≤ N) (hc hm : mu_H) (hI : Inv (mg hc hm)) : ∃ r hc' hm', f_Owe_text N hc 1 = some (r, hc') ∧ f_Mod_text N hm 1 = some (r, hm') ∧ (∀ c, 51 ≤ c → hc'.1 c = hc.1 c) ∧ (∀ c, c < 51 → hm'.1 c = hm.1 c) ∧ Inv (mg hc' hm') := by
  have hI0 := hI
  obtain ⟨s, u, hp, ⟨nse, hsee⟩, hnow, himg, hpas, htap, hlaw, href⟩ := hI
  obtain ⟨z, T, hTc, hTm⟩ := T_of htap
  obtain ⟨l, hJ⟩ := J_of hlaw
  have h4 := hJ.1
  have k1 : hc.1 22 4 = nI l := hJ.2.1
  have k2 : hm.1 51 13 = nI l := hJ.2.2.1
  have h10 : ((1 : Int32) = 0) = False := by decide
  have eX : f_Owe_text N hc 1 = if (4 : Int32) ≤ nI l then some (-1, hc) else bi (f_LRd_firstWrong N hc) fun x4 h5 => if x4 = -1 then bi (f_Tap_shorten N h5 0) fun _ h8 => bi (f_Lab_addLaw N h8 11) fun x10 h11 => some (x10, h11) else some (-1, h5) := by
    simp only [f_Owe_text, jn_eq, h10, f_Lab_laws, k1, bd_some, ↓reduceIte]
  have eY : f_Mod_text N hm 1 = if (4 : Int32) ≤ nI l then some (-1, hm) else bi (f_Mod_readLaw N hm (nI l)) fun x3 h4 => if x3 = -1 then bn (ui h4 51 2 0) fun h6 => bn (ui h6 51 13 ((h6.1 51 13) + 1)) fun h7 => some ((h7.1 51 13) - 1, h7) else some (-1, h4) := by
    simp only [f_Mod_text, jn_eq, h10, k2, ↓reduceIte]
  rw [eX, eY]
  by_cases c4 : l = 4
  · rw [if_pos (by rw [c4]; decide), if_pos (by rw [c4]; decide)]
    exact ⟨-1, hc, hm, rfl, rfl, fun _ _ => rfl, fun _ _ => rfl, hI0⟩
  · have n4 : ¬ (4 : Int32) ≤ nI l := fun q => by have := (nI_leI (a := 4) (by decide) (by omega)).mp q; omega
    rw [if_neg n4, if_neg n4]
    rcases law_2 (n := l) hTc hTm (by omega) hN with ⟨e, hc', hm', a1, a2, a3, a4, a5⟩ | ⟨q, cl, hc', hm', a1, a2, a3, a4, a5, a6⟩
    · have ne : ¬ nI e = -1 := fun q => by rw [neg1 (by omega)] at q; exact q
      refine ⟨-1, hc', hm', ?_, ?_, law_I hI0 hJ (Nat.le_refl l) a4 a5⟩
      · rw [a2, bi_some, if_neg ne]
      · rw [a3, bi_some, if_neg ne]
    · have hJ' := J_fr hJ (Nat.le_refl l) a3.1 a4.1
      obtain ⟨C1, C2, C3, C4⟩ := a3
      obtain ⟨g0, hM, w56, wmix⟩ := a4
      have hT' := Tc_fr C1 (by decide) (by decide) hTc
      -- the class
      obtain ⟨h8, e8⟩ : ∃ h8, h8 = ui hc' 1 1 0 := ⟨_, rfl⟩
      have s1 : f_Tap_shorten N hc' 0 = some (1, h8) := by
        have : (0 : Int32) ≤ hc'.1 1 1 := by rw [hT'.2.1]; exact nI_pos' (by have := hT'.1; omega)
        rw [f_Tap_shorten, if_neg (by decide), if_pos this, bn_eq, e8]
      have x22 : h8.1 22 4 = nI l := by rw [e8, ui_n (by decide), C1 22 (by decide)]; exact k1
      have x11 : h8.1 11 2 = nI (lay 0 cl).length := by rw [e8, ui_n (by decide)]; exact C3
      have x12 : h8.1 12 = hc'.1 12 := by rw [e8, ui_n (by decide)]
      obtain ⟨F, eF⟩ : ∃ F, F = va_cpy (h8.1 12) (h8.1 (24 + 3 * l + 1)) 0 0 240 := ⟨_, rfl⟩
      obtain ⟨h10', e10⟩ : ∃ h10', h10' = ui (ur h8 (24 + 3 * l + 1) F) (24 + 3 * l) 2 (nI (lay 0 cl).length) := ⟨_, rfl⟩
      have y22 : h10'.1 22 4 = nI l := by rw [e10, ui_n (by omega), ur_n (by omega)]; exact x22
      have s2 : f_Lab_addLaw N h8 11 = some (nI l, ui h10' 22 4 (nI (l + 1))) := by
        have tk : f_Law_take N h8 (24 + 3 * l) 11 = some h10' := by
          rw [f_Law_take, cpk_t, gd_t, bn_eq, bn_eq, ur_n (by omega), x11]
          rw [e10, eF]; rfl
        rw [f_Lab_addLaw, x22, if_pos (show nI l < (4 : Int32) from (nI_ltI (b := 4) (by omega) (by decide)).mpr (by omega)), ix_nI (by omega) (by decide), gd_t, bn_eq, nI_clamp (by omega), tk, bd_some, bn_eq, y22, nI_1, ui_s, upd_s, sub1 (by omega)]
      have z13 : hm'.1 51 13 = nI l := by rw [g0.1.2 13 (by decide)]; exact k2
      obtain ⟨hmF, eM⟩ : ∃ hmF, hmF = ui (ui hm' 51 2 0) 51 13 (nI (l + 1)) := ⟨_, rfl⟩
      have f1 : sc [1, 10, 11, 12, 22, 24 + 3 * l, 24 + 3 * l + 1] hc (ui h10' 22 4 (nI (l + 1))) := by
        rw [e10, e8]
        exact sc_trans (sc_trans (sc_trans (sc_trans (sc_mono C1 (by simp)) (sc_ui (by simp))) (sc_ur (by simp))) (sc_ui (by simp))) (sc_ui (by simp))
      have f2 : sM [53, 54, 55, 56, 57, 58, 59] [2, 3, 4, 5, 13, 14] hm hmF := by
        rw [eM]
        exact sM_trans (sM_trans (sM_mono g0.1 (by simp) (by simp)) (sM_u5 (by simp))) (sM_u5 (by simp))
      refine ⟨nI l, ui h10' 22 4 (nI (l + 1)), hmF, ?_, ?_, ?_, ?_, s, u, ?_⟩
      · rw [a1, bi_some, if_pos rfl, s1, bi_some, s2, bi_some]
      · have q13 : (ui hm' 51 2 0).1 51 13 = nI l := by rw [u5_n (by decide)]; exact z13
        rw [a2, bi_some, if_pos rfl, bn_eq, q13, bn_eq, nI_1, u5_s, sub1 (by omega), ← eM]
      · intro c hc51
        exact f1 c (by simp only [List.mem_cons, List.not_mem_nil, or_false]; omega)
      · intro c hc51
        exact f2.1 c (by simp only [List.mem_cons, List.not_mem_nil, or_false]; omega) (by omega)
      have e := mg_same f1 f2
      have nA : ∀ x, x ∉ [1, 10, 11, 12, 22, 24, 25, 27, 28, 30, 31, 33, 34, 53, 54, 55, 56, 57, 58, 59] → x ∉ [1, 10, 11, 12, 22, 24 + 3 * l, 24 + 3 * l + 1] ++ [53, 54, 55, 56, 57, 58, 59] := by
        intro x hx
        simp only [List.mem_append, List.mem_cons, List.not_mem_nil, or_false] at hx ⊢
        omega
      refine ⟨Ipar_fr e (fun x hx => nA x (by revert x; decide)) (by decide) hp, ⟨_, Isee_fr e (fun x hx => nA x (by revert x; decide)) (by decide) hsee⟩, Inow_fr e (fun x hx => nA x (by revert x; decide)) hnow, Iimg_fr e (fun x hx => nA x (by revert x; decide)) (by decide) himg, Ipas_fr e (fun x hx => nA x (by revert x; decide)) (by decide) hpas, ?_, ?_, Iref_fr e (fun x hx => nA x (by revert x; decide)) href⟩
      · refine ⟨0, by decide, ?_, ?_, fun i hi => by omega⟩
        · rw [mg_c (by decide), ui_n (by decide), e10, ui_n (by omega), ur_n (by omega), e8, ui_s, upd_s]; rfl
        · rw [mg_m (by decide), eM, u5_n (by decide), u5_s]; rfl
      · obtain ⟨b1, b2, b3, b4, b5, b6⟩ := hJ'
        have b4 : hc'.1 22 5 = hm'.1 51 29 := b4
        have b5 : hc'.1 22 5 = -1 ∨ ∃ j, j < l ∧ hc'.1 22 5 = nI j := b5
        have w5 : (ui h10' 22 4 (nI (l + 1))).1 22 5 = hc'.1 22 5 := by
          rw [ui_s, upd_n (by decide), e10, ui_n (by omega), ur_n (by omega), e8, ui_n (by decide)]
        have wm : ∀ c, 51 < c → hmF.1 c = hm'.1 c := fun c hc => by rw [eM, ui_n (by omega), ui_n (by omega)]
        refine of_J (l := l + 1) ⟨by omega, ?_, ?_, ?_, ?_, fun j hj => ?_⟩
        · rw [mg_c (by decide), ui_s, upd_s]
        · rw [mg_m (by decide), eM, u5_s]
        · rw [mg_c (by decide), mg_m (by decide), w5, b4, eM, u5_n (by decide), u5_n (by decide)]
        · rw [mg_c (by decide), w5]
          rcases b5 with w | ⟨j, w1, w2⟩
          · exact Or.inl w
          · exact Or.inr ⟨j, by omega, w2⟩
        · rw [mg_c (by omega), mg_c (by omega), mg_m (by decide), mg_m (by decide), mg_m (by decide), mg_m (by decide), mg_m (by decide), mg_m (by decide), wm 56 (by decide), wm 53 (by decide), wm 54 (by decide), wm 57 (by decide), wm 58 (by decide), wm 59 (by decide)]
          by_cases cj : j = l
          · subst cj
            have v1 : (ui h10' 22 4 (nI (j + 1))).1 (24 + 3 * j) 2 = nI (lay 0 cl).length := by
              rw [ui_n (by omega), e10, ui_s, upd_s]
            have v2 : (ui h10' 22 4 (nI (j + 1))).1 (24 + 3 * j + 1) = F := by
              rw [ui_n (by omega), e10, ui_n (by omega), ur_1]
            rw [v1, v2]
            refine ⟨cl, rfl, a6, ?_, w56, mlay_of cl 0 0 wmix hM.2.2.2.2.2.2, a5⟩
            intro i hi
            rw [← C4 i hi, eF, va_cpy, if_pos ⟨Nat.zero_le _, by omega⟩, x12, show 0 + (0 + i - 0) = 0 + i by omega]
          · have b := b6 j (by omega)
            rw [mg_c (by omega), mg_c (by omega), mg_m (by decide), mg_m (by decide), mg_m (by decide), mg_m (by decide), mg_m (by decide), mg_m (by decide)] at b
            have v1 : (ui h10' 22 4 (nI (l + 1))).1 (24 + 3 * j) = hc'.1 (24 + 3 * j) := by
              rw [ui_n (by omega), e10, ui_n (by omega), ur_n (by omega), e8, ui_n (by omega)]
            have v2 : (ui h10' 22 4 (nI (l + 1))).1 (24 + 3 * j + 1) = hc'.1 (24 + 3 * j + 1) := by
              rw [ui_n (by omega), e10, ui_n (by omega), ur_n (by omega), e8, ui_n (by omega)]
            rw [v1, v2]
            exact b
end Ltext
