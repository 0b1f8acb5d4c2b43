/-! house; the start -/
section House
variable {N : Nat}
theorem Inv_50 {h : mu_H} {x : Int32} (hI : Inv h) : Inv (ui h 51 0 x) := by
  obtain ⟨s, u, hp, ⟨nse, hsee⟩, hnow, himg, hpas, htap, hlaw, href⟩ := hI
  have e : sM [] [0] h (ui h 51 0 x) := sM_u5 (by decide)
  exact ⟨s, u, (Ipar_fr e (by decide) (by decide) hp), ⟨_, Isee_fr e (by decide) (by decide) hsee⟩, (Inow_fr e (by decide) hnow), (Iimg_fr e (by decide) (by decide) himg), (Ipas_fr e (by decide) (by decide) hpas), (Itap_fr e (by decide) (by decide) htap), (Ilaw_fr e (by decide) (by decide) hlaw), (Iref_fr e (by decide) href)⟩
theorem ls_6 (hN : 3000 ≤ N) : LS_6 N Inv := by
  intro h hI a1 a2
  have hI0 := hI
  obtain ⟨s, u, hp, ⟨nse, hsee⟩, hnow, himg, hpas, htap, hlaw, href⟩ := hI
  have h6 := hp.2.1
  have k1 := c_isH (N := N) (h := h) (o := 3) hp.2.2.2.2.1 a1
  have k2 : ∀ h' : mu_H, h'.1 = h.1 → f_Mod_isHouse N h' a1 = some (if 0 ≤ a1 ∧ a1 < nI u then 1 else 0) := fun h' e => m_isH (by rw [e]; exact hp.2.2.2.2.2.2.1) h6 a1
  have k5 : ∀ h' : mu_H, f_Mod_in N h' a2 0 4 = some (if 0 ≤ a2 ∧ a2 < nI 5 then 1 else 0) := fun h' => m_in (n := 5) (by decide) a2
  have h10 : ((1 : Int32) = 0) = False := by decide
  have h01 : ((0 : Int32) = 1) = False := by decide
  have non : f_Owe_house N h a1 a2 = some none → (¬ (0 ≤ a1 ∧ a1 < nI u) ∨ ¬ (0 ≤ a2 ∧ a2 < nI 5)) → ∃ (q : Option Int32) (x : Int32) (h2 : mu_H), f_Owe_house N h a1 a2 = some q ∧ f_Mod_house N (oH q h) a1 a2 = some (x, h2) ∧ f_Mod_thrown N h2 = some (oN q) ∧ (∀ v, q = some v → h2.2 79 0 = x.toInt64) ∧ Inv h2 := by
    intro e1 e2
    refine ⟨none, 0, ui h 51 0 1, e1, ?_, by rw [f_Mod_thrown, u5_s]; rfl, fun v hv => absurd hv (by simp), Inv_50 hI0⟩
    show f_Mod_house N h a1 a2 = _
    have u1 : ((ui h 51 0 1).1 51 0 = 1) = True := eq_true u5_s
    by_cases c : 0 ≤ a1 ∧ a1 < nI u
    · have c2 : ¬ (0 ≤ a2 ∧ a2 < nI 5) := by
        rcases e2 with w | w
        · exact absurd c w
        · exact w
      simp only [f_Mod_house, k2 h rfl, if_pos c, bd_some, jn_eq, h10, k5, if_neg c2, ↓reduceIte, bn_eq, u1]
    · simp only [f_Mod_house, k2 h rfl, if_neg c, bd_some, jn_eq, ↓reduceIte, bn_eq, u1]
  rcases in_or a1 u (by omega) with ⟨a, ha, rfl, q1, q2⟩ | no1
  · rcases in_or a2 5 (by decide) with ⟨k, hk, rfl, q3, q4⟩ | no2
    · have yes : ∀ v : Int32, f_Owe_house N h (nI a) (nI k) = some (some v) → (if (3 : Int32) ≤ nI k then if nI k = 3 then h.1 68 (18 + a) else h.1 68 (24 + a) else h.1 67 (3 * a + k)) = v → ∃ (q : Option Int32) (x : Int32) (h2 : mu_H), f_Owe_house N h (nI a) (nI k) = some q ∧ f_Mod_house N (oH q h) (nI a) (nI k) = some (x, h2) ∧ f_Mod_thrown N h2 = some (oN q) ∧ (∀ v, q = some v → h2.2 79 0 = x.toInt64) ∧ Inv h2 := by
        intro v e1 e2
        have f1 : (ul h 79 0 v.toInt64).1 = h.1 := rfl
        refine ⟨some v, v, ui (ul h 79 0 v.toInt64) 51 0 0, e1, ?_, by rw [f_Mod_thrown, u5_s]; rfl, fun w hw => ?_, Inv_50 (Inv_fst f1 hI0)⟩
        · show f_Mod_house N (ul h 79 0 v.toInt64) (nI a) (nI k) = _
          have u0 : ((ui (ul h 79 0 v.toInt64) 51 0 0).1 51 0 = 1) = False := by rw [u5_s]; exact h01
          have i1 : 18 + nI a = nI (18 + a) := by rw [show (18 : Int32) = nI 18 from rfl, nI_add]
          have i2 : 24 + nI a = nI (24 + a) := by rw [show (24 : Int32) = nI 24 from rfl, nI_add]
          have x1 : ix (nI (18 + a)) 214 = true := ix_nI (by omega) (by decide)
          have x2 : ix (nI (24 + a)) 214 = true := ix_nI (by omega) (by decide)
          have c1 := nI_clamp (show 18 + a < 2147483648 by omega)
          have c2 := nI_clamp (show 24 + a < 2147483648 by omega)
          have g68 : (ui (ul h 79 0 v.toInt64) 51 0 0).1 68 = h.1 68 := by rw [ui_n (by decide), f1]
          have g67 : (ui (ul h 79 0 v.toInt64) 51 0 0).1 67 = h.1 67 := by rw [ui_n (by decide), f1]
          simp only [f_Mod_house, k2 (ul h 79 0 v.toInt64) f1, if_pos (And.intro q1 q2), bd_some, jn_eq, h10, k5, if_pos (And.intro q3 q4), ↓reduceIte, bn_eq, u0]
          by_cases w1 : (3 : Int32) ≤ nI k
          · rw [if_pos w1] at e2 ⊢
            by_cases w2 : nI k = 3
            · rw [if_pos w2] at e2 ⊢
              rw [i1, x1, gd_t, c1, g68, e2]
            · rw [if_neg w2] at e2 ⊢
              rw [i2, x2, gd_t, c2, g68, e2]
          · rw [if_neg w1] at e2 ⊢
            have k3 : k < 3 := Decidable.byContradiction (fun w => w1 ((nI_leI (a := 3) (by decide) (by omega)).mpr (by omega)))
            rw [mofH (by omega) k3, bd_some, g67, e2]
        · cases hw
          show (ul h 79 0 v.toInt64).2 79 0 = v.toInt64
          simp [ul, vp_updL]
      have o1 : ∀ j, j < 3 → f_Par_ofHouse N h 3 (nI a) (nI j) = some (h.1 4 (5 * (10 + a) + j)) := fun j hj => ofH (by omega) (by omega)
      have r1 : ∀ j, j < 3 → h.1 67 (3 * a + j) = h.1 4 (5 * (10 + a) + j) := (hp.2.2.2.2.2.2.2.2.2.1 a ha).1
      have cH : f_Par_hasHouse N h 3 (nI a) = some 1 := by rw [k1, if_pos ⟨q1, q2⟩]
      have h15 : ∀ j, j ≤ 30 → h.1 15 j = h.1 68 j := hnow.1
      rcases (show k = 0 ∨ k = 1 ∨ k = 2 ∨ k = 3 ∨ k = 4 by omega) with rfl | rfl | rfl | rfl | rfl
      · refine yes (h.1 4 (5 * (10 + a) + 0)) ?_ (r1 0 (by decide))
        have o : f_Par_ofHouse N h 3 (nI a) 0 = some (h.1 4 (5 * (10 + a) + 0)) := o1 0 (by decide)
        rw [f_Owe_house, cH, bd_some, if_neg (show ¬ (1 : Int32) = 0 by decide), if_pos (show nI 0 = (0 : Int32) from rfl), o, bd_some]
      · refine yes (h.1 4 (5 * (10 + a) + 1)) ?_ (r1 1 (by decide))
        have o : f_Par_ofHouse N h 3 (nI a) 1 = some (h.1 4 (5 * (10 + a) + 1)) := o1 1 (by decide)
        rw [f_Owe_house, cH, bd_some, if_neg (show ¬ (1 : Int32) = 0 by decide), if_neg (show ¬ nI 1 = (0 : Int32) by decide), if_pos (show nI 1 = (1 : Int32) from rfl), o, bd_some]
      · refine yes (h.1 4 (5 * (10 + a) + 2)) ?_ (r1 2 (by decide))
        have o : f_Par_ofHouse N h 3 (nI a) 2 = some (h.1 4 (5 * (10 + a) + 2)) := o1 2 (by decide)
        rw [f_Owe_house, cH, bd_some, if_neg (show ¬ (1 : Int32) = 0 by decide), if_neg (show ¬ nI 2 = (0 : Int32) by decide), if_neg (show ¬ nI 2 = (1 : Int32) by decide), if_pos (show nI 2 = (2 : Int32) from rfl), o, bd_some]
      · refine yes (h.1 15 (18 + a)) ?_ (h15 (18 + a) (by omega)).symm
        have i1 : 18 + nI a = nI (18 + a) := by rw [show (18 : Int32) = nI 18 from rfl, nI_add]
        have o : f_Sta_owed N h 14 (nI a) = some (h.1 15 (18 + a)) := by
          rw [f_Sta_owed, i1, ix_nI (by omega) (by decide), gd_t, nI_clamp (by omega)]
        rw [f_Owe_house, cH, bd_some, if_neg (show ¬ (1 : Int32) = 0 by decide), if_neg (show ¬ nI 3 = (0 : Int32) by decide), if_neg (show ¬ nI 3 = (1 : Int32) by decide), if_neg (show ¬ nI 3 = (2 : Int32) by decide), if_pos (show nI 3 = (3 : Int32) from rfl), o, bd_some]
      · refine yes (h.1 15 (24 + a)) ?_ (h15 (24 + a) (by omega)).symm
        have i1 : 24 + nI a = nI (24 + a) := by rw [show (24 : Int32) = nI 24 from rfl, nI_add]
        have o : f_Sta_debt N h 14 (nI a) = some (h.1 15 (24 + a)) := by
          rw [f_Sta_debt, i1, ix_nI (by omega) (by decide), gd_t, nI_clamp (by omega)]
        rw [f_Owe_house, cH, bd_some, if_neg (show ¬ (1 : Int32) = 0 by decide), if_neg (show ¬ nI 4 = (0 : Int32) by decide), if_neg (show ¬ nI 4 = (1 : Int32) by decide), if_neg (show ¬ nI 4 = (2 : Int32) by decide), if_neg (show ¬ nI 4 = (3 : Int32) by decide), if_pos (show nI 4 = (4 : Int32) from rfl), o, bd_some]
    · refine non ?_ (Or.inr no2)
      have ne : ∀ j, j < 5 → ¬ a2 = nI j := fun j hj w => no2 (by rw [w]; exact ⟨nI_pos' (by omega), nI_lt hj (by decide)⟩)
      rw [f_Owe_house, k1, if_pos ⟨q1, q2⟩, bd_some, if_neg (show ¬ (1 : Int32) = 0 by decide), if_neg (show ¬ a2 = 0 from ne 0 (by decide)), if_neg (show ¬ a2 = 1 from ne 1 (by decide)), if_neg (show ¬ a2 = 2 from ne 2 (by decide)), if_neg (show ¬ a2 = 3 from ne 3 (by decide)), if_neg (show ¬ a2 = 4 from ne 4 (by decide))]
  · refine non ?_ (Or.inl no1)
    rw [f_Owe_house, k1, if_neg no1, bd_some, if_pos rfl]
theorem z_0 {c k : Nat} (h1 : c ≠ 22) (h2 : c ≠ 51) : h_0.1 c k = 0 := by
  show (if c = 22 ∧ k = 5 then (-1 : Int32) else if c = 51 ∧ k = 29 then -1 else 0) = 0
  rw [if_neg (fun q => h1 q.1), if_neg (fun q => h2 q.1)]
theorem inv_0 : Inv h_0 := by
  have b0 : ∀ n, bN (0 : Int32) n := fun n => ⟨0, Nat.zero_le n, rfl⟩
  refine ⟨0, 0, ?_, ⟨0, by decide, rfl, rfl, fun i hi => by omega⟩, ?_, ⟨rfl, Or.inl rfl⟩, ⟨0, 0, fun _ => 0, by decide, by decide, rfl, rfl, rfl, rfl, by decide, fun e he => by omega⟩, ⟨0, by decide, rfl, rfl, fun i hi => by omega⟩, ⟨0, by decide, rfl, rfl, rfl, Or.inl rfl, fun q => absurd q (by decide), fun q => absurd q (by decide), fun q => absurd q (by decide), fun q => absurd q (by decide)⟩, fun k hk => by rw [z_0 (by decide) (by decide), z_0 (by decide) (by decide)]⟩
  · exact ⟨by decide, by decide, by omega, rfl, rfl, rfl, rfl, fun q => absurd q (by decide), fun r hr => by omega, fun r hr => by omega, fun q => absurd q (by decide)⟩
  · refine ⟨fun k hk => by rw [z_0 (by decide) (by decide), z_0 (by decide) (by decide)], rfl, rfl, ⟨0, by decide, rfl, rfl, rfl, fun i hi => absurd hi (by rw [Nat.zero_min]; omega)⟩, fun r hr => ⟨?_, ?_, fun _ => ?_⟩, fun r hr => ⟨?_, ?_, fun _ => ⟨?_, ?_⟩⟩⟩
    · rw [z_0 (by decide) (by decide)]; exact b0 99
    · rw [z_0 (by decide) (by decide)]; exact b0 9
    · rw [z_0 (by decide) (by decide)]
    · rw [z_0 (by decide) (by decide)]; exact b0 9
    · rw [z_0 (by decide) (by decide)]; exact b0 999
    · rw [z_0 (by decide) (by decide)]
    · rw [z_0 (by decide) (by decide)]
/-- all the steps -/
theorem ls_all (hN : 9000 ≤ N) : LSall N Inv := by
  have h3 : 3000 ≤ N := by omega
  have h1 : 100 ≤ N := by omega
  refine ⟨?_, ?_, ?_, ?_, ?_, ?_, ?_, ?_, ?_, ?_, ?_, ?_, ?_, ?_, ?_, ?_, ?_, ?_, ?_, ?_, ?_, ?_, ?_, ?_, ?_, ?_, ?_, ?_, ?_, ?_, ?_, ?_, ?_, ?_, ?_, ?_, ?_, ?_, ?_, ?_⟩
  · exact fun h hI a1 a2 a3 a4 a5 => two (FO := fun h => f_Owe_feed N h a1 a2 a3 a4 a5) (FM := fun h => f_Mod_feed N h a1 a2 a3 a4 a5) (fun hc hm hi => op_feed h3 a1 a2 a3 a4 a5 hc hm hi) h hI
  · exact fun h hI a1 => two (FO := fun h => f_Owe_end N h a1) (FM := fun h => f_Mod_end N h a1) (fun hc hm hi => op_end a1 hc hm hi) h hI
  · exact fun h hI a1 => two (FO := fun h => f_Owe_fault N h a1) (FM := fun h => f_Mod_fault N h a1) (fun hc hm hi => op_fault h3 a1 hc hm hi) h hI
  · exact fun h hI a1 => two (FO := fun h => f_Owe_text N h a1) (FM := fun h => f_Mod_text N h a1) (fun hc hm hi => op_text h3 a1 hc hm hi) h hI
  · exact fun h ⟨s, u, hp, _⟩ a1 => pp_rule hp N a1
  · exact fun h ⟨s, u, hp, _, hnow, _⟩ a1 a2 => pp_stretch hp hnow.1 N a1 a2
  · exact fun h hI a1 => two (FO := fun h => f_Owe_law N h a1) (FM := fun h => f_Mod_law N h a1) (fun hc hm hi => op_law a1 hc hm hi) h hI
  · exact fun h ⟨s, u, hp, _⟩ a1 a2 => pp_haul hp N a1 a2
  · exact fun h hI a1 a2 a3 => two (FO := fun h => f_Owe_does N h a1 a2 a3) (FM := fun h => f_Mod_does N h a1 a2 a3) (fun hc hm hi => op_does h3 a1 a2 a3 hc hm hi) h hI
  · exact fun h hI a1 a2 a3 => two (FO := fun h => f_Owe_work N h a1 a2 a3) (FM := fun h => f_Mod_work N h a1 a2 a3) (fun hc hm hi => op_work hN a1 a2 a3 hc hm hi) h hI
  · exact fun h hI a1 a2 => two (FO := fun h => f_Owe_pay N h a1 a2) (FM := fun h => f_Mod_pay N h a1 a2) (fun hc hm hi => op_pay hN a1 a2 hc hm hi) h hI
  · exact fun h hI a1 => two (FO := fun h => f_Owe_ditch N h a1) (FM := fun h => f_Mod_ditch N h a1) (fun hc hm hi => op_ditch hN a1 hc hm hi) h hI
  · exact fun h hI a1 => two (FO := fun h => f_Owe_seasons N h a1) (FM := fun h => f_Mod_seasons N h a1) (fun hc hm hi => op_seasons hN a1 hc hm hi) h hI
  · exact fun h hI a1 a2 a3 => two (FO := fun h => f_Owe_years N h a1 _) (FM := fun h => f_Mod_years N h a1 _) (fun hc hm hi => op_years hN a1 _ hc hm hi) h hI
  · exact fun h ⟨s, u, _, _, _, _, _, _, _, href⟩ a1 => pp_status href N a1
  · exact fun h hI => two (FO := fun h => f_Owe_undo N h) (FM := fun h => f_Mod_undo N h) (fun hc hm hi => op_undo (by omega) hc hm hi) h hI
  · exact fun h ⟨s, u, hp, _, hnow, _⟩ a1 a2 => pp_log hnow a1 a2
  · exact fun h hI a1 a2 a3 => two (FO := fun h => f_Owe_least N h a1 a2 a3) (FM := fun h => f_Mod_least N h a1 a2 a3) (fun hc hm hi => op_least h3 a1 a2 a3 hc hm hi) h hI
  · exact fun h hI a1 a2 a3 => two (FO := fun h => f_Owe_way N h a1 a2 a3) (FM := fun h => f_Mod_way N h a1 a2 a3) (fun hc hm hi => op_way h3 a1 a2 a3 hc hm hi) h hI
  · exact fun h hI a1 => two (FO := fun h => f_Owe_worth N h a1) (FM := fun h => f_Mod_worth N h a1) (fun hc hm hi => op_worth h3 a1 hc hm hi) h hI
  · exact fun h hI => two (FO := fun h => f_Owe_buys N h) (FM := fun h => f_Mod_buys N h) (fun hc hm hi => op_buys h3 hc hm hi) h hI
  · exact fun h hI a1 a2 a3 a4 a5 a6 => two (FO := fun h => f_Owe_game N h a1 a2 a3 a4 a5 a6) (FM := fun h => f_Mod_game N h a1 a2 a3 a4 a5 a6) (fun hc hm hi => op_game h3 a1 a2 a3 a4 a5 a6 hc hm hi) h hI
  · exact fun h hI a1 a2 a3 a4 => two (FO := fun h => f_Owe_rests N h a1 a2 a3 a4) (FM := fun h => f_Mod_rests N h a1 a2 a3 a4) (fun hc hm hi => op_rests h3 a1 a2 a3 a4 hc hm hi) h hI
  · exact fun h hI a1 => two (FO := fun h => f_Owe_road N h a1) (FM := fun h => f_Mod_road N h a1) (fun hc hm hi => op_road h3 a1 hc hm hi) h hI
  · exact fun h hI a1 a2 => two (FO := fun h => f_Owe_shares N h a1 a2) (FM := fun h => f_Mod_shares N h a1 a2) (fun hc hm hi => op_shares h3 a1 a2 hc hm hi) h hI
  · exact fun h hI a1 a2 => two (FO := fun h => f_Owe_seen N h a1 (if a2 = 0 then 0 else 1)) (FM := fun h => f_Mod_seen N h a1 (if a2 = 0 then 0 else 1)) (fun hc hm hi => op_seen a1 (if a2 = 0 then 0 else 1) hc hm hi) h hI
  · exact fun h ⟨s, u, hp, ⟨n, hsee⟩, _⟩ a1 a2 => pp_feigned hp hsee h1 a1 a2
  · exact fun h ⟨s, u, hp, ⟨n, hsee⟩, _⟩ a1 => pp_honest hp hsee h1 a1
  · exact fun h ⟨s, u, hp, ⟨n, hsee⟩, _⟩ a1 => pp_best hp hsee h1 a1
  · exact fun h hI a1 a2 => two (FO := fun h => f_Owe_whose N h a1 a2) (FM := fun h => f_Mod_whose N h a1 a2) (fun hc hm hi => op_whose h3 a1 a2 hc hm hi) h hI
  · exact fun h hI a1 => op_fails h3 h hI a1
  · exact fun h hI a1 a2 a3 => two (FO := fun h => f_Owe_odds N h a1 a2 a3) (FM := fun h => f_Mod_odds N h a1 a2 a3) (fun hc hm hi => op_odds h3 a1 a2 a3 hc hm hi) h hI
  · exact fun h hI a1 a2 => two (FO := fun h => f_Owe_toll N h a1 a2) (FM := fun h => f_Mod_toll N h a1 a2) (fun hc hm hi => op_toll h3 a1 a2 hc hm hi) h hI
  · exact fun h ⟨s, u, hp, _, hnow, _⟩ => pp_worst hp hnow.1 h1
  · exact fun h ⟨s, u, hp, _⟩ => pp_ends hp h1
  · exact fun h ⟨s, u, hp, _⟩ => pp_cut hp h1
  · exact fun h ⟨s, u, hp, _⟩ a1 => pp_neighbours hp h1 a1
  · exact fun h hI => two (FO := fun h => f_Owe_image N h) (FM := fun h => f_Mod_image N h) (fun hc hm hi => op_image (by omega) hc hm hi) h hI
  · exact fun h hI => two (FO := fun h => f_Owe_back N h) (FM := fun h => f_Mod_back N h) (fun hc hm hi => op_back (by omega) hc hm hi) h hI
  · intro h hI a1
    obtain ⟨s, u, hp, ⟨n, hsee⟩, hnow, _, ⟨p, q, v, x1, x2, x3, x4, x5⟩, ⟨z, y1, y2, y3, y4⟩, ⟨l, w1, w2, w3, w4, w5⟩, _⟩ := hI
    exact pp_count hp hsee hnow (w2.trans w3.symm) w4 (y2.trans y3.symm) (x3.trans x4.symm) h1 a1
end House
