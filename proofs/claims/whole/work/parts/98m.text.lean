/-! fault, text -/
section Text
variable {N : Nat}
theorem par_I {hc hm hc' hm' : mu_H} (hI : Inv (mg hc hm)) (f1 : sc [6, 7, 8] hc hc') (f2 : sM [62, 63, 64] [3, 4, 20, 21] hm hm') : (∀ c, 51 ≤ c → hc'.1 c = hc.1 c) ∧ (∀ c, c < 51 → hm'.1 c = hm.1 c) ∧ Inv (mg hc' hm') := by
  obtain ⟨s, u, hp, ⟨nse, hsee⟩, hnow, himg, hpas, htap, hlaw, href⟩ := hI
  have e := mg_same f1 f2
  exact ⟨(hi_of f1 (by decide)), (lo_of f2 (by decide)), s, u, (Ipar_fr e (by decide) (by decide) hp), ⟨_, Isee_fr e (by decide) (by decide) hsee⟩, (Inow_fr e (by decide) hnow), (Iimg_fr e (by decide) (by decide) himg), (Ipas_fr e (by decide) (by decide) hpas), (Itap_fr e (by decide) (by decide) htap), (Ilaw_fr e (by decide) (by decide) hlaw), (Iref_fr e (by decide) href)⟩
theorem op_fault (hN : 3000 ≤ N) (a1 : Int32) (hc hm : mu_H) (hI : Inv (mg hc hm)) : ∃ r hc' hm', f_Owe_fault N hc a1 = some (r, hc') ∧ f_Mod_fault N hm a1 = some (r, hm') ∧ (∀ c, 51 ≤ c → hc'.1 c = hc.1 c) ∧ (∀ c, c < 51 → hm'.1 c = hm.1 c) ∧ Inv (mg hc' hm') := by
  have hI0 := hI
  obtain ⟨s, u, hp, ⟨nse, hsee⟩, hnow, himg, hpas, htap, hlaw, href⟩ := hI
  obtain ⟨z, T, hTc, hTm⟩ := T_of htap
  rw [f_Owe_fault, f_Mod_fault]
  by_cases c0 : a1 = 0
  · rw [if_pos c0, if_pos c0]
    rcases parish_2 (N := N) hTc hTm hN with ⟨e, hc', hm', b1, b2, b3, b4, b5⟩ | ⟨a, b, hc', hm', b1, b2, b3, b4, b5, b6, b7, b8, b9, b10, b11, b12⟩
    · exact ⟨nI e, hc', hm', by rw [b2, bi_some], by rw [b3, bi_some], par_I hI0 b4 b5⟩
    · exact ⟨-1, hc', hm', by rw [b3, bi_some], by rw [b4, bi_some], par_I hI0 b5 b6⟩
  · rw [if_neg c0, if_neg c0]
    by_cases c1 : a1 = 1
    · rw [if_pos c1, if_pos c1]
      obtain ⟨r, hc', hm', b1, b2, b3⟩ := op_flaw hN hc hm hI0
      exact ⟨r, hc', hm', by rw [b1, bi_some], by rw [b2, bi_some], b3⟩
    · rw [if_neg c1, if_neg c1]
      exact ⟨-2, hc, hm, rfl, rfl, fun _ _ => rfl, fun _ _ => rfl, hI0⟩
theorem op_tpar (hN : 3000 ≤ N) (hc hm : mu_H) (hI : Inv (mg hc hm)) : ∃ r hc' hm', f_Owe_text N hc 0 = some (r, hc') ∧ f_Mod_text N hm 0 = some (r, hm') ∧ (∀ c, 51 ≤ c → hc'.1 c = hc.1 c) ∧ (∀ c, c < 51 → hm'.1 c = hm.1 c) ∧ Inv (mg hc' hm') := by
  have hI0 := hI
  obtain ⟨s, u, hp, ⟨nse, hsee⟩, hnow, himg, hpas, htap, hlaw, href⟩ := hI
  obtain ⟨z, T, hTc, hTm⟩ := T_of htap
  have h01 : ((0 : Int32) = 1) = False := by decide
  have eX : f_Owe_text N hc 0 = bi (f_PRd_firstWrong N hc) fun x13 h14 => if x13 = -1 then (f_Owe_settle N h14).bind fun h16 => (f_Par_stretches N h16 3).bind fun x17 => some (x17, h16) else some (-1, h14) := by
    simp only [f_Owe_text, jn_eq, h01, ↓reduceIte]
  have eY : f_Mod_text N hm 0 = bi (f_Mod_readParish N hm) fun x8 h9 => if x8 = -1 then bn (ui h9 51 2 0) fun h11 => bi (f_Mod_takeParish N h11) fun x12 h13 => some (x12, h13) else some (-1, h9) := by
    simp only [f_Mod_text, jn_eq, h01, ↓reduceIte]
  rw [eX, eY]
  rcases parish_2 (N := N) hTc hTm hN with ⟨e, hc', hm', b1, b2, b3, b4, b5⟩ | ⟨a, b, hc', hm', b1, b2, b3, b4, b5, b6, b7, b8, b9, b10, b11, b12⟩
  · have ne : ¬ nI e = -1 := fun q => by rw [neg1 (by omega)] at q; exact q
    refine ⟨-1, hc', hm', ?_, ?_, par_I hI0 b4 b5⟩
    · rw [b2, bi_some, if_neg ne]
    · rw [b3, bi_some, if_neg ne]
  · rw [b3, bi_some, if_pos rfl, b4, bi_some, if_pos rfl]
    obtain ⟨w1, w2, w3⟩ := b12
    obtain ⟨d0, d1, d2⟩ := b11
    -- the rows
    have row : ∀ r, r < a → ∀ k, k < 5 → hm'.1 63 (5 * r + k) = hc'.1 8 (5 * (1 + r) + k) ∧ bN (hc'.1 8 (5 * (1 + r) + k)) (hiL 1 k) := fun r hr k hk => by
      obtain ⟨v, v1, v2, v3, v4⟩ := d1 r hr k hk
      exact ⟨by rw [v4, v3], v, v2, v3⟩
    have rowh : ∀ r, r < b → ∀ k, k < 3 → hm'.1 64 (3 * r + k) = hc'.1 8 (5 * (10 + r) + k) ∧ bN (hc'.1 8 (5 * (10 + r) + k)) (hiL 2 k) := fun r hr k hk => by
      obtain ⟨v, v1, v2, v3, v4⟩ := d2 r hr k hk
      exact ⟨by rw [v4, v3], v, v2, v3⟩
    have rule : ∀ k, k < 3 → hm'.1 62 k = hc'.1 8 k ∧ ∃ v, loL 0 k ≤ v ∧ v ≤ 9 ∧ hc'.1 8 k = nI v := fun k hk => by
      obtain ⟨v, v1, v2, v3, v4⟩ := d0 k hk
      rw [Nat.mul_zero, Nat.zero_add] at v3
      rw [Nat.zero_add] at v4
      have h9 : hiL 0 k ≤ 9 := by
        rcases (show k = 0 ∨ k = 1 ∨ k = 2 by omega) with rfl | rfl | rfl <;> decide
      exact ⟨by rw [v4, v3], v, v1, by omega, v3⟩
    obtain ⟨ea, xa⟩ : ∃ ea : Nat → Nat, ea = fun r => tn (hc'.1 8 (5 * (1 + r) + 0)) := ⟨_, rfl⟩
    obtain ⟨eb, xb⟩ : ∃ eb : Nat → Nat, eb = fun r => tn (hc'.1 8 (5 * (1 + r) + 1)) := ⟨_, rfl⟩
    have ab : ∀ r, r < a → ea r < 8 ∧ eb r < 8 ∧ ¬ ea r = eb r ∧ hc'.1 8 (5 * (1 + r) + 0) = nI (ea r) ∧ hc'.1 8 (5 * (1 + r) + 1) = nI (eb r) := fun r hr => by
      obtain ⟨-, v, v1, v2⟩ := row r hr 0 (by decide)
      obtain ⟨-, y, y1, y2⟩ := row r hr 1 (by decide)
      have v1 : v ≤ 7 := v1
      have y1 : y ≤ 7 := y1
      have e1 : ea r = v := by rw [xa]; show tn (hc'.1 8 (5 * (1 + r) + 0)) = v; rw [v2]; exact tn_n (by omega)
      have e2 : eb r = y := by rw [xb]; show tn (hc'.1 8 (5 * (1 + r) + 1)) = y; rw [y2]; exact tn_n (by omega)
      have nn := w3 r hr
      rw [lpE, v2, y2] at nn
      exact ⟨by omega, by omega, fun q => nn (by rw [← e1, ← e2, q]), by rw [e1]; exact v2, by rw [e2]; exact y2⟩
    have hG : Gr a ea eb := ⟨b1, fun r hr => ⟨(ab r hr).1, (ab r hr).2.1, (ab r hr).2.2.1⟩⟩
    -- the class
    have hT' := Tc_fr b5 (by decide) (by decide) hTc
    obtain ⟨h2, x2⟩ : ∃ h2, h2 = ui hc' 1 1 0 := ⟨_, rfl⟩
    have s1 : f_Tap_shorten N hc' 0 = some (1, h2) := by
      have : (0 : Int32) ≤ hc'.1 1 1 := by rw [hT'.2.1]; exact nI_pos' (by have := hT'.1; omega)
      rw [f_Tap_shorten, if_neg (by decide), if_pos this, bn_eq, x2]
    have y8 : h2.1 8 = hc'.1 8 := by rw [x2, ui_n (by decide)]
    obtain ⟨h4, t1, t2, t3, t4, t5, t6⟩ := takep_c (N := N) (h := h2) (b := b) hN hG (by rw [x2, ui_n (by decide)]; exact b7) (by rw [x2, ui_n (by decide)]; exact b8) (fun r hr => by rw [y8]; exact ⟨(ab r hr).2.2.2.1, (ab r hr).2.2.2.2⟩)
    obtain ⟨h5, g1, g2, g3⟩ := begin_c (N := N) (h := h4) hN b1 b2 t3 t4
    obtain ⟨hcF, xc⟩ : ∃ hcF, hcF = ui (ui (ui h5 20 1 0) 39 3 0) 0 6 0 := ⟨_, rfl⟩
    have sX : f_Owe_settle N hc' = some hcF := by
      rw [f_Owe_settle, s1, bi_some, t1, bd_some, g1, bd_some, f_Pas_forget, bn_eq, bd_some, f_Sig_forget, bn_eq, bd_some, bn_eq, ← xc]
    have cF : ∀ c, c ≠ 0 → c ≠ 20 → c ≠ 39 → hcF.1 c = h5.1 c := fun c n1 n2 n3 => by rw [xc, ui_n n1, ui_n n3, ui_n n2]
    have fC : sc [0, 1, 3, 4, 5, 6, 7, 8, 15, 20, 39] hc hcF := by
      rw [xc]
      refine sc_trans (sc_trans (sc_trans ?_ (sc_ui (by decide))) (sc_ui (by decide))) (sc_ui (by decide))
      refine sc_trans (sc_trans (sc_trans (sc_mono b5 (by decide)) ?_) (sc_mono t2 (by decide))) (sc_mono g2 (by decide))
      rw [x2]; exact sc_ui (by decide)
    have c4 : ∀ c, c < 80 → hcF.1 4 c = hc'.1 8 c := fun c hc => by
      rw [cF 4 (by decide) (by decide) (by decide), g2 4 (by decide), t5 c hc, y8]
    have c32 : hcF.1 3 2 = nI a := by rw [cF 3 (by decide) (by decide) (by decide), g2 3 (by decide)]; exact t3
    have c33 : hcF.1 3 3 = nI b := by rw [cF 3 (by decide) (by decide) (by decide), g2 3 (by decide)]; exact t4
    have c5 : ∀ c, c < 64 → hcF.1 5 c = nI (DF ea eb a c) := fun c hc => by
      rw [cF 5 (by decide) (by decide) (by decide), g2 5 (by decide)]; exact t6 c hc
    have c15 : hcF.1 15 = sF a b (fun r => h4.1 4 (5 * (1 + r) + 2)) (fun r => h4.1 4 (5 * (1 + r) + 3)) (h4.1 4 0) (fun c => if c < 34 then 0 else h4.1 15 c) := by
      rw [cF 15 (by decide) (by decide) (by decide)]; exact g3
    have h44 : ∀ c, c < 80 → h4.1 4 c = hc'.1 8 c := fun c hc => by rw [t5 c hc, y8]
    -- the model
    obtain ⟨m2, z2⟩ : ∃ m2, m2 = ui hm' 51 2 0 := ⟨_, rfl⟩
    have m63 : m2.1 63 = hm'.1 63 := by rw [z2, ui_n (by decide)]
    have m62 : m2.1 62 = hm'.1 62 := by rw [z2, ui_n (by decide)]
    have m64 : m2.1 64 = hm'.1 64 := by rw [z2, ui_n (by decide)]
    obtain ⟨hmF, k1, k2, k3, k4, k5, k6, k7, k8, k9, k10, k11, k12⟩ := takep_m (N := N) (h := m2) (b := b) hN hG b2 (by rw [z2, u5_n (by decide)]; exact b9) (by rw [z2, u5_n (by decide)]; exact b10) (fun r hr => by
      rw [m63, (row r hr 0 (by decide)).1, (row r hr 1 (by decide)).1]
      exact ⟨(ab r hr).2.2.2.1, (ab r hr).2.2.2.2⟩)
    have fM : sM [62, 63, 64, 65, 66, 67, 68, 70] [2, 3, 4, 20, 21, 25, 26, 32, 40, 45] hm hmF := by
      refine sM_trans (sM_trans (sM_mono b6 (by decide) (by decide)) ?_) (sM_mono k2 (by decide) (by decide))
      rw [z2]; exact sM_u5 (by decide)
    refine ⟨nI a, hcF, hmF, ?_, ?_, (hi_of fC (by decide)), (lo_of fM (by decide)), a, b, ?_⟩
    · rw [sX, bd_some, f_Par_stretches, c32, bd_some]
    · rw [bn_eq, ← z2, k1, bi_some]
    have e := mg_same fC fM
    have sv : ∀ c, c ≤ 33 → hcF.1 15 c = if 18 ≤ c ∧ c < 18 + b then hc'.1 8 0 else if c < a then hc'.1 8 (5 * (1 + c) + 2) else if 9 ≤ c ∧ c < 9 + a then hc'.1 8 (5 * (1 + (c - 9)) + 3) else 0 := fun c hc => by
      rw [c15, sF, oF]
      by_cases q : 18 ≤ c ∧ c < 18 + b
      · rw [if_pos q, if_pos q]; exact h44 0 (by decide)
      · rw [if_neg q, if_neg q, wF]
        by_cases q2 : c < a
        · rw [if_pos q2, if_pos q2]; exact h44 _ (by omega)
        · rw [if_neg q2, if_neg q2]
          by_cases q3 : 9 ≤ c ∧ c < 9 + a
          · rw [if_pos q3, if_pos q3]; exact h44 _ (by omega)
          · rw [if_neg q3, if_neg q3, if_pos (show c < 34 by omega)]
    have mv : ∀ c, c ≤ 33 → hmF.1 68 c = if 18 ≤ c ∧ c < 18 + b then hc'.1 8 0 else if c < a then hc'.1 8 (5 * (1 + c) + 2) else if 9 ≤ c ∧ c < 9 + a then hc'.1 8 (5 * (1 + (c - 9)) + 3) else 0 := fun c hc => by
      rw [k11, sF, oF]
      by_cases q : 18 ≤ c ∧ c < 18 + b
      · rw [if_pos q, if_pos q, m62]; exact (rule 0 (by decide)).1
      · rw [if_neg q, if_neg q, wF]
        by_cases q2 : c < a
        · rw [if_pos q2, if_pos q2, m63]; exact (row c q2 2 (by decide)).1
        · rw [if_neg q2, if_neg q2]
          by_cases q3 : 9 ≤ c ∧ c < 9 + a
          · rw [if_pos q3, if_pos q3, m63]; exact (row (c - 9) (by omega) 3 (by decide)).1
          · rw [if_neg q3, if_neg q3, if_pos (show c < 214 by omega)]
    have b0 : ∀ n, bN (0 : Int32) n := fun n => ⟨0, Nat.zero_le n, rfl⟩
    have z15 : ∀ c, 30 ≤ c → c ≤ 33 → hcF.1 15 c = 0 := fun c h1 h2 => by
      rw [sv c h2, if_neg (by omega), if_neg (by omega), if_neg (by omega)]
    have z68 : ∀ c, 30 ≤ c → c ≤ 33 → hmF.1 68 c = 0 := fun c h1 h2 => by
      rw [mv c h2, if_neg (by omega), if_neg (by omega), if_neg (by omega)]
    have hpar : Ipar (mg hcF hmF) a b := by
      refine ⟨b1, b2, by omega, c32, c33, k3, k4, fun _ => ⟨fun k hk => ?_, ?_⟩, fun r hr => ?_, fun r hr => ?_, fun _ c hc => ?_⟩
      · show hmF.1 65 k = hcF.1 4 k ∧ bN (hcF.1 4 k) 9
        obtain ⟨q1, v, -, q3, q4⟩ := rule k hk
        rw [k8 k hk, m62, c4 k (by omega), q1]
        exact ⟨rfl, v, q3, q4⟩
      · show ¬ hcF.1 4 0 = 0
        obtain ⟨q1, v, q2, q3, q4⟩ := rule 0 (by decide)
        have q2 : 1 ≤ v := q2
        rw [c4 0 (by decide), q4]
        exact nI_ne0 (by omega) (by omega)
      · show (∀ k, k < 5 → hmF.1 66 (5 * r + k) = hcF.1 4 (5 * (1 + r) + k)) ∧ bN (hcF.1 4 (5 * (1 + r) + 0)) 7 ∧ bN (hcF.1 4 (5 * (1 + r) + 1)) 7 ∧ ¬ hcF.1 4 (5 * (1 + r) + 0) = hcF.1 4 (5 * (1 + r) + 1) ∧ bN (hcF.1 4 (5 * (1 + r) + 4)) 9
        rw [c4 _ (by omega), c4 _ (by omega), c4 _ (by omega)]
        exact ⟨fun k hk => by rw [k9 _ (by omega), m63, c4 _ (by omega)]; exact (row r hr k hk).1, (row r hr 0 (by decide)).2, (row r hr 1 (by decide)).2, w3 r hr, (row r hr 4 (by decide)).2⟩
      · show (∀ k, k < 3 → hmF.1 67 (3 * r + k) = hcF.1 4 (5 * (10 + r) + k)) ∧ bN (hcF.1 4 (5 * (10 + r) + 0)) 7 ∧ bN (hcF.1 4 (5 * (10 + r) + 1)) 9 ∧ bN (hcF.1 4 (5 * (10 + r) + 2)) 9
        rw [c4 _ (by omega), c4 _ (by omega), c4 _ (by omega)]
        exact ⟨fun k hk => by rw [k10 _ (by omega), m64, c4 _ (by omega)]; exact (rowh r hr k hk).1, (rowh r hr 0 (by decide)).2, (rowh r hr 1 (by decide)).2, (rowh r hr 2 (by decide)).2⟩
      · show (∃ d, d < 8 ∧ hcF.1 5 c = nI d ∧ hmF.1 70 c = nI d) ∨ (hcF.1 5 c = nI 1000 ∧ hmF.1 70 c = nI 1000000)
        rw [c5 c hc, k12 c hc]
        rcases DF_8 hG c hc with q | q
        · exact Or.inl ⟨_, q, rfl, by rw [md_n (by omega)]⟩
        · rw [q, md_f]; exact Or.inr ⟨rfl, rfl⟩
    have hnow' : Ist a b (hcF.1 15) (hcF.1 16) (hmF.1 68) := by
      refine ⟨fun k hk => by rw [sv k (by omega), mv k (by omega)], by rw [z15 32 (by decide) (by decide), z68 31 (by decide) (by decide)], by rw [z15 31 (by decide) (by decide), z68 32 (by decide) (by decide)], ⟨0, by decide, z15 31 (by decide) (by decide), z15 33 (by decide) (by decide), z68 33 (by decide) (by decide), fun i hi => absurd hi (by rw [Nat.zero_min]; omega)⟩, fun r hr => ⟨?_, ?_, fun q => ?_⟩, fun r hr => ⟨?_, ?_, fun q => ⟨?_, ?_⟩⟩⟩
      · rw [sv r (by omega), if_neg (by omega)]
        by_cases q : r < a
        · rw [if_pos q]; exact (row r q 2 (by decide)).2
        · rw [if_neg q, if_neg (by omega)]; exact b0 99
      · rw [sv (9 + r) (by omega), if_neg (by omega), if_neg (by omega)]
        by_cases q : 9 ≤ 9 + r ∧ 9 + r < 9 + a
        · rw [if_pos q]
          have := (row (9 + r - 9) (by omega) 3 (by decide)).2
          exact this
        · rw [if_neg q]; exact b0 9
      · rw [sv r (by omega), if_neg (by omega), if_neg (by omega), if_neg (by omega)]
      · rw [sv (18 + r) (by omega)]
        by_cases q : 18 ≤ 18 + r ∧ 18 + r < 18 + b
        · rw [if_pos q]
          obtain ⟨-, v, -, q3, q4⟩ := rule 0 (by decide)
          exact ⟨v, q3, q4⟩
        · rw [if_neg q, if_neg (by omega), if_neg (by omega)]; exact b0 9
      · rw [sv (24 + r) (by omega), if_neg (by omega), if_neg (by omega), if_neg (by omega)]; exact b0 999
      · rw [sv (18 + r) (by omega), if_neg (by omega), if_neg (by omega), if_neg (by omega)]
      · rw [sv (24 + r) (by omega), if_neg (by omega), if_neg (by omega), if_neg (by omega)]
    refine ⟨hpar, ⟨0, by decide, ?_, ?_, fun i hi => by omega⟩, hnow', ⟨?_, Or.inl ?_⟩, ?_, ?_, (Ilaw_fr e (by decide) (by decide) hlaw), (Iref_fr e (by decide) href)⟩
    · show hcF.1 39 3 = nI 0
      rw [xc, ui_n (by decide), ui_s, upd_s]; rfl
    · show hmF.1 51 40 = nI 0
      exact k6
    · show hcF.1 0 6 = hmF.1 51 45
      rw [xc, ui_s, upd_s, k7]
    · show hcF.1 0 6 = 0
      rw [xc, ui_s, upd_s]
    · obtain ⟨p0, q0, v0, i1, i2, i3, i4, i5, i6, i7, i8⟩ := hpas
      have i5 : hc.1 20 2 = nI q0 := i5
      refine ⟨0, q0, fun _ => 0, by decide, i2, ?_, ?_, ?_, ?_, by decide, fun e he => by omega⟩
      · show hcF.1 20 1 = nI 0
        rw [xc, ui_n (by decide), ui_n (by decide), ui_s, upd_s]; rfl
      · show hmF.1 51 32 = nI 0
        exact k5
      · show hcF.1 20 2 = nI q0
        rw [xc, ui_n (by decide), ui_n (by decide), ui_s, upd_n (by decide), g2 20 (by decide), t2 20 (by decide), x2, ui_n (by decide), b5 20 (by decide)]
        exact i5
      · show hcF.1 15 33 = nI 0
        exact z15 33 (by decide) (by decide)
    · refine ⟨0, by decide, ?_, ?_, fun i hi => by omega⟩
      · show hcF.1 1 1 = nI 0
        rw [cF 1 (by decide) (by decide) (by decide), g2 1 (by decide), t2 1 (by decide), x2, ui_s, upd_s]; rfl
      · show hmF.1 51 2 = nI 0
        rw [k2.2 2 (by decide), z2, u5_s]; rfl
theorem op_text (hN : 3000 ≤ N) (a1 : Int32) (hc hm : mu_H) (hI : Inv (mg hc hm)) : ∃ r hc' hm', f_Owe_text N hc a1 = some (r, hc') ∧ f_Mod_text N hm a1 = some (r, hm') ∧ (∀ c, 51 ≤ c → hc'.1 c = hc.1 c) ∧ (∀ c, c < 51 → hm'.1 c = hm.1 c) ∧ Inv (mg hc' hm') := by
  by_cases c0 : a1 = 0
  · subst c0; exact op_tpar hN hc hm hI
  · by_cases c1 : a1 = 1
    · subst c1; exact op_tlaw hN hc hm hI
    · refine ⟨-1, hc, hm, ?_, ?_, fun _ _ => rfl, fun _ _ => rfl, hI⟩
      · simp only [f_Owe_text, jn_eq, eq_false c0, eq_false c1, ↓reduceIte]
      · simp only [f_Mod_text, jn_eq, eq_false c0, eq_false c1, ↓reduceIte]
end Text
