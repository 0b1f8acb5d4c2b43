/-! the parish read by both: the clauses -/
section Preads
variable {N z : Nat} {T : Nat → Nat} {hc0 hm0 : mu_H}
theorem RD_0 {hc hm hc' hm' : mu_H} {a b : Nat} (hD : RD hc hm a b) (h1 : Rw 0 (hc'.1 8) 0 (hm'.1 62) 0) (h2 : FI 0 0 62 hc hm hc' hm') : RD hc' hm' a b := by
  obtain ⟨d1, d2, d3⟩ := hD
  obtain ⟨f1, f2, f3⟩ := h2
  refine ⟨h1, fun r hr => Rw_cg (d2 r hr) (fun k hk => ⟨f1 _ (by omega), by rw [f2 63 (by decide) (by decide)]⟩), fun r hr => Rw_cg (d3 r hr) (fun k hk => ⟨f1 _ (by omega), by rw [f2 64 (by decide) (by decide)]⟩)⟩
theorem RD_1 {hc hm hc' hm' : mu_H} {a b : Nat} (ha : a < 9) (hD : RD hc hm a b) (h1 : Rw 1 (hc'.1 8) (1 + a) (hm'.1 63) (5 * a)) (h2 : FI (1 + a) (5 * a) 63 hc hm hc' hm') : RD hc' hm' (a + 1) b := by
  obtain ⟨d1, d2, d3⟩ := hD
  obtain ⟨f1, f2, f3⟩ := h2
  refine ⟨Rw_cg d1 (fun k hk => ⟨f1 _ (by have := nk5 (t := 0); omega), by rw [f2 62 (by decide) (by decide)]⟩), fun r hr => ?_, fun r hr => Rw_cg (d3 r hr) (fun k hk => ⟨f1 _ (by omega), by rw [f2 64 (by decide) (by decide)]⟩)⟩
  by_cases c : r = a
  · rw [c]; exact h1
  · exact Rw_cg (d2 r (by omega)) (fun k hk => by
      have : k < 5 := hk
      exact ⟨f1 _ (by omega), f3 _ (by omega)⟩)
theorem RD_2 {hc hm hc' hm' : mu_H} {a b : Nat} (ha : a ≤ 9) (hD : RD hc hm a b) (h1 : Rw 2 (hc'.1 8) (10 + b) (hm'.1 64) (3 * b)) (h2 : FI (10 + b) (3 * b) 64 hc hm hc' hm') : RD hc' hm' a (b + 1) := by
  obtain ⟨d1, d2, d3⟩ := hD
  obtain ⟨f1, f2, f3⟩ := h2
  refine ⟨Rw_cg d1 (fun k hk => ⟨f1 _ (by have := nk5 (t := 0); omega), by rw [f2 62 (by decide) (by decide)]⟩), fun r hr => Rw_cg (d2 r hr) (fun k hk => ⟨f1 _ (by have := nk5 (t := 1); omega), by rw [f2 63 (by decide) (by decide)]⟩), fun r hr => ?_⟩
  by_cases c : r = b
  · rw [c]; exact h1
  · exact Rw_cg (d3 r (by omega)) (fun k hk => by
      have : k < 3 := hk
      exact ⟨f1 _ (by omega), f3 _ (by omega)⟩)
theorem pread_L (hTc : Tc hc0 z T) (hTm : Tm hm0 z T) (hN : 3000 ≤ N) : ∀ f p x rl a b hc hm g g', z - p = f → f < g → f + 2 < g' → PC hc0 hc p rl a b → PM hm0 hm p a b → RD hc hm a b → p ≤ z → x ≤ p → rl ≤ 1 → a ≤ 9 → b ≤ 6 → Rpr hc0 hm0 (lp (f_PRd_firstWrong_L25 N kP (k7C N) (k7C N)) g (nI x, hc)) (lp (f_Mod_readParish_L49 N (k7M N)) g' (nI rl, 1, hm)) := by
  have hz := hTc.1
  intro f
  induction f using Nat.strongRecOn with
  | _ f ih =>
    intro p x rl a b hc hm g g' hf hg hg' hC hM hD hp hx hrl ha hb
    obtain ⟨g, rfl⟩ : ∃ q, g = q + 1 := ⟨g - 1, by omega⟩
    obtain ⟨g', rfl⟩ : ∃ q, g' = q + 1 := ⟨g' - 1, by omega⟩
    obtain ⟨b1, b2, b3⟩ := nb_p (T := T) hp
    have hl := look_m (PM_T hM hTm) hN hM.2.1 hp
    have hs := sg_lt hTm (nb T z p)
    rw [fw_L (by omega), rc_c hTc hN hC hp, lp_1, L49_1 hM.2.2.1 hl]
    have C1 := PC_at (q := nb T z p) hC
    have M1 := PM_at (q := nb T z p) hM
    generalize nb T z p = q at *
    have n1 : (nI (sg T z q) = 115) = (sg T z q = 115) := nI_eq_i (b := 115) (by omega) (by decide)
    have n2 : (nI (sg T z q) = 114) = (sg T z q = 114) := nI_eq_i (b := 114) (by omega) (by decide)
    have n3 : (nI (sg T z q) = 104) = (sg T z q = 104) := nI_eq_i (b := 104) (by omega) (by decide)
    have p1 : (mJ (sg T z q) = 115) = (sg T z q = 115) := mJ_eq (k := 115) hs (by decide) (by decide)
    have p2 : (mJ (sg T z q) = 114) = (sg T z q = 114) := mJ_eq (k := 114) hs (by decide) (by decide)
    have p3 : (mJ (sg T z q) = 104) = (sg T z q = 104) := mJ_eq (k := 104) hs (by decide) (by decide)
    have hD1 : RD (ui hc 6 3 (nI (q + 1))) (ui hm 51 3 (nI (q + 1))) a b := RD_cg hD (fun c hc => by rw [ui_n hc]) (by rw [ui_n (by decide)])
    have C2 := PC_at (q := q + 1) hC
    have M2 := PM_at (q := q + 1) hM
    have ein : ui (ui hm 51 3 (nI q)) 51 3 ((ui hm 51 3 (nI q)).1 51 3 + 1) = ui hm 51 3 (nI (q + 1)) := by
      rw [M1.2.1, nI_1, ui_ui]
    rw [ein, M1.2.2.2.1, M1.2.2.2.2, M2.2.2.2.1, M2.2.2.2.2]
    have bad : Rpr hc0 hm0 (bi (some (0, ui hc 6 3 (nI q))) fun x21 h22 => if x21 = 0 then kP h22 else (f_Tap_size N h22).bind fun x24 => if h22.1 6 3 < x24 then bn (ui h22 6 3 ((h22.1 6 3) + 1)) fun h25 => lp (f_PRd_firstWrong_L25 N kP (k7C N) (k7C N)) g (nI x + 1, h25) else k7C N h22) ((f_Mod_bad N (ui hm 51 3 (nI q))).bind fun h41 => D24 N (lp (f_Mod_readParish_L49 N (k7M N)) g') (nI rl) h41) := by
      obtain ⟨h', e1, E1⟩ := PM_bad (N := N) M1
      obtain ⟨h'', e2, E2⟩ := D24_e (N := N) (x := nI rl) (g := g') E1 (by omega) (by omega)
      refine Or.inl ⟨q, _, h'', by omega, ?_, ?_, C1.1, E2.1⟩
      · rw [bi_some, if_pos rfl, kP, C1.2.1]
      · rw [e1, bd_some, e2]
    have IH : ∀ rl' a' b', rl' ≤ 1 → a' ≤ 9 → b' ≤ 6 → q + 1 ≤ z → ∀ q' hc' hm', q + 1 + 1 ≤ q' → q' ≤ z → PC hc0 hc' q' rl' a' b' → PM hm0 hm' q' a' b' → RD hc' hm' a' b' → Rpr hc0 hm0 (lp (f_PRd_firstWrong_L25 N kP (k7C N) (k7C N)) g (nI (x + 1), hc')) (lp (f_Mod_readParish_L49 N (k7M N)) g' (nI rl', 1, hm')) := fun rl' a' b' r1 r2 r3 r4 q' hc' hm' q1 q2 c1 m1 d1 => ih (z - q') (by omega) q' (x + 1) rl' a' b' hc' hm' g g' rfl (by omega) (by omega) c1 m1 d1 q2 (by omega) r1 r2 r3
    by_cases k1 : sg T z q = 115
    · have hin := sg_in (T := T) (z := z) (p := q) (by omega)
      rw [eq_true k1] at n1 p1
      have so : f_PRd_sortOf N (ui hc 6 3 (nI q)) (nI (sg T z q)) = some 0 := by
        simp only [f_PRd_sortOf, n1, ↓reduceIte]
      rw [so, bd_some, if_neg (show ¬ (0 : Int32) = -1 by decide)]
      by_cases r0 : rl = 0
      · subst r0
        have ro : f_PRd_hasRoomFor N (ui hc 6 3 (nI q)) 0 = some 1 := by
          rw [f_PRd_hasRoomFor, if_pos rfl, C1.2.2.1, if_pos (show nI 0 = (0 : Int32) from rfl)]
        rw [ro, bd_some, if_neg (show ¬ (1 : Int32) = 0 by decide), f_PRd_addRow, if_pos rfl, bn_eq, bi_some, if_pos (show mJ (sg T z q) = (115 : Int32) ∧ nI 0 = (0 : Int32) from ⟨by rw [k1]; rfl, rfl⟩), k1]
        have C3 : PC hc0 (ui (ui hc 6 3 (nI (q + 1))) 6 2 1) (q + 1) 1 a b := by
          obtain ⟨h1, h2, h3, h4, h5⟩ := C2
          exact ⟨sc_trans h1 (sc_ui (by decide)), by rw [ui_s, upd_n (by decide)]; exact h2, by rw [ui_s, upd_s]; rfl, by rw [ui_n (by decide)]; exact h4, by rw [ui_n (by decide)]; exact h5⟩
        have hR := items_2 (N := N) (t := 0) (R := 0) (B := 0) (Q := 62) (nQ := 3) hTc hTm hN (by decide) (by decide) (Or.inl rfl) (by decide) (by decide) C3 M2 (by omega)
        exact cont_2 (U := fun h => h) hTc hTm hN hR (by omega) ha hb (by omega) (fun _ _ h => h) (fun _ _ _ => rfl) (fun _ _ h => h) (fun hc' hm' r1 r2 => RD_0 (RD_cg (hc' := ui (ui hc 6 3 (nI (q + 1))) 6 2 1) hD1 (fun _ _ => rfl) (by rw [ui_n (by decide)])) r1 r2) (IH 1 a b (by omega) ha hb (by omega))
      · have r1 : rl = 1 := by omega
        subst r1
        have ro : f_PRd_hasRoomFor N (ui hc 6 3 (nI q)) 0 = some 0 := by
          rw [f_PRd_hasRoomFor, if_pos rfl, C1.2.2.1, if_neg (show ¬ nI 1 = (0 : Int32) by decide)]
        rw [ro, bd_some, if_pos rfl, if_neg (show ¬ (mJ (sg T z q) = (115 : Int32) ∧ nI 1 = (0 : Int32)) from fun w => absurd w.2 (by decide)), if_neg (show ¬ (mJ (sg T z q) = (114 : Int32) ∧ ¬ 9 ≤ nI a) from fun w => by have := w.1; rw [p2] at this; omega), if_neg (show ¬ (mJ (sg T z q) = (104 : Int32) ∧ ¬ 6 ≤ nI b) from fun w => by have := w.1; rw [p3] at this; omega)]
        exact bad
    rw [if_neg (show ¬ (mJ (sg T z q) = (115 : Int32) ∧ nI rl = (0 : Int32)) from fun w => by have := w.1; rw [p1] at this; exact k1 this)]
    rw [eq_false k1] at n1
    by_cases k2 : sg T z q = 114
    · have hin := sg_in (T := T) (z := z) (p := q) (by omega)
      rw [eq_true k2] at n2
      have so : f_PRd_sortOf N (ui hc 6 3 (nI q)) (nI (sg T z q)) = some 1 := by
        simp only [f_PRd_sortOf, n1, n2, ↓reduceIte]
      rw [so, bd_some, if_neg (show ¬ (1 : Int32) = -1 by decide)]
      by_cases r9 : a < 9
      · have n9 : ¬ 9 ≤ nI a := fun w => by have := (nI_leI (a := 9) (by decide) (by omega)).mp w; omega
        have ro : f_PRd_hasRoomFor N (ui hc 6 3 (nI q)) 1 = some 1 := by
          rw [f_PRd_hasRoomFor, if_neg (show ¬ (1 : Int32) = 0 by decide), if_pos rfl, f_Par_stretches, C1.2.2.2.1, bd_some, if_neg n9]
        have ar : f_PRd_addRow N (ui hc 6 3 (nI (q + 1))) 1 = some (nI (1 + a), ui (ui hc 6 3 (nI (q + 1))) 7 2 (nI (a + 1))) := by
          have s1 : 1 + nI (a + 1) - 1 = nI (1 + a) := by
            rw [show (1 : Int32) = nI 1 from rfl, nI_add, sub_n (by omega) (by omega)]; congr 1
          rw [f_PRd_addRow, if_neg (show ¬ (1 : Int32) = 0 by decide), if_pos rfl, f_Par_addStretch, bn_eq, C2.2.2.2.1, nI_1, bi_some, ui_s, upd_s, s1]
        rw [ro, bd_some, if_neg (show ¬ (1 : Int32) = 0 by decide), ar, bi_some, if_pos (show mJ (sg T z q) = (114 : Int32) ∧ ¬ 9 ≤ nI a from ⟨by rw [k2]; rfl, n9⟩), k2]
        have s5 : 5 * nI a = nI (5 * a) := by rw [show (5 : Int32) = nI 5 from rfl, pk_mul]
        rw [s5]
        have C3 : PC hc0 (ui (ui hc 6 3 (nI (q + 1))) 7 2 (nI (a + 1))) (q + 1) rl (a + 1) b := by
          obtain ⟨h1, h2, h3, h4, h5⟩ := C2
          exact ⟨sc_trans h1 (sc_ui (by decide)), by rw [ui_n (by decide)]; exact h2, by rw [ui_n (by decide)]; exact h3, by rw [ui_s, upd_s], by rw [ui_s, upd_n (by decide)]; exact h5⟩
        have hR := items_2 (N := N) (t := 1) (R := 1 + a) (B := 5 * a) (Q := 63) (nQ := 45) hTc hTm hN (by decide) (by omega) (Or.inr (Or.inl rfl)) (by show 5 * a + 5 ≤ 45; omega) (by decide) C3 M2 (by omega)
        exact cont_2 (U := fun h => ui h 51 20 ((h.1 51 20) + 1)) hTc hTm hN hR (by omega) (by omega) hb (by omega) (fun h q' m => by
          obtain ⟨h1, h2, h3, h4, h5⟩ := m
          exact ⟨sM_trans h1 (sM_u5 (by decide)), by rw [u5_n (by decide)]; exact h2, by rw [u5_n (by decide)]; exact h3, by rw [u5_s, h4, nI_1], by rw [u5_n (by decide)]; exact h5⟩) (fun h c hc => by rw [ui_n hc]) (fun h e E => QM_5 (by decide) E) (fun hc' hm' r1 r2 => RD_1 r9 (RD_cg (hc' := ui (ui hc 6 3 (nI (q + 1))) 7 2 (nI (a + 1))) hD1 (fun _ _ => rfl) (by rw [ui_n (by decide)])) r1 r2) (IH rl (a + 1) b hrl (by omega) hb (by omega))
      · have a9 : a = 9 := by omega
        subst a9
        have ro : f_PRd_hasRoomFor N (ui hc 6 3 (nI q)) 1 = some 0 := by
          rw [f_PRd_hasRoomFor, if_neg (show ¬ (1 : Int32) = 0 by decide), if_pos rfl, f_Par_stretches, C1.2.2.2.1, bd_some, if_pos (show (9 : Int32) ≤ nI 9 by decide)]
        rw [ro, bd_some, if_pos rfl, if_neg (show ¬ (mJ (sg T z q) = (114 : Int32) ∧ ¬ 9 ≤ nI 9) from fun w => w.2 (by decide)), if_neg (show ¬ (mJ (sg T z q) = (104 : Int32) ∧ ¬ 6 ≤ nI b) from fun w => by have := w.1; rw [p3] at this; omega)]
        exact bad
    rw [if_neg (show ¬ (mJ (sg T z q) = (114 : Int32) ∧ ¬ 9 ≤ nI a) from fun w => by have := w.1; rw [p2] at this; exact k2 this)]
    rw [eq_false k2] at n2
    by_cases k3 : sg T z q = 104
    · have hin := sg_in (T := T) (z := z) (p := q) (by omega)
      rw [eq_true k3] at n3
      have so : f_PRd_sortOf N (ui hc 6 3 (nI q)) (nI (sg T z q)) = some 2 := by
        simp only [f_PRd_sortOf, n1, n2, n3, ↓reduceIte]
      rw [so, bd_some, if_neg (show ¬ (2 : Int32) = -1 by decide)]
      by_cases r6 : b < 6
      · have n6 : ¬ 6 ≤ nI b := fun w => by have := (nI_leI (a := 6) (by decide) (by omega)).mp w; omega
        have ro : f_PRd_hasRoomFor N (ui hc 6 3 (nI q)) 2 = some 1 := by
          rw [f_PRd_hasRoomFor, if_neg (show ¬ (2 : Int32) = 0 by decide), if_neg (show ¬ (2 : Int32) = 1 by decide), f_Par_houses, C1.2.2.2.2, bd_some, if_neg n6]
        have ar : f_PRd_addRow N (ui hc 6 3 (nI (q + 1))) 2 = some (nI (10 + b), ui (ui hc 6 3 (nI (q + 1))) 7 3 (nI (b + 1))) := by
          have s1 : 10 + nI (b + 1) - 1 = nI (10 + b) := by
            rw [show (10 : Int32) = nI 10 from rfl, nI_add, show (1 : Int32) = nI 1 from rfl, sub_n (by omega) (by omega)]; congr 1
          rw [f_PRd_addRow, if_neg (show ¬ (2 : Int32) = 0 by decide), if_neg (show ¬ (2 : Int32) = 1 by decide), f_Par_addHouse, bn_eq, C2.2.2.2.2, nI_1, bi_some, ui_s, upd_s, s1]
        rw [ro, bd_some, if_neg (show ¬ (1 : Int32) = 0 by decide), ar, bi_some, if_pos (show mJ (sg T z q) = (104 : Int32) ∧ ¬ 6 ≤ nI b from ⟨by rw [k3]; rfl, n6⟩), k3]
        have s5 : 3 * nI b = nI (3 * b) := by rw [show (3 : Int32) = nI 3 from rfl, pk_mul]
        rw [s5]
        have C3 : PC hc0 (ui (ui hc 6 3 (nI (q + 1))) 7 3 (nI (b + 1))) (q + 1) rl a (b + 1) := by
          obtain ⟨h1, h2, h3, h4, h5⟩ := C2
          exact ⟨sc_trans h1 (sc_ui (by decide)), by rw [ui_n (by decide)]; exact h2, by rw [ui_n (by decide)]; exact h3, by rw [ui_s, upd_n (by decide)]; exact h4, by rw [ui_s, upd_s]⟩
        have hR := items_2 (N := N) (t := 2) (R := 10 + b) (B := 3 * b) (Q := 64) (nQ := 18) hTc hTm hN (by decide) (by omega) (Or.inr (Or.inr rfl)) (by show 3 * b + 3 ≤ 18; omega) (by decide) C3 M2 (by omega)
        exact cont_2 (U := fun h => ui h 51 21 ((h.1 51 21) + 1)) hTc hTm hN hR (by omega) ha (by omega) (by omega) (fun h q' m => by
          obtain ⟨h1, h2, h3, h4, h5⟩ := m
          exact ⟨sM_trans h1 (sM_u5 (by decide)), by rw [u5_n (by decide)]; exact h2, by rw [u5_n (by decide)]; exact h3, by rw [u5_n (by decide)]; exact h4, by rw [u5_s, h5, nI_1]⟩) (fun h c hc => by rw [ui_n hc]) (fun h e E => QM_5 (by decide) E) (fun hc' hm' r1 r2 => RD_2 ha (RD_cg (hc' := ui (ui hc 6 3 (nI (q + 1))) 7 3 (nI (b + 1))) hD1 (fun _ _ => rfl) (by rw [ui_n (by decide)])) r1 r2) (IH rl a (b + 1) hrl ha (by omega) (by omega))
      · have b6 : b = 6 := by omega
        subst b6
        have ro : f_PRd_hasRoomFor N (ui hc 6 3 (nI q)) 2 = some 0 := by
          rw [f_PRd_hasRoomFor, if_neg (show ¬ (2 : Int32) = 0 by decide), if_neg (show ¬ (2 : Int32) = 1 by decide), f_Par_houses, C1.2.2.2.2, bd_some, if_pos (show (6 : Int32) ≤ nI 6 by decide)]
        rw [ro, bd_some, if_pos rfl, if_neg (show ¬ (mJ (sg T z q) = (104 : Int32) ∧ ¬ 6 ≤ nI 6) from fun w => w.2 (by decide))]
        exact bad
    rw [if_neg (show ¬ (mJ (sg T z q) = (104 : Int32) ∧ ¬ 6 ≤ nI b) from fun w => by have := w.1; rw [p3] at this; exact k3 this)]
    rw [eq_false k3] at n3
    have so : f_PRd_sortOf N (ui hc 6 3 (nI q)) (nI (sg T z q)) = some (-1) := by
      simp only [f_PRd_sortOf, n1, n2, n3, ↓reduceIte]
    rw [so, bd_some, if_pos rfl]
    exact bad
theorem fwp_c : f_PRd_firstWrong N hc0 = (f_PRd_setAsWithout N (ui (ui (ui (ui hc0 6 3 0) 6 2 0) 7 2 0) 7 3 0) 0 0).bind fun h4 => lp (f_PRd_firstWrong_L25 N kP (k7C N) (k7C N)) N (0, h4) := rfl
theorem rpp_m : f_Mod_readParish N hm0 = lp (f_Mod_readParish_L24 N (fun h6 => lp (f_Mod_readParish_L49 N (k7M N)) N (0, 1, h6))) N (0, ui (ui (ui (ui hm0 51 3 0) 51 4 (-1)) 51 20 0) 51 21 0) := rfl
theorem rules_L {h0 : mu_H} {k1 : mu_H → Option (Int32 × mu_H)} : ∀ e j g h, j + e = 3 → e < g → Wm 0 0 62 h0 h j → ∃ h', lp (f_Mod_readParish_L24 N k1) g (nI j, h) = k1 h' ∧ Wm 0 0 62 h0 h' 3 := by
  intro e
  induction e with
  | zero =>
    intro j g h hj hg hW
    obtain ⟨g, rfl⟩ : ∃ q, g = q + 1 := ⟨g - 1, by omega⟩
    have : j = 3 := by omega
    subst this
    refine ⟨h, ?_, hW⟩
    rw [lp_1, f_Mod_readParish_L24, if_pos (show (3 : Int32) ≤ nI 3 by decide)]
  | succ e ih =>
    intro j g h hj hg hW
    obtain ⟨g, rfl⟩ : ∃ q, g = q + 1 := ⟨g - 1, by omega⟩
    have hW1 := Wm_s hW
    rw [Nat.zero_add] at hW1
    obtain ⟨h', e1, W'⟩ := ih (j + 1) g (ui h 62 j (nI (wiL 0 j))) (by omega) (by omega) hW1
    refine ⟨h', ?_, W'⟩
    have us : f_Mod_usual N h 115 (nI j) = some (nI (wiL 0 j)) := usual_m (t := 0) (by decide) (show j < 3 by omega)
    rw [lp_1, f_Mod_readParish_L24, if_neg (fun w => by have := (nI_leI (a := 3) (by decide) (by omega)).mp w; omega), us, bd_some, ix_nI (by omega) (by decide), gd_t, bn_eq, nI_clamp (by omega), nI_1]
    exact e1
theorem parish_2 (hTc : Tc hc0 z T) (hTm : Tm hm0 z T) (hN : 3000 ≤ N) : Rpr hc0 hm0 (f_PRd_firstWrong N hc0) (f_Mod_readParish N hm0) := by
  have hz := hTc.1
  obtain ⟨hA, eA⟩ : ∃ hA, hA = ui (ui (ui (ui hc0 6 3 0) 6 2 0) 7 2 0) 7 3 0 := ⟨_, rfl⟩
  obtain ⟨hB, eB⟩ : ∃ hB, hB = ui (ui (ui (ui hm0 51 3 0) 51 4 (-1)) 51 20 0) 51 21 0 := ⟨_, rfl⟩
  obtain ⟨hc1, e1, w1, w2, w3⟩ := wo_c (N := N) (h := hA) (t := 0) (R := 0) hN (by decide) (by decide)
  obtain ⟨hm1, e2, v1, v2, v3⟩ := rules_L (N := N) (h0 := hB) (k1 := fun h6 => lp (f_Mod_readParish_L49 N (k7M N)) N (0, 1, h6)) 3 0 N hB (by omega) (by omega) ⟨fun _ _ => rfl, fun k hk => by omega, fun _ _ => rfl⟩
  have e1 : f_PRd_setAsWithout N hA 0 0 = some hc1 := e1
  have e2 : lp (f_Mod_readParish_L24 N (fun h6 => lp (f_Mod_readParish_L49 N (k7M N)) N (0, 1, h6))) N (0, hB) = lp (f_Mod_readParish_L49 N (k7M N)) N (0, 1, hm1) := e2
  rw [fwp_c, rpp_m, ← eA, ← eB, e1, bd_some, e2]
  have fA : sc [6, 7, 8] hc0 hA := by
    rw [eA]; exact sc_trans (sc_trans (sc_trans (sc_ui (by decide)) (sc_ui (by decide))) (sc_ui (by decide))) (sc_ui (by decide))
  have fB : sM [62, 63, 64] [3, 4, 20, 21] hm0 hB := by
    rw [eB]; exact sM_trans (sM_trans (sM_trans (sM_u5 (by decide)) (sM_u5 (by decide))) (sM_u5 (by decide))) (sM_u5 (by decide))
  have e5 : hm1.1 51 = hB.1 51 := v1 51 (by decide)
  have C0 : PC hc0 hc1 0 0 0 0 := by
    refine ⟨sc_trans fA (sc_mono w1 (by decide)), ?_, ?_, ?_, ?_⟩
    · rw [w1 6 (by decide), eA, ui_n (by decide), ui_n (by decide), ui_s, upd_n (by decide), ui_s, upd_s]; rfl
    · rw [w1 6 (by decide), eA, ui_n (by decide), ui_n (by decide), ui_s, upd_s]; rfl
    · rw [w1 7 (by decide), eA, ui_s, upd_n (by decide), ui_s, upd_s]; rfl
    · rw [w1 7 (by decide), eA, ui_s, upd_s]; rfl
  have M0 : PM hm0 hm1 0 0 0 := by
    refine ⟨sM_trans fB ⟨fun c hc _ => v1 c (fun q => hc (by rw [q]; decide)), fun k _ => by rw [e5]⟩, ?_, ?_, ?_, ?_⟩
    · rw [e5, eB, u5_n (by decide), u5_n (by decide), u5_n (by decide), u5_s]; rfl
    · rw [e5, eB, u5_n (by decide), u5_n (by decide), u5_s]
    · rw [e5, eB, u5_n (by decide), u5_s]; rfl
    · rw [e5, eB, u5_s]; rfl
  have D0 : RD hc1 hm1 0 0 := by
    refine ⟨fun k hk => ?_, fun r hr => by omega, fun r hr => by omega⟩
    obtain ⟨t1, t2, t3, t4, t5, t6, t7⟩ := tab_c (t := 0) (by decide) hk
    exact ⟨wiL 0 k, t4, t5, w2 k hk, v2 k hk⟩
  exact pread_L hTc hTm hN z 0 0 0 0 0 hc1 hm1 N N (by omega) (by omega) (by omega) C0 M0 D0 (by omega) (by omega) (by omega) (by omega) (by omega)
end Preads
