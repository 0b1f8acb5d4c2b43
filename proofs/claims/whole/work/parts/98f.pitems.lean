/-! the parish's readers: the items of a clause -/
section Pitems
variable {N z : Nat} {T : Nat → Nat} {hc0 hm0 : mu_H}
def Rw (t : Nat) (C : Nat → Int32) (R : Nat) (M : Nat → Int32) (B : Nat) : Prop := ∀ k, k < nkL t → ∃ v, loL t k ≤ v ∧ v ≤ hiL t k ∧ C (5 * R + k) = nI v ∧ M (B + k) = nI v
def FI (R B Q : Nat) (hc hm hc' hm' : mu_H) : Prop := (∀ i, i < 5 * R ∨ 5 * R + 5 ≤ i → hc'.1 8 i = hc.1 8 i) ∧ (∀ x, x ≠ Q → x ≠ 51 → hm'.1 x = hm.1 x) ∧ ∀ i, i < B → hm'.1 Q i = hm.1 Q i
theorem FI_refl {R B Q : Nat} {hc hm : mu_H} : FI R B Q hc hm hc hm := ⟨fun _ _ => rfl, fun _ _ _ => rfl, fun _ _ => rfl⟩
theorem FI_trans {R B Q : Nat} {hc hm hc' hm' hc'' hm'' : mu_H} (a : FI R B Q hc hm hc' hm') (b : FI R B Q hc' hm' hc'' hm'') : FI R B Q hc hm hc'' hm'' := ⟨fun i hi => (b.1 i hi).trans (a.1 i hi), fun x h1 h2 => (b.2.1 x h1 h2).trans (a.2.1 x h1 h2), fun i hi => (b.2.2 i hi).trans (a.2.2 i hi)⟩
def RI (hc0 hm0 : mu_H) (z : Nat) (T : Nat → Nat) (t R B Q rl a b a' b' p : Nat) (hc hm : mu_H) (X : Option (Int32 × mu_H)) (Y : Option mu_H) : Prop :=
  (∃ e hc' hm', e ≤ z ∧ X = some (0, hc') ∧ Y = some hm' ∧ QC hc0 hc' e ∧ QM hm0 hm' e) ∨
  (∃ q hc' hm', p ≤ q ∧ q ≤ z ∧ ¬ sg T z q = 32 ∧ X = some (if sg T z q = 0 ∨ sg T z q = 59 then 1 else 0, hc') ∧ Y = some hm' ∧ PC hc0 hc' q rl a b ∧ PM hm0 hm' q a' b' ∧ Rw t (hc'.1 8) R (hm'.1 Q) B ∧ FI R B Q hc hm hc' hm')
theorem itL_0 {t : Nat} (ht : t < 3) : itL t 0 = 9 ∧ itL t 59 = 9 := by
  rcases (show t = 0 ∨ t = 1 ∨ t = 2 by omega) with rfl | rfl | rfl <;> decide
theorem nk5 {t : Nat} : nkL t ≤ 5 := by
  rw [nkL]; split <;> omega
theorem nk_3 {t : Nat} : 3 ≤ nkL t := by
  rw [nkL]; split <;> omega
theorem items_L (hTc : Tc hc0 z T) (hTm : Tm hm0 z T) (hN : 3000 ≤ N) {t R B Q nQ rl a b a' b' : Nat} (ht : t < 3) (hR : R < 16) (hQ : Q = 62 ∨ Q = 63 ∨ Q = 64) (hB : B + nkL t ≤ nQ) (hnQ : nQ < 1000) : ∀ f p x G hc hm g g', z - p = f → f < g → f + 1 < g' → PC hc0 hc p rl a b → PM hm0 hm p a' b' → p ≤ z → x ≤ p → G < 32 → Rw t (hc.1 8) R (hm.1 Q) B → RI hc0 hm0 z T t R B Q rl a b a' b' p hc hm (lp (f_PRd_readClause_L72 N (nI t) (nI R)) g (nI (G * 2 ^ fL t), nI x, hc)) (bi (f_Mod_look N hm) fun x3 h4 => (f_Mod_itemOf N h4 (nI (chL t)) x3).bind fun x6 => lp (f_Mod_items_L41 N (nI (chL t)) Q nQ (nI B)) g' (nI G, x6, h4)) := by
  have hz := hTc.1
  have h10 : ¬ (1 : Int32) = 0 := by decide
  have k5 := nk5 (t := t)
  intro f
  induction f using Nat.strongRecOn with
  | _ f ih =>
    intro p x G hc hm g g' hf hg hg' hC hM hp hx hG hRw
    obtain ⟨g, rfl⟩ : ∃ q, g = q + 1 := ⟨g - 1, by omega⟩
    obtain ⟨g', rfl⟩ : ∃ q, g' = q + 1 := ⟨g' - 1, by omega⟩
    obtain ⟨b1, b2, b3⟩ := nb_p (T := T) hp
    have hl := look_m (PM_T hM hTm) hN hM.2.1 hp
    have hpb := past_c (N := N) (PC_T hC hTc) hN hp
    have hs := sg_lt hTm (nb T z p)
    have C1 := PC_at (q := nb T z p) hC
    have M1 := PM_at (q := nb T z p) hM
    have hFI : FI R B Q hc hm (ui hc 6 3 (nI (nb T z p))) (ui hm 51 3 (nI (nb T z p))) := ⟨fun i _ => by rw [ui_n (by decide)], fun x _ h5 => by rw [ui_n h5], fun i _ => by rw [ui_n (by omega)]⟩
    have hRw1 : Rw t ((ui hc 6 3 (nI (nb T z p))).1 8) R ((ui hm 51 3 (nI (nb T z p))).1 Q) B := by
      rw [ui_n (by decide), ui_n (by omega)]; exact hRw
    have hit := item_m (N := N) (h := ui hm 51 3 (nI (nb T z p))) ht hs
    rw [hl, bi_some, hit, bd_some]
    have hX : lp (f_PRd_readClause_L72 N (nI t) (nI R)) (g + 1) (nI (G * 2 ^ fL t), nI x, hc) = (f_Tap_size N (ui hc 6 3 (nI (nb T z p)))).bind fun x17 => if x17 ≤ (ui hc 6 3 (nI (nb T z p))).1 6 3 then some (1, ui hc 6 3 (nI (nb T z p))) else (f_Tap_sign N (ui hc 6 3 (nI (nb T z p))) ((ui hc 6 3 (nI (nb T z p))).1 6 3)).bind fun x18 => if x18 = 59 then some (1, ui hc 6 3 (nI (nb T z p))) else (f_Tap_sign N (ui hc 6 3 (nI (nb T z p))) ((ui hc 6 3 (nI (nb T z p))).1 6 3)).bind fun x19 => (f_PRd_letterOf N (ui hc 6 3 (nI (nb T z p))) (nI t) x19).bind fun x20 => if x20 = (-1) then some (0, ui hc 6 3 (nI (nb T z p))) else if (nI (G * 2 ^ fL t) >>> (x20 &&& 31)) &&& 1 = 0 then bn (nI (G * 2 ^ fL t) ||| ((1 : Int32) <<< (x20 &&& 31))) fun x21 => (f_Tap_pastBlanks N (ui hc 6 3 (nI (nb T z p))) (((ui hc 6 3 (nI (nb T z p))).1 6 3) + 1)).bind fun x22 => bn (ui (ui hc 6 3 (nI (nb T z p))) 6 3 x22) fun h23 => gd (ix (nI t) 4) <| bi (f_PRd_readNumber N h23 x20 (nI R) (x20 - (sv_0.getD (nI t).toNatClampNeg 0))) fun x24 h25 => if x24 = 0 then some (0, h25) else lp (f_PRd_readClause_L72 N (nI t) (nI R)) g (x21, nI x + 1, h25) else some (0, ui hc 6 3 (nI (nb T z p))) := by
      rw [lp_1, f_PRd_readClause_L72, if_neg (fun w => by have := (nI_ltI (a := 240) (by decide) (by omega)).mp w; omega), hC.2.1, hpb, bd_some, bn_eq]
    rw [hX]
    generalize nb T z p = q at *
    have hsz : (ui hc 6 3 (nI q)).1 1 1 = nI z := (PC_T C1 hTc).2.1
    rw [f_Tap_size, hsz, bd_some, C1.2.1]
    have stop : ∀ r : Int32, r = (if sg T z q = 0 ∨ sg T z q = 59 then 1 else 0) → (∃ Y, lp (f_Mod_items_L41 N (nI (chL t)) Q nQ (nI B)) (g' + 1) (nI G, jI 0 (itL t (sg T z q)), ui hm 51 3 (nI q)) = some Y ∧ Y = ui hm 51 3 (nI q)) → RI hc0 hm0 z T t R B Q rl a b a' b' p hc hm (some (r, ui hc 6 3 (nI q))) (lp (f_Mod_items_L41 N (nI (chL t)) Q nQ (nI B)) (g' + 1) (nI G, jI 0 (itL t (sg T z q)), ui hm 51 3 (nI q))) := by
      rintro r rfl ⟨Y, e1, rfl⟩
      exact Or.inr ⟨q, _, _, b1, b2, b3, rfl, e1, C1, M1, hRw1, hFI⟩
    have w1 : (ui hm 51 3 (nI q)).1 51 4 = -1 := M1.2.2.1
    have none : itL t (sg T z q) = 9 → ∃ Y, lp (f_Mod_items_L41 N (nI (chL t)) Q nQ (nI B)) (g' + 1) (nI G, jI 0 (itL t (sg T z q)), ui hm 51 3 (nI q)) = some Y ∧ Y = ui hm 51 3 (nI q) := by
      intro e9
      refine ⟨_, ?_, rfl⟩
      rw [e9, jI, if_pos rfl, lp_1, f_Mod_items_L41, if_pos w1, if_pos rfl]
    by_cases cz : z ≤ q
    · rw [if_pos ((nI_leI (by omega) (by omega)).mpr cz)]
      have s0 : sg T z q = 0 := by rw [sg, if_neg (by omega)]
      exact stop 1 (by rw [s0]; rfl) (none (by rw [s0]; exact (itL_0 ht).1))
    rw [if_neg (fun w => cz ((nI_leI (by omega) (by omega)).mp w)), sign_c (PC_T C1 hTc) (by omega), bd_some]
    have s0 : ¬ sg T z q = 0 := by
      rw [sg, if_pos (by omega)]; have := (hTm.2.2 q (by omega)).2.1; omega
    by_cases c59 : sg T z q = 59
    · rw [if_pos (by rw [c59]; rfl)]
      exact stop 1 (by rw [if_pos (Or.inr c59)]) (none (by rw [c59]; exact (itL_0 ht).2))
    rw [if_neg (show ¬ nI (sg T z q) = 59 from fun w => c59 (nI_inj (b := 59) (by omega) (by decide) w)), bd_some, letter_c ht hs hN, bd_some]
    have r0 : (0 : Int32) = (if sg T z q = 0 ∨ sg T z q = 59 then 1 else 0) := by
      rw [if_neg (fun w => by rcases w with w | w; exact s0 w; exact c59 w)]
    rcases itL_k (c := sg T z q) ht with e9 | ⟨ek, -⟩
    · rw [e9, show jI (fL t) 9 = (-1 : Int32) from if_pos rfl, if_pos rfl]
      rw [e9] at stop none
      exact stop 0 r0 (none rfl)
    · generalize hk : itL t (sg T z q) = k at *
      have jk : ∀ f, jI f k = nI (f + k) := fun f => if_neg (by omega)
      obtain ⟨t1, t2, t3, t4, t5, t6, t7⟩ := tab_c ht ek
      obtain ⟨d1, d2, d3, d4, d5⟩ := bit_dec ⟨t, ht⟩ ⟨G, hG⟩ ⟨k, by omega⟩
      rw [jk, if_neg (fun w => by rw [neg1 (by omega)] at w; exact w)]
      rw [jk, Nat.zero_add] at stop
      rw [jk, Nat.zero_add]
      by_cases bt : G / 2 ^ k % 2 = 1
      · rw [if_neg (fun w => (d1.mp w) bt)]
        refine stop 0 r0 ⟨_, ?_, rfl⟩
        rw [lp_1, f_Mod_items_L41, if_pos w1, if_neg (fun w => by rw [neg1 (by omega)] at w; exact w), f_Mod_has, if_pos (d2.mpr bt), bd_some, if_neg h10]
      · have hq1 : q + 1 ≤ z := by omega
        have hpb2 := past_c (N := N) (PC_T C1 hTc) hN hq1
        have M2 := PM_at (q := q + 1) M1
        rw [ui_ui] at M2
        have C2 := PC_at (q := nb T z (q + 1)) C1
        rw [ui_ui] at C2
        have hnum := pnum (N := N) hTc hTm hN hq1 ht ek hR C2 M2
        obtain ⟨s1, s2, s3⟩ := sv0_t ht
        have sk : nI (fL t + k) - nI (fL t) = nI k := by rw [sub_n (by omega) (by omega)]; congr 1; omega
        have eX : ∀ {W : Option (Int32 × mu_H)}, (if (nI (G * 2 ^ fL t) >>> (nI (fL t + k) &&& 31)) &&& 1 = 0 then bn (nI (G * 2 ^ fL t) ||| ((1 : Int32) <<< (nI (fL t + k) &&& 31))) fun x21 => (f_Tap_pastBlanks N (ui hc 6 3 (nI q)) (nI q + 1)).bind fun x22 => bn (ui (ui hc 6 3 (nI q)) 6 3 x22) fun h23 => gd (ix (nI t) 4) <| bi (f_PRd_readNumber N h23 (nI (fL t + k)) (nI R) (nI (fL t + k) - (sv_0.getD (nI t).toNatClampNeg 0))) fun x24 h25 => if x24 = 0 then some (0, h25) else lp (f_PRd_readClause_L72 N (nI t) (nI R)) g (x21, nI x + 1, h25) else W) = bi (f_PRd_readNumber N (ui hc 6 3 (nI (nb T z (q + 1)))) (nI (fL t + k)) (nI R) (nI k)) fun x24 h25 => if x24 = 0 then some (0, h25) else lp (f_PRd_readClause_L72 N (nI t) (nI R)) g (nI ((G ||| 2 ^ k) * 2 ^ fL t), nI (x + 1), h25) := by
          intro W
          have d3 : nI (G * 2 ^ fL t) ||| ((1 : Int32) <<< (nI (fL t + k) &&& 31)) = nI ((G ||| 2 ^ k) * 2 ^ fL t) := d3
          rw [if_pos (d1.mpr bt), bn_eq, d3, nI_1, hpb2, bd_some, bn_eq, ui_ui, ix_nI (by omega) (by decide), gd_t, nI_clamp (by omega), s1, sk, nI_1]
        have eY : lp (f_Mod_items_L41 N (nI (chL t)) Q nQ (nI B)) (g' + 1) (nI G, nI k, ui hm 51 3 (nI q)) = bi (f_Mod_number N (ui hm 51 3 (nI (q + 1))) (nI (loL t k)) (nI (hiL t k))) fun x16 h17 => bn (ui h17 Q (B + k) x16) fun h19 => if h19.1 51 4 = -1 then bi (f_Mod_look N h19) fun x23 h24 => (f_Mod_itemOf N h24 (nI (chL t)) x23).bind fun x26 => lp (f_Mod_items_L41 N (nI (chL t)) Q nQ (nI B)) g' (nI (G ||| 2 ^ k), x26, h24) else lp (f_Mod_items_L41 N (nI (chL t)) Q nQ (nI B)) g' (nI (G ||| 2 ^ k), -1, h19) := by
          have d4 : nI G ||| ((1 : Int32) <<< (nI k &&& 31)) = nI (G ||| 2 ^ k) := d4
          rw [lp_1, f_Mod_items_L41, if_pos w1, if_neg (fun w => by rw [neg1 (by omega)] at w; exact w), f_Mod_has, if_neg (fun w => bt (d2.mp w)), bd_some, if_pos rfl, bn_eq, bn_eq, d4, M1.2.1, nI_1, ui_ui, lowest_m ht ek, bd_some, highest_m ht ek, bd_some, nI_add, ix_nI (by omega) (by omega), nI_clamp (by omega)]
          rfl
        rw [eX, eY]
        rcases hnum with ⟨e, v, hc', hm', n1, n2, n3, n4, n5⟩ | ⟨v, q', n1, n2, n3, n4, n5, n6⟩
        · have E2 := QM_Q (i := B + k) (x := v) hQ n5
          refine Or.inl ⟨e, hc', _, n1, ?_, ?_, n4, E2⟩
          · rw [n2, bi_some, if_pos rfl]
          · obtain ⟨g', rfl⟩ : ∃ q, g' = q + 1 := ⟨g' - 1, by omega⟩
            have w2 := QM_w E2 (show e < 1000 by omega)
            rw [n3, bi_some, bn_eq, if_neg (fun w => by rw [w2] at w; exact w), lp_1, f_Mod_items_L41, if_neg (fun w => by rw [w2] at w; exact w)]
        · obtain ⟨hc5, e5⟩ : ∃ hc5, hc5 = ui (ui (ui hc 6 3 (nI (nb T z (q + 1)))) 6 3 (nI q')) 8 (5 * R + k) (nI v) := ⟨_, rfl⟩
          obtain ⟨hm5, e6⟩ : ∃ hm5, hm5 = ui (ui (ui hm 51 3 (nI (q + 1))) 51 3 (nI q')) Q (B + k) (nI v) := ⟨_, rfl⟩
          have C5 : PC hc0 hc5 q' rl a b := by rw [e5]; exact PC_8 (PC_at C2)
          have M5 : PM hm0 hm5 q' a' b' := by rw [e6]; exact PM_Q hQ (PM_at M2)
          rw [n5, bi_some, if_neg h10, n6, bi_some, bn_eq, ← e5, ← e6, if_pos M5.2.2.1]
          have hFI5 : FI R B Q hc hm hc5 hm5 := by
            refine ⟨fun i hi => ?_, fun x h1 h2 => ?_, fun i hi => ?_⟩
            · rw [e5, ui_s, upd_n (by omega), ui_n (by decide), ui_n (by decide)]
            · rw [e6, ui_n h1, ui_n h2, ui_n h2]
            · rw [e6, ui_s, upd_n (by omega), ui_n (by omega), ui_n (by omega)]
          have hRw5 : Rw t (hc5.1 8) R (hm5.1 Q) B := by
            intro k' hk'
            rw [e5, e6, ui_s, ui_s, ui_n (by decide), ui_n (by decide), ui_n (by omega), ui_n (by omega)]
            by_cases ck : k' = k
            · subst ck
              exact ⟨v, n3, n4, by rw [upd_s], by rw [upd_s]⟩
            · obtain ⟨v', y1, y2, y3, y4⟩ := hRw k' hk'
              exact ⟨v', y1, y2, by rw [upd_n (by omega)]; exact y3, by rw [upd_n (by omega)]; exact y4⟩
          rcases ih (z - q') (by omega) q' (x + 1) (G ||| 2 ^ k) hc5 hm5 g g' rfl (by omega) (by omega) C5 M5 n2 (by omega) d5 hRw5 with ⟨e, hc', hm', y1, y2, y3, y4, y5⟩ | ⟨q2, hc', hm', y1, y2, y3, y4, y5, y6, y7, y8, y9⟩
          · exact Or.inl ⟨e, hc', hm', y1, y2, y3, y4, y5⟩
          · exact Or.inr ⟨q2, hc', hm', by omega, y2, y3, y4, y5, y6, y7, y8, FI_trans hFI5 y9⟩
end Pitems
