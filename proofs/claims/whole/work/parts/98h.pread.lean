/-! the parish read by both -/
section Pread
variable {N z : Nat} {T : Nat → Nat} {hc0 hm0 : mu_H}
def kP : mu_H → Option (Int32 × mu_H) := fun h6 => some (h6.1 6 3, h6)
def k7M (N : Nat) (h8 : mu_H) : Option (Int32 × mu_H) := if h8.1 51 4 = -1 then bi (f_Mod_look N h8) fun x11 h12 => if x11 = -1 then (f_Mod_isWhole N h12).bind fun x16 => if x16 = 0 then (f_Mod_bad N h12).bind fun h15 => some (h15.1 51 4, h15) else some (h12.1 51 4, h12) else (f_Mod_bad N h12).bind fun h15 => some (h15.1 51 4, h15) else some (h8.1 51 4, h8)
def D24 (N : Nat) (rec : (Int32 × Int32 × mu_H) → Option (Int32 × mu_H)) (x25 : Int32) (h26 : mu_H) : Option (Int32 × mu_H) :=
  if h26.1 51 4 = -1 then bi (f_Mod_look N h26) fun x35 h36 => if x35 = 59 then rec (x25, 1, ui h36 51 3 ((h36.1 51 3) + 1)) else rec (x25, 0, ui h36 51 3 ((h36.1 51 3) + 0)) else rec (x25, 0, ui h26 51 3 ((h26.1 51 3) + 0))
/-- what comes of a parish -/
def Rpr (hc0 hm0 : mu_H) (X Y : Option (Int32 × mu_H)) : Prop :=
  (∃ e hc' hm', e ≤ 240 ∧ X = some (nI e, hc') ∧ Y = some (nI e, hm') ∧ sc [6, 7, 8] hc0 hc' ∧ sM [62, 63, 64] [3, 4, 20, 21] hm0 hm') ∨
  (∃ a b hc' hm', a ≤ 9 ∧ b ≤ 6 ∧ X = some (-1, hc') ∧ Y = some (-1, hm') ∧ sc [6, 7, 8] hc0 hc' ∧ sM [62, 63, 64] [3, 4, 20, 21] hm0 hm' ∧ hc'.1 7 2 = nI a ∧ hc'.1 7 3 = nI b ∧ hm'.1 51 20 = nI a ∧ hm'.1 51 21 = nI b ∧ RD hc' hm' a b ∧ okW hc' a b)
theorem Rw_cg {t R B : Nat} {C C' M M' : Nat → Int32} (h : Rw t C R M B) (hk : ∀ k, k < nkL t → C' (5 * R + k) = C (5 * R + k) ∧ M' (B + k) = M (B + k)) : Rw t C' R M' B := fun k h1 => by
  obtain ⟨v, a, b, c, d⟩ := h k h1
  obtain ⟨e, f⟩ := hk k h1
  exact ⟨v, a, b, e.trans c, f.trans d⟩
theorem RD_cg {hc hm hm' : mu_H} {a b : Nat} (h : RD hc hm a b) (e : ∀ c, c ≠ 51 → hm'.1 c = hm.1 c) {hc' : mu_H} (e8 : hc'.1 8 = hc.1 8) : RD hc' hm' a b := by
  rw [RD, e 62 (by decide), e 63 (by decide), e 64 (by decide), e8]; exact h
theorem k7_e {h : mu_H} {e : Nat} (hE : QM hm0 h e) (he : e < 1000) : k7M N h = some (nI e, h) := by
  have w := QM_w hE he
  rw [k7M, if_neg (fun q => by rw [w] at q; exact q), hE.2]
theorem L49_0 {k7 : mu_H → Option (Int32 × mu_H)} {g : Nat} {x : Int32} {h : mu_H} : lp (f_Mod_readParish_L49 N k7) (g + 1) (x, 0, h) = k7 h := by
  rw [lp_1, f_Mod_readParish_L49, if_pos rfl]
theorem D24_e {h : mu_H} {e g : Nat} {x : Int32} (hE : QM hm0 h e) (he : e < 1000) (hg : 0 < g) : ∃ h', D24 N (lp (f_Mod_readParish_L49 N (k7M N)) g) x h = some (nI e, h') ∧ QM hm0 h' e := by
  have w := QM_w hE he
  obtain ⟨g, rfl⟩ : ∃ q, g = q + 1 := ⟨g - 1, by omega⟩
  have E2 := QM_5 (k := 3) (x := h.1 51 3 + 0) (by decide) hE
  refine ⟨_, ?_, E2⟩
  rw [D24, if_neg (fun q => by rw [w] at q; exact q), L49_0, k7_e E2 he]
/-- behind the items of a clause -/
theorem cont_2 (hTc : Tc hc0 z T) (hTm : Tm hm0 z T) (hN : 3000 ≤ N) {t R B Q rl a b a' b' p g g' x : Nat} {hc hm : mu_H} {X : Option (Int32 × mu_H)} {Y : Option mu_H} {U : mu_H → mu_H} (hR : RI hc0 hm0 z T t R B Q rl a b a' b' p hc hm X Y) (hg : 0 < g') (ha : a ≤ 9) (hb : b ≤ 6) (hp : x + 1 ≤ p) (u1 : ∀ h q, PM hm0 h q a' b' → PM hm0 (U h) q a b) (u2 : ∀ h c, c ≠ 51 → (U h).1 c = h.1 c) (u3 : ∀ h e, QM hm0 h e → QM hm0 (U h) e) (u4 : ∀ hc' hm', Rw t (hc'.1 8) R (hm'.1 Q) B → FI R B Q hc hm hc' hm' → RD hc' hm' a b)
    (ih : ∀ q hc' hm', p + 1 ≤ q → q ≤ z → PC hc0 hc' q rl a b → PM hm0 hm' q a b → RD hc' hm' a b → Rpr hc0 hm0 (lp (f_PRd_firstWrong_L25 N kP (k7C N) (k7C N)) g (nI (x + 1), hc')) (lp (f_Mod_readParish_L49 N (k7M N)) g' (nI rl, 1, hm'))) : Rpr hc0 hm0 (bi X fun x21 h22 => if x21 = 0 then kP h22 else (f_Tap_size N h22).bind fun x24 => if h22.1 6 3 < x24 then bn (ui h22 6 3 ((h22.1 6 3) + 1)) fun h25 => lp (f_PRd_firstWrong_L25 N kP (k7C N) (k7C N)) g (nI x + 1, h25) else k7C N h22) (Y.bind fun h => D24 N (lp (f_Mod_readParish_L49 N (k7M N)) g') (nI rl) (U h)) := by
  have hz := hTc.1
  rcases hR with ⟨e, hc', hm', y1, y2, y3, y4, y5⟩ | ⟨q, hc', hm', y1, y2, y3, y4, y5, y6, y7, y8, y9⟩
  · obtain ⟨h', e1, E1⟩ := D24_e (N := N) (x := nI rl) (u3 hm' e y5) (show e < 1000 by omega) hg
    refine Or.inl ⟨e, hc', h', by omega, ?_, ?_, y4.1, E1.1⟩
    · rw [y2, bi_some, if_pos rfl, kP, y4.2]
    · rw [y3, bd_some, e1]
  · have M1 := u1 hm' q y7
    have D1 : RD hc' (U hm') a b := RD_cg (u4 hc' hm' y8 y9) (u2 hm') rfl
    have hs := sg_lt hTm q
    have hl := look_m (PM_T M1 hTm) hN M1.2.1 y2
    rw [nb_n y3, ui_self M1.2.1] at hl
    have hsz : hc'.1 1 1 = nI z := (PC_T y6 hTc).2.1
    rw [y4, bi_some, y5, bd_some, D24, if_pos M1.2.2.1, hl, bi_some]
    have x0 : ∀ i : Int32, i + 0 = i := Int32.add_zero
    by_cases c59 : sg T z q = 59
    · have hin := sg_in (T := T) (z := z) (p := q) (by omega)
      rw [if_pos (Or.inr c59), if_neg (show ¬ (1 : Int32) = 0 by decide), f_Tap_size, hsz, bd_some, y6.2.1, if_pos ((nI_ltI (by omega) (by omega)).mpr hin), bn_eq, nI_1, nI_1, if_pos (show mJ (sg T z q) = (59 : Int32) by rw [c59]; rfl), M1.2.1, nI_1]
      exact ih (q + 1) _ _ (by omega) (by omega) (PC_at y6) (PM_at M1) (RD_cg D1 (fun c hc => by rw [ui_n hc]) (by rw [ui_n (by decide)]))
    · rw [if_neg (show ¬ mJ (sg T z q) = (59 : Int32) from fun w => c59 ((mJ_n (k := 59) hs (by decide) (by decide)).mp w)), x0, ui_self rfl]
      obtain ⟨g', rfl⟩ : ∃ q, g' = q + 1 := ⟨g' - 1, by omega⟩
      rw [L49_0, k7M, if_pos M1.2.2.1, hl, bi_some]
      by_cases c0 : sg T z q = 0
      · have hqz : ¬ q < z := fun w => by
          rw [sg, if_pos w] at c0
          have := (hTm.2.2 q w).2.1; omega
        rw [if_pos (Or.inl c0), if_neg (show ¬ (1 : Int32) = 0 by decide), f_Tap_size, hsz, bd_some, y6.2.1, if_neg (fun w => hqz ((nI_ltI (by omega) (by omega)).mp w)), if_pos (show mJ (sg T z q) = (-1 : Int32) by rw [c0]; rfl)]
        obtain ⟨f1, f2⟩ := fin_c (N := N) hTc hN y6 ha hb
        obtain ⟨f3, f4⟩ := fin_m (N := N) (hc := hc') hN M1.2.2.2.1 M1.2.2.2.2 ha hb D1.2.1
        by_cases ok : okW hc' a b
        · rw [f1 ok, f3 ok, bd_some, if_neg (show ¬ (1 : Int32) = 0 by decide)]
          exact Or.inr ⟨a, b, hc', U hm', ha, hb, rfl, by rw [M1.2.2.1], y6.1, M1.1, y6.2.2.2.1, y6.2.2.2.2, M1.2.2.2.1, M1.2.2.2.2, D1, ok⟩
        · obtain ⟨h', e1, E1⟩ := PM_bad (N := N) M1
          rw [f2 ok, f4 ok, bd_some, if_pos rfl, e1, bd_some, E1.2]
          have : q = z := by omega
          exact Or.inl ⟨q, hc', h', by omega, by rw [this], rfl, y6.1, E1.1⟩
      · obtain ⟨h', e1, E1⟩ := PM_bad (N := N) M1
        have nor : ¬ (sg T z q = 0 ∨ sg T z q = 59) := fun w => by rcases w with w | w; exact c0 w; exact c59 w
        rw [if_neg nor, if_pos rfl, kP, y6.2.1, if_neg (show ¬ mJ (sg T z q) = (-1 : Int32) from fun w => c0 ((mJ_1 hs).mp w)), e1, bd_some, E1.2]
        exact Or.inl ⟨q, hc', h', by omega, rfl, rfl, y6.1, E1.1⟩
/-- one clause at the class -/
theorem fw_L {g x : Nat} {h : mu_H} (hx : x ≤ 240) : lp (f_PRd_firstWrong_L25 N kP (k7C N) (k7C N)) (g + 1) (nI x, h) = bi (f_PRd_readClause N h) fun x21 h22 => if x21 = 0 then kP h22 else (f_Tap_size N h22).bind fun x24 => if h22.1 6 3 < x24 then bn (ui h22 6 3 ((h22.1 6 3) + 1)) fun h25 => lp (f_PRd_firstWrong_L25 N kP (k7C N) (k7C N)) g (nI x + 1, h25) else k7C N h22 := by
  rw [lp_1, f_PRd_firstWrong_L25, if_neg (fun w => by have := (nI_ltI (a := 240) (by decide) (by omega)).mp w; omega)]
theorem rc_c (hTc : Tc hc0 z T) (hN : 3000 ≤ N) {h : mu_H} {p rl a b : Nat} (hC : PC hc0 h p rl a b) (hp : p ≤ z) : f_PRd_readClause N h = (f_PRd_sortOf N (ui h 6 3 (nI (nb T z p))) (nI (sg T z (nb T z p)))).bind fun x4 => if x4 = (-1) then some (0, ui h 6 3 (nI (nb T z p))) else (f_PRd_hasRoomFor N (ui h 6 3 (nI (nb T z p))) x4).bind fun x5 => if x5 = 0 then some (0, ui h 6 3 (nI (nb T z p))) else bi (f_PRd_addRow N (ui h 6 3 (nI (nb T z p + 1))) x4) fun x7 h8 => (f_PRd_setAsWithout N h8 x4 x7).bind fun h10 => lp (f_PRd_readClause_L72 N x4 x7) N (0, 0, h10) := by
  have hz := hTc.1
  obtain ⟨b1, b2, b3⟩ := nb_p (T := T) hp
  have C1 := PC_at (q := nb T z p) hC
  rw [f_PRd_readClause, hC.2.1, past_c (PC_T hC hTc) hN hp, bd_some, bn_eq, C1.2.1, sign_c (PC_T C1 hTc) (by omega), bd_some]
  simp only [bn_eq, nI_1, ui_ui]
theorem L49_1 {k7 : mu_H → Option (Int32 × mu_H)} {rec : (Int32 × Int32 × mu_H) → Option (Int32 × mu_H)} {x x1 : Int32} {h h1 : mu_H} (hw : h.1 51 4 = -1) (hl : f_Mod_look N h = some (x1, h1)) : f_Mod_readParish_L49 N k7 rec (x, 1, h) =
    if x1 = 115 ∧ x = 0 then (f_Mod_items N (ui h1 51 3 ((h1.1 51 3) + 1)) x1 62 3 0 3).bind fun h49 => D24 N rec 1 h49
    else if x1 = 114 ∧ ¬ 9 ≤ h1.1 51 20 then (f_Mod_items N (ui h1 51 3 ((h1.1 51 3) + 1)) x1 63 45 (5 * ((ui h1 51 3 ((h1.1 51 3) + 1)).1 51 20)) 5).bind fun h46 => D24 N rec x (ui h46 51 20 ((h46.1 51 20) + 1))
    else if x1 = 104 ∧ ¬ 6 ≤ h1.1 51 21 then (f_Mod_items N (ui h1 51 3 ((h1.1 51 3) + 1)) x1 64 18 (3 * ((ui h1 51 3 ((h1.1 51 3) + 1)).1 51 21)) 3).bind fun h43 => D24 N rec x (ui h43 51 21 ((h43.1 51 21) + 1))
    else (f_Mod_bad N h1).bind fun h41 => D24 N rec x h41 := by
  have h10 : ((1 : Int32) = 0) = False := by decide
  have w0 : (h.1 51 4 = -1) = True := eq_true hw
  simp only [f_Mod_readParish_L49, h10, w0, hl, bi_some, jn_eq, bn_eq, ↓reduceIte]
  by_cases c1 : x1 = 115
  · subst c1
    by_cases c2 : x = 0
    · simp only [c2, true_and, and_self, ↓reduceIte, D24, h10]
    · simp only [c2, and_false, ↓reduceIte, D24, h10, show ((115 : Int32) = 114) = False by decide, show ((115 : Int32) = 104) = False by decide, false_and]
  · by_cases c2 : x1 = 114
    · subst c2
      by_cases c3 : 9 ≤ h1.1 51 20
      · simp only [c3, not_true, and_false, ↓reduceIte, D24, h10, show ((114 : Int32) = 115) = False by decide, show ((114 : Int32) = 104) = False by decide, false_and]
      · simp only [c3, not_false_iff, and_self, ↓reduceIte, D24, h10, show ((114 : Int32) = 115) = False by decide, false_and]
    · by_cases c3 : x1 = 104
      · subst c3
        by_cases c4 : 6 ≤ h1.1 51 21
        · simp only [c4, not_true, and_false, ↓reduceIte, D24, h10, show ((104 : Int32) = 115) = False by decide, show ((104 : Int32) = 114) = False by decide, false_and]
        · simp only [c4, not_false_iff, and_self, ↓reduceIte, D24, h10, show ((104 : Int32) = 115) = False by decide, show ((104 : Int32) = 114) = False by decide, false_and]
      · simp only [c1, c2, c3, false_and, ↓reduceIte, D24, h10]
end Pread
