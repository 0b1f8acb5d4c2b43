/-! what was read becomes the parish -/
section Take
variable {N a b : Nat} {ea eb : Nat → Nat} {h : mu_H} {ρ : Type}
theorem ur_0 {A : Nat} {F : Nat → Int32} (e : F = h.1 A) : ur h A F = h := by rw [e, ur_self]
theorem cp_L {body : ((Int32 × mu_H) → Option ρ) → (Int32 × mu_H) → Option ρ} {k : mu_H → Option ρ} {A B n : Nat} (hAB : B ≠ A) (hs : ∀ i, i < n → ∀ h' rec, body rec (nI i, h') = rec (nI (i + 1), ui h' A i (h'.1 B i))) (he : ∀ h' rec, body rec (nI n, h') = k h') (hN : n < N) : lp body N (0, h) = k (ur h A (fun c => if c < n then h.1 B c else h.1 A c)) := by
  have e0 : ur h A (fun c => if c < 0 then h.1 B c else h.1 A c) = h := ur_0 (by funext c; rw [if_neg (by omega)])
  have := lp_end (body := body) (fun i => (nI i, ur h A (fun c => if c < i then h.1 B c else h.1 A c))) n (v := k (ur h A (fun c => if c < n then h.1 B c else h.1 A c))) (fun i hi rec => by
    show body rec (nI i, _) = _
    rw [hs i hi, ui_ur, ur_n hAB]
    congr 3
    funext c
    by_cases q : c = i
    · subst q; rw [upd_s, if_pos (by omega)]
    · rw [upd_n q]
      by_cases w : c < i
      · rw [if_pos w, if_pos (by omega)]
      · rw [if_neg w, if_neg (by omega)]) (fun rec => he _ rec) (f := N) hN
  rw [e0] at this
  exact this
/-- wear and wet of the first i stretches -/
def wF (u v F : Nat → Int32) (i : Nat) : Nat → Int32 := fun c => if c < i then u c else if 9 ≤ c ∧ c < 9 + i then v (c - 9) else F c
theorem wF_s {u v F : Nat → Int32} {i : Nat} (hi : i < 9) : upd (upd (wF u v F i) i (u i)) (9 + i) (v i) = wF u v F (i + 1) := by
  funext c
  by_cases q : c = 9 + i
  · subst q
    rw [upd_s, wF, if_neg (by omega), if_pos (by omega), show 9 + i - 9 = i by omega]
  · rw [upd_n q]
    by_cases q2 : c = i
    · subst q2; rw [upd_s, wF, if_pos (by omega)]
    · rw [upd_n q2, wF, wF]
      by_cases w : c < i
      · rw [if_pos w, if_pos (show c < i + 1 by omega)]
      · rw [if_neg w, if_neg (show ¬ c < i + 1 by omega)]
        by_cases w2 : 9 ≤ c ∧ c < 9 + i
        · rw [if_pos w2, if_pos (show 9 ≤ c ∧ c < 9 + (i + 1) by omega)]
        · rw [if_neg w2, if_neg (show ¬ (9 ≤ c ∧ c < 9 + (i + 1)) by omega)]
def oF (x : Int32) (F : Nat → Int32) (i : Nat) : Nat → Int32 := fun c => if 18 ≤ c ∧ c < 18 + i then x else F c
theorem oF_s {x : Int32} {F : Nat → Int32} {i : Nat} : upd (oF x F i) (18 + i) x = oF x F (i + 1) := by
  funext c
  by_cases q : c = 18 + i
  · subst q; rw [upd_s, oF, if_pos (by omega)]
  · rw [upd_n q, oF, oF]
    by_cases w : 18 ≤ c ∧ c < 18 + i
    · rw [if_pos w, if_pos (by omega)]
    · rw [if_neg w, if_neg (by omega)]
/-- the state at the start -/
def sF (a b : Nat) (u v : Nat → Int32) (x : Int32) (F : Nat → Int32) : Nat → Int32 := oF x (wF u v F a) b
theorem takep_c (hN : 3000 ≤ N) (hG : Gr a ea eb) (e2 : h.1 7 2 = nI a) (e3 : h.1 7 3 = nI b) (hr : ∀ r, r < a → h.1 8 (5 * (1 + r) + 0) = nI (ea r) ∧ h.1 8 (5 * (1 + r) + 1) = nI (eb r)) : ∃ h', f_Par_take N h 3 7 = some h' ∧ sc [3, 4, 5] h h' ∧ h'.1 3 2 = nI a ∧ h'.1 3 3 = nI b ∧ (∀ c, c < 80 → h'.1 4 c = h.1 8 c) ∧ ∀ c, c < 64 → h'.1 5 c = nI (DF ea eb a c) := by
  have h9 := hG.1
  obtain ⟨h3, e4⟩ : ∃ h3, h3 = ui (ui (ur h 4 (va_cpy (h.1 8) (h.1 4) 0 0 80)) 3 2 (nI a)) 3 3 (nI b) := ⟨_, rfl⟩
  have f3 : sc [3, 4, 5] h h3 := by
    rw [e4]; exact sc_trans (sc_trans (sc_ur (by decide)) (sc_ui (by decide))) (sc_ui (by decide))
  have r4 : ∀ c, c < 80 → h3.1 4 c = h.1 8 c := fun c hc => by
    rw [e4, ui_n (by decide), ui_n (by decide), ur_1, va_cpy, if_pos ⟨Nat.zero_le _, by omega⟩, Nat.sub_zero, Nat.zero_add]
  have r32 : h3.1 3 2 = nI a := by rw [e4, ui_s, upd_n (by decide), ui_s, upd_s]
  have r33 : h3.1 3 3 = nI b := by rw [e4, ui_s, upd_s]
  have hm := meas_c (N := N) (h := h3) hN hG ⟨r32, fun r hr' => by
    obtain ⟨x1, x2⟩ := hr r hr'
    exact ⟨(r4 _ (by omega)).trans x1, (r4 _ (by omega)).trans x2⟩⟩
  refine ⟨ur h3 5 (SX (h3.1 5) (DF ea eb a)), ?_, sc_trans f3 (sc_ur (by decide)), by rw [ur_n (by decide)]; exact r32, by rw [ur_n (by decide)]; exact r33, fun c hc => by rw [ur_n (by decide)]; exact r4 c hc, fun c hc => by rw [ur_1, SX_i hc]⟩
  have ck : cpk 0 0 80 80 80 = true := by decide
  have x1 : (ur h 4 (va_cpy (h.1 8) (h.1 4) 0 0 80)).1 7 2 = nI a := by rw [ur_n (by decide)]; exact e2
  have x2 : (ui (ur h 4 (va_cpy (h.1 8) (h.1 4) 0 0 80)) 3 2 (nI a)).1 7 3 = nI b := by rw [ui_n (by decide), ur_n (by decide)]; exact e3
  have x3 : f_Par_take N h 3 7 = (gd (cpk 0 0 80 80 80) <| bn (ur h 4 (va_cpy (h.1 8) (h.1 4) 0 0 80)) fun h1 => bn (ui h1 3 2 (h1.1 7 2)) fun h2 => bn (ui h2 3 3 (h2.1 7 3)) fun h3 => (f_Par_measure N h3 3).bind fun h4 => some h4) := rfl
  rw [x3, ck, gd_t, bn_eq, x1, bn_eq, x2, bn_eq, ← e4, hm, bd_some]
theorem begin_c (hN : 3000 ≤ N) (ha : a ≤ 9) (hb : b ≤ 6) (e2 : h.1 3 2 = nI a) (e3 : h.1 3 3 = nI b) : ∃ h', f_Sta_begin N h 14 3 = some h' ∧ sc [15] h h' ∧ h'.1 15 = sF a b (fun r => h.1 4 (5 * (1 + r) + 2)) (fun r => h.1 4 (5 * (1 + r) + 3)) (h.1 4 0) (fun c => if c < 34 then 0 else h.1 15 c) := by
  have hf := fill_c (N := N) (h := h) (q := 15) (n := 34) (v := 0) (by omega) (by decide)
  generalize hF : (fun c => if c < 34 then (0 : Int32) else h.1 15 c) = F at *
  have d1 : ∀ k2 : mu_H → Option mu_H, lp (f_Sta_begin_L10 N 14 3 k2) N (0, ur h 15 F) = k2 (ur h 15 (wF (fun r => h.1 4 (5 * (1 + r) + 2)) (fun r => h.1 4 (5 * (1 + r) + 3)) F a)) := by
    intro k2
    have e0 : wF (fun r => h.1 4 (5 * (1 + r) + 2)) (fun r => h.1 4 (5 * (1 + r) + 3)) F 0 = F := by
      funext c; rw [wF, if_neg (by omega), if_neg (by omega)]
    have := lp_end (body := f_Sta_begin_L10 N 14 3 k2) (fun i => (nI i, ur h 15 (wF (fun r => h.1 4 (5 * (1 + r) + 2)) (fun r => h.1 4 (5 * (1 + r) + 3)) F i))) a (v := k2 (ur h 15 (wF (fun r => h.1 4 (5 * (1 + r) + 2)) (fun r => h.1 4 (5 * (1 + r) + 3)) F a))) (fun i hi rec => by
      show f_Sta_begin_L10 N 14 3 k2 rec (nI i, _) = _
      have o2 : ∀ G : Nat → Int32, f_Par_ofStretch N (ur h 15 G) 3 (nI i) 2 = some (h.1 4 (5 * (1 + i) + 2)) := fun G => by
        have := ofS (N := N) (h := ur h 15 G) (o := 3) (r := i) (k := 2) (by omega) (by decide)
        rw [ur_n (show (3 + 1 : Nat) ≠ 15 by decide)] at this
        exact this
      have o3 : ∀ G : Nat → Int32, f_Par_ofStretch N (ur h 15 G) 3 (nI i) 3 = some (h.1 4 (5 * (1 + i) + 3)) := fun G => by
        have := ofS (N := N) (h := ur h 15 G) (o := 3) (r := i) (k := 3) (by omega) (by decide)
        rw [ur_n (show (3 + 1 : Nat) ≠ 15 by decide)] at this
        exact this
      have i9 : 9 + nI i = nI (9 + i) := by rw [show (9 : Int32) = nI 9 from rfl, nI_add]
      rw [f_Sta_begin_L10, f_Par_stretches, ur_n (by decide), e2, bd_some, if_neg (fun w => by have := (nI_leI (by omega) (by omega)).mp w; omega), o2, bd_some, add0, ix_nI (by omega) (by decide), gd_t, bn_eq, nI_clamp (by omega), ui_ur, o3, bd_some, i9, ix_nI (by omega) (by decide), gd_t, bn_eq, nI_clamp (by omega), ui_ur, nI_1, ← wF_s (by omega)]) (fun rec => by
      show f_Sta_begin_L10 N 14 3 k2 rec (nI a, _) = _
      rw [f_Sta_begin_L10, f_Par_stretches, ur_n (by decide), e2, bd_some, if_pos ((nI_leI (by omega) (by omega)).mpr (Nat.le_refl a))]) (f := N) (by omega)
    rw [e0] at this
    exact this
  generalize hW : wF (fun r => h.1 4 (5 * (1 + r) + 2)) (fun r => h.1 4 (5 * (1 + r) + 3)) F a = W at *
  have d2 : lp (f_Sta_begin_L55 N 14 3) N (0, ur h 15 W) = some (ur h 15 (oF (h.1 4 0) W b)) := by
    have e0 : oF (h.1 4 0) W 0 = W := by
      funext c; rw [oF, if_neg (by omega)]
    have := lp_end (body := f_Sta_begin_L55 N 14 3) (fun i => (nI i, ur h 15 (oF (h.1 4 0) W i))) b (v := some (ur h 15 (oF (h.1 4 0) W b))) (fun i hi rec => by
      show f_Sta_begin_L55 N 14 3 rec (nI i, _) = _
      have o2 : ∀ G : Nat → Int32, f_Par_ofRules N (ur h 15 G) 3 0 = some (h.1 4 0) := fun G => by
        rw [f_Par_ofRules, show ix 0 80 = true by decide, gd_t, ur_n (show (3 + 1 : Nat) ≠ 15 by decide)]
        rfl
      have i9 : 18 + nI i = nI (18 + i) := by rw [show (18 : Int32) = nI 18 from rfl, nI_add]
      rw [f_Sta_begin_L55, f_Par_houses, ur_n (by decide), e3, bd_some, if_neg (fun w => by have := (nI_leI (by omega) (by omega)).mp w; omega), o2, bd_some, i9, ix_nI (by omega) (by decide), gd_t, bn_eq, nI_clamp (by omega), ui_ur, nI_1, ← oF_s]) (fun rec => by
      show f_Sta_begin_L55 N 14 3 rec (nI b, _) = _
      rw [f_Sta_begin_L55, f_Par_houses, ur_n (by decide), e3, bd_some, if_pos ((nI_leI (by omega) (by omega)).mpr (Nat.le_refl b))]) (f := N) (by omega)
    rw [e0] at this
    exact this
  refine ⟨ur h 15 (oF (h.1 4 0) W b), ?_, sc_ur (by decide), by rw [ur_1, sF, ← hW]⟩
  have e1 : f_Sta_begin N h 14 3 = (f_Arr_fill N h 15 34 0).bind fun h1 => lp (f_Sta_begin_L10 N 14 3 (fun h3 => lp (f_Sta_begin_L55 N 14 3) N (0, h3))) N (0, h1) := rfl
  rw [e1, hf, bd_some, d1]
  exact d2
theorem set_L {body : ((Int32 × mu_H) → Option ρ) → (Int32 × mu_H) → Option ρ} {k : mu_H → Option ρ} {A n : Nat} {x : Int32} (hs : ∀ i, i < n → ∀ h' rec, body rec (nI i, h') = rec (nI (i + 1), ui h' A i x)) (he : ∀ h' rec, body rec (nI n, h') = k h') (hN : n < N) : lp body N (0, h) = k (ur h A (fun c => if c < n then x else h.1 A c)) := by
  have e0 : ur h A (fun c => if c < 0 then x else h.1 A c) = h := ur_0 (by funext c; rw [if_neg (by omega)])
  have := lp_end (body := body) (fun i => (nI i, ur h A (fun c => if c < i then x else h.1 A c))) n (v := k (ur h A (fun c => if c < n then x else h.1 A c))) (fun i hi rec => by
    show body rec (nI i, _) = _
    rw [hs i hi, ui_ur]
    congr 3
    funext c
    by_cases q : c = i
    · subst q; rw [upd_s, if_pos (by omega)]
    · rw [upd_n q]
      by_cases w : c < i
      · rw [if_pos w, if_pos (by omega)]
      · rw [if_neg w, if_neg (by omega)]) (fun rec => he _ rec) (f := N) hN
  rw [e0] at this
  exact this
/-- the model takes the parish -/
theorem takep_m (hN : 3000 ≤ N) (hG : Gr a ea eb) (hb : b ≤ 6) (e2 : h.1 51 20 = nI a) (e3 : h.1 51 21 = nI b) (hr : ∀ r, r < a → h.1 63 (5 * r + 0) = nI (ea r) ∧ h.1 63 (5 * r + 1) = nI (eb r)) : ∃ h', f_Mod_takeParish N h = some (nI a, h') ∧ sM [65, 66, 67, 68, 70] [25, 26, 32, 40, 45] h h' ∧ h'.1 51 25 = nI a ∧ h'.1 51 26 = nI b ∧ h'.1 51 32 = 0 ∧ h'.1 51 40 = 0 ∧ h'.1 51 45 = 0 ∧ (∀ c, c < 3 → h'.1 65 c = h.1 62 c) ∧ (∀ c, c < 45 → h'.1 66 c = h.1 63 c) ∧ (∀ c, c < 18 → h'.1 67 c = h.1 64 c) ∧ h'.1 68 = sF a b (fun r => h.1 63 (5 * r + 2)) (fun r => h.1 63 (5 * r + 3)) (h.1 62 0) (fun c => if c < 214 then 0 else h.1 68 c) ∧ ∀ c, c < 64 → h'.1 70 c = nI (md (DF ea eb a c)) := by
  have h9 := hG.1
  obtain ⟨h2, x2⟩ : ∃ h2, h2 = ui (ui h 51 25 (nI a)) 51 26 (nI b) := ⟨_, rfl⟩
  obtain ⟨h4, x4⟩ : ∃ h4, h4 = ur h2 65 (fun c => if c < 3 then h2.1 62 c else h2.1 65 c) := ⟨_, rfl⟩
  obtain ⟨h6, x6⟩ : ∃ h6, h6 = ur h4 66 (fun c => if c < 45 then h4.1 63 c else h4.1 66 c) := ⟨_, rfl⟩
  obtain ⟨h8, x8⟩ : ∃ h8, h8 = ur h6 67 (fun c => if c < 18 then h6.1 64 c else h6.1 67 c) := ⟨_, rfl⟩
  obtain ⟨F, xF⟩ : ∃ F, F = (fun c => if c < 214 then (0 : Int32) else h.1 68 c) := ⟨_, rfl⟩
  have y68 : h8.1 68 = h.1 68 := by rw [x8, ur_n (by decide), x6, ur_n (by decide), x4, ur_n (by decide), x2, ui_n (by decide), ui_n (by decide)]
  have d1 : ∀ k3 : mu_H → Option (Int32 × mu_H), lp (f_Mod_takeParish_L18 k3) N (0, h2) = k3 h4 := fun k3 => by
    rw [x4]
    exact cp_L (body := f_Mod_takeParish_L18 k3) (A := 65) (B := 62) (by decide) (fun i hi h' rec => by
      rw [f_Mod_takeParish_L18, if_neg (fun w => by have := (nI_leI (a := 3) (by decide) (by omega)).mp w; omega), ix_nI hi (by decide), gd_t, gd_t, bn_eq, nI_clamp (by omega), nI_1]) (fun h' rec => by
      rw [f_Mod_takeParish_L18, if_pos (show (3 : Int32) ≤ nI 3 by decide)]) (by omega)
  have d2 : ∀ k3 : mu_H → Option (Int32 × mu_H), lp (f_Mod_takeParish_L43 k3) N (0, h4) = k3 h6 := fun k3 => by
    rw [x6]
    exact cp_L (body := f_Mod_takeParish_L43 k3) (A := 66) (B := 63) (by decide) (fun i hi h' rec => by
      rw [f_Mod_takeParish_L43, if_neg (fun w => by have := (nI_leI (a := 45) (by decide) (by omega)).mp w; omega), ix_nI hi (by decide), gd_t, gd_t, bn_eq, nI_clamp (by omega), nI_1]) (fun h' rec => by
      rw [f_Mod_takeParish_L43, if_pos (show (45 : Int32) ≤ nI 45 by decide)]) (by omega)
  have d3 : ∀ k3 : mu_H → Option (Int32 × mu_H), lp (f_Mod_takeParish_L69 k3) N (0, h6) = k3 h8 := fun k3 => by
    rw [x8]
    exact cp_L (body := f_Mod_takeParish_L69 k3) (A := 67) (B := 64) (by decide) (fun i hi h' rec => by
      rw [f_Mod_takeParish_L69, if_neg (fun w => by have := (nI_leI (a := 18) (by decide) (by omega)).mp w; omega), ix_nI hi (by decide), gd_t, gd_t, bn_eq, nI_clamp (by omega), nI_1]) (fun h' rec => by
      rw [f_Mod_takeParish_L69, if_pos (show (18 : Int32) ≤ nI 18 by decide)]) (by omega)
  have d4 : ∀ k3 : mu_H → Option (Int32 × mu_H), lp (f_Mod_takeParish_L95 k3) N (0, h8) = k3 (ur h8 68 F) := fun k3 => by
    rw [xF, ← y68]
    exact set_L (body := f_Mod_takeParish_L95 k3) (A := 68) (fun i hi h' rec => by
      rw [f_Mod_takeParish_L95, if_neg (fun w => by have := (nI_leI (a := 214) (by decide) (by omega)).mp w; omega), ix_nI hi (by decide), gd_t, bn_eq, nI_clamp (by omega), nI_1]) (fun h' rec => by
      rw [f_Mod_takeParish_L95, if_pos (show (214 : Int32) ≤ nI 214 by decide)]) (by omega)
  have q25 : h8.1 51 25 = nI a := by
    rw [x8, ur_n (by decide), x6, ur_n (by decide), x4, ur_n (by decide), x2, u5_n (by decide), u5_s]
  have q26 : h8.1 51 26 = nI b := by
    rw [x8, ur_n (by decide), x6, ur_n (by decide), x4, ur_n (by decide), x2, u5_s]
  have q66 : ∀ c, c < 45 → h8.1 66 c = h.1 63 c := fun c hc => by
    rw [x8, ur_n (by decide), x6, ur_1, if_pos hc, x4, ur_n (by decide), x2, ui_n (by decide), ui_n (by decide)]
  have q65 : ∀ c, c < 3 → h8.1 65 c = h.1 62 c := fun c hc => by
    rw [x8, ur_n (by decide), x6, ur_n (by decide), x4, ur_1, if_pos hc, x2, ui_n (by decide), ui_n (by decide)]
  have q67 : ∀ c, c < 18 → h8.1 67 c = h.1 64 c := fun c hc => by
    rw [x8, ur_1, if_pos hc, x6, ur_n (by decide), x4, ur_n (by decide), x2, ui_n (by decide), ui_n (by decide)]
  have d5 : ∀ k2 : mu_H → Option (Int32 × mu_H), lp (f_Mod_takeParish_L117 N k2) N (0, ur h8 68 F) = k2 (ur h8 68 (wF (fun r => h.1 63 (5 * r + 2)) (fun r => h.1 63 (5 * r + 3)) F a)) := by
    intro k2
    have e0 : wF (fun r => h.1 63 (5 * r + 2)) (fun r => h.1 63 (5 * r + 3)) F 0 = F := by
      funext c; rw [wF, if_neg (by omega), if_neg (by omega)]
    have := lp_end (body := f_Mod_takeParish_L117 N k2) (fun i => (nI i, ur h8 68 (wF (fun r => h.1 63 (5 * r + 2)) (fun r => h.1 63 (5 * r + 3)) F i))) a (v := k2 (ur h8 68 (wF (fun r => h.1 63 (5 * r + 2)) (fun r => h.1 63 (5 * r + 3)) F a))) (fun i hi rec => by
      show f_Mod_takeParish_L117 N k2 rec (nI i, _) = _
      have o2 : ∀ G : Nat → Int32, f_Mod_of N (ur h8 68 G) (nI i) 2 = some (h.1 63 (5 * i + 2)) := fun G => by
        have := mofS (N := N) (h := ur h8 68 G) (r := i) (k := 2) (by omega) (by decide)
        rw [ur_n (show (66 : Nat) ≠ 68 by decide), q66 _ (by omega)] at this
        exact this
      have o3 : ∀ G : Nat → Int32, f_Mod_of N (ur h8 68 G) (nI i) 3 = some (h.1 63 (5 * i + 3)) := fun G => by
        have := mofS (N := N) (h := ur h8 68 G) (r := i) (k := 3) (by omega) (by decide)
        rw [ur_n (show (66 : Nat) ≠ 68 by decide), q66 _ (by omega)] at this
        exact this
      have i9 : 9 + nI i = nI (9 + i) := by rw [show (9 : Int32) = nI 9 from rfl, nI_add]
      rw [f_Mod_takeParish_L117, ur_n (by decide), q25, if_neg (fun w => by have := (nI_leI (by omega) (by omega)).mp w; omega), o2, bd_some, add0, ix_nI (by omega) (by decide), gd_t, bn_eq, nI_clamp (by omega), ui_ur, o3, bd_some, i9, ix_nI (by omega) (by decide), gd_t, bn_eq, nI_clamp (by omega), ui_ur, nI_1, ← wF_s (by omega)]) (fun rec => by
      show f_Mod_takeParish_L117 N k2 rec (nI a, _) = _
      rw [f_Mod_takeParish_L117, ur_n (by decide), q25, if_pos ((nI_leI (by omega) (by omega)).mpr (Nat.le_refl a))]) (f := N) (by omega)
    rw [e0] at this
    exact this
  generalize hW : wF (fun r => h.1 63 (5 * r + 2)) (fun r => h.1 63 (5 * r + 3)) F a = W at *
  have d6 : ∀ k2 : mu_H → Option (Int32 × mu_H), lp (f_Mod_takeParish_L162 k2) N (0, ur h8 68 W) = k2 (ur h8 68 (oF (h.1 62 0) W b)) := by
    intro k2
    have e0 : oF (h.1 62 0) W 0 = W := by
      funext c; rw [oF, if_neg (by omega)]
    have := lp_end (body := f_Mod_takeParish_L162 k2) (fun i => (nI i, ur h8 68 (oF (h.1 62 0) W i))) b (v := k2 (ur h8 68 (oF (h.1 62 0) W b))) (fun i hi rec => by
      show f_Mod_takeParish_L162 k2 rec (nI i, _) = _
      have i9 : 18 + nI i = nI (18 + i) := by rw [show (18 : Int32) = nI 18 from rfl, nI_add]
      have z0 : (0 : Int32).toNatClampNeg = 0 := rfl
      have o5 : ∀ G : Nat → Int32, (ur h8 68 G).1 65 0 = h.1 62 0 := fun G => by rw [ur_n (by decide)]; exact q65 0 (by decide)
      rw [f_Mod_takeParish_L162, ur_n (show (51 : Nat) ≠ 68 by decide), q26, if_neg (fun w => by have := (nI_leI (by omega) (by omega)).mp w; omega), show ix 0 3 = true by decide, gd_t, i9, ix_nI (by omega) (by decide), gd_t, bn_eq, nI_clamp (by omega), z0, o5, ui_ur, nI_1, ← oF_s]) (fun rec => by
      show f_Mod_takeParish_L162 k2 rec (nI b, _) = _
      rw [f_Mod_takeParish_L162, ur_n (show (51 : Nat) ≠ 68 by decide), q26, if_pos ((nI_leI (by omega) (by omega)).mpr (Nat.le_refl b))]) (f := N) (by omega)
    rw [e0] at this
    exact this
  obtain ⟨h14, x14⟩ : ∃ h14, h14 = ur h8 68 (oF (h.1 62 0) W b) := ⟨_, rfl⟩
  have d7 := lays_m (N := N) (h := h14) hN hG ⟨by rw [x14, ur_n (by decide)]; exact q25, fun r hr' => by
    obtain ⟨z1, z2⟩ := hr r hr'
    rw [x14, ur_n (by decide)]
    exact ⟨(q66 _ (by omega)).trans z1, (q66 _ (by omega)).trans z2⟩⟩
  obtain ⟨h15, x15⟩ : ∃ h15, h15 = ur h14 70 (SX (h14.1 70) (fun c => md (DF ea eb a c))) := ⟨_, rfl⟩
  rw [← x15] at d7
  obtain ⟨hF, xx⟩ : ∃ hF, hF = ui (ui (ui h15 51 40 0) 51 32 0) 51 45 0 := ⟨_, rfl⟩
  have c5 : ∀ c, c ≠ 51 → hF.1 c = h15.1 c := fun c hc => by rw [xx, ui_n hc, ui_n hc, ui_n hc]
  have k5 : ∀ k, k ≠ 40 → k ≠ 32 → k ≠ 45 → hF.1 51 k = h8.1 51 k := fun k h1 h2 h3 => by
    rw [xx, u5_n h3, u5_n h2, u5_n h1, x15, ur_n (by decide), x14, ur_n (by decide)]
  refine ⟨hF, ?_, ?_, (k5 25 (by decide) (by decide) (by decide)).trans q25, (k5 26 (by decide) (by decide) (by decide)).trans q26, ?_, ?_, ?_, fun c hc => ?_, fun c hc => ?_, fun c hc => ?_, ?_, fun c hc => ?_⟩
  · have e1 : f_Mod_takeParish N h = (bn (ui h 51 25 (h.1 51 20)) fun h1 => bn (ui h1 51 26 (h1.1 51 21)) fun h2 => lp (f_Mod_takeParish_L18 (fun h4 => lp (f_Mod_takeParish_L43 (fun h6 => lp (f_Mod_takeParish_L69 (fun h8 => lp (f_Mod_takeParish_L95 (fun h10 => lp (f_Mod_takeParish_L117 N (fun h12 => lp (f_Mod_takeParish_L162 (fun h14 => (f_Mod_laySteps N h14).bind fun h15 => bn (ui h15 51 40 0) fun h16 => bn (ui h16 51 32 0) fun h17 => bn (ui h17 51 45 0) fun h18 => some (h18.1 51 25, h18))) N (0, h12))) N (0, h10))) N (0, h8))) N (0, h6))) N (0, h4))) N (0, h2)) := rfl
    have y21 : (ui h 51 25 (nI a)).1 51 21 = nI b := by rw [u5_n (by decide)]; exact e3
    rw [e1, bn_eq, e2, bn_eq, y21, ← x2, d1]
    show lp (f_Mod_takeParish_L43 _) N (0, h4) = _
    rw [d2]
    show lp (f_Mod_takeParish_L69 _) N (0, h6) = _
    rw [d3]
    show lp (f_Mod_takeParish_L95 _) N (0, h8) = _
    rw [d4]
    show lp (f_Mod_takeParish_L117 N _) N (0, _) = _
    rw [d5]
    show lp (f_Mod_takeParish_L162 _) N (0, _) = _
    rw [d6, ← x14]
    show (f_Mod_laySteps N h14).bind _ = _
    rw [d7, bd_some, bn_eq, bn_eq, bn_eq, ← xx, (k5 25 (by decide) (by decide) (by decide)).trans q25]
  · rw [xx, x15, x14, x8, x6, x4, x2]
    exact sM_trans (sM_trans (sM_trans (sM_trans (sM_trans (sM_trans (sM_trans (sM_trans (sM_trans (sM_u5 (by decide)) (sM_u5 (by decide))) (sM_ur (by decide) (by decide))) (sM_ur (by decide) (by decide))) (sM_ur (by decide) (by decide))) (sM_ur (by decide) (by decide))) (sM_ur (by decide) (by decide))) (sM_u5 (by decide))) (sM_u5 (by decide))) (sM_u5 (by decide))
  · rw [xx, u5_n (by decide), u5_s]
  · rw [xx, u5_n (by decide), u5_n (by decide), u5_s]
  · rw [xx, u5_s]
  · rw [c5 65 (by decide), x15, ur_n (by decide), x14, ur_n (by decide)]; exact q65 c hc
  · rw [c5 66 (by decide), x15, ur_n (by decide), x14, ur_n (by decide)]; exact q66 c hc
  · rw [c5 67 (by decide), x15, ur_n (by decide), x14, ur_n (by decide)]; exact q67 c hc
  · rw [c5 68 (by decide), x15, ur_n (by decide), x14, ur_1, sF, ← xF, hW]
  · rw [c5 70 (by decide), x15, ur_1, SX_i hc]
end Take
