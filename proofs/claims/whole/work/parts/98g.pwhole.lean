/-! the parish's readers: what is without items; is it whole -/
section Pwhole
variable {N z : Nat} {T : Nat → Nat} {hc0 hm0 : mu_H}
theorem set_c {h : mu_H} {R k : Nat} {x : Int32} (hR : R < 16) (hk : k < 5) : f_Par_set N h 7 (nI R) (nI k) x = some (ui h 8 (5 * R + k) x) := by
  have e : nI R * 5 + nI k = nI (5 * R + k) := by
    rw [show (5 : Int32) = nI 5 from rfl, pk_mul, nI_add, Nat.mul_comm]
  rw [f_Par_set, if_neg (nI_pos (by omega)), if_neg (fun w => by have := (nI_leI (a := 16) (by decide) (by omega)).mp w; omega), if_neg (nI_pos (by omega)), if_neg (fun w => by have := (nI_leI (a := 5) (by decide) (by omega)).mp w; omega), e, ix_nI (by omega) (by decide), gd_t, bn_eq, nI_clamp (by omega)]
def Wo (t R : Nat) (h h' : mu_H) (j : Nat) : Prop := sc [8] h h' ∧ (∀ k, k < j → h'.1 8 (5 * R + k) = nI (wiL t k)) ∧ ∀ i, i < 5 * R ∨ 5 * R + 5 ≤ i → h'.1 8 i = h.1 8 i
theorem wo_L {h0 : mu_H} {t R : Nat} (ht : t < 3) (hR : R < 16) : ∀ e j g h, j + e = nkL t → e < g → Wo t R h0 h j → ∃ h', lp (f_PRd_setAsWithout_L9 N (nI t) (nI R) (nI (fL t))) g (nI (fL t + j), h) = some h' ∧ Wo t R h0 h' (nkL t) := by
  obtain ⟨s1, s2, s3⟩ := sv0_t ht
  have k5 := nk5 (t := t)
  intro e
  induction e with
  | zero =>
    intro j g h hj hg hW
    obtain ⟨g, rfl⟩ : ∃ q, g = q + 1 := ⟨g - 1, by omega⟩
    have : j = nkL t := by omega
    subst this
    refine ⟨h, ?_, hW⟩
    rw [lp_1, f_PRd_setAsWithout_L9, nI_1, ix_nI (by omega) (by decide), gd_t, nI_clamp (by omega), s2, if_pos ((nI_leI (by omega) (by omega)).mpr (Nat.le_refl _))]
  | succ e ih =>
    intro j g h hj hg hW
    obtain ⟨g, rfl⟩ : ∃ q, g = q + 1 := ⟨g - 1, by omega⟩
    obtain ⟨t1, t2, t3, t4, t5, t6, t7⟩ := tab_c ht (show j < nkL t by omega)
    have sk : nI (fL t + j) - nI (fL t) = nI j := by rw [sub_n (by omega) (by omega)]; congr 1; omega
    obtain ⟨w1, w2, w3⟩ := hW
    obtain ⟨h', e1, W'⟩ := ih (j + 1) g (ui h 8 (5 * R + j) (nI (wiL t j))) (by omega) (by omega) ⟨sc_trans w1 (sc_ui (by decide)), fun k hk => by
      rw [ui_s]
      by_cases c : k = j
      · rw [c, upd_s]
      · rw [upd_n (by omega)]; exact w2 k (by omega), fun i hi => by rw [ui_s, upd_n (by omega)]; exact w3 i hi⟩
    refine ⟨h', ?_, W'⟩
    rw [lp_1, f_PRd_setAsWithout_L9, nI_1, ix_nI (by omega) (by decide), gd_t, nI_clamp (by omega), s2, if_neg (fun w => by have := (nI_leI (by omega) (by omega)).mp w; omega), ix_nI (by omega) (by decide), gd_t, sk, nI_clamp (by omega), t3, set_c hR (by omega), bd_some, nI_1]
    exact e1
theorem wo_c {h : mu_H} {t R : Nat} (hN : 3000 ≤ N) (ht : t < 3) (hR : R < 16) : ∃ h', f_PRd_setAsWithout N h (nI t) (nI R) = some h' ∧ Wo t R h h' (nkL t) := by
  obtain ⟨s1, s2, s3⟩ := sv0_t ht
  obtain ⟨h', e1, W⟩ := wo_L (N := N) (h0 := h) ht hR (nkL t) 0 N h (by omega) (by omega) ⟨sc_refl, fun k hk => by omega, fun _ _ => rfl⟩
  refine ⟨h', ?_, W⟩
  rw [f_PRd_setAsWithout, ix_nI (by omega) (by decide), gd_t, bn_eq, nI_clamp (by omega), s1]
  exact e1
def Wm (t B Q : Nat) (h h' : mu_H) (j : Nat) : Prop := (∀ x, x ≠ Q → h'.1 x = h.1 x) ∧ (∀ k, k < j → h'.1 Q (B + k) = nI (wiL t k)) ∧ ∀ i, i < B → h'.1 Q i = h.1 Q i
theorem Wm_s {t B Q j : Nat} {h0 h : mu_H} (hW : Wm t B Q h0 h j) : Wm t B Q h0 (ui h Q (B + j) (nI (wiL t j))) (j + 1) := by
  obtain ⟨w1, w2, w3⟩ := hW
  refine ⟨fun x hx => by rw [ui_n hx]; exact w1 x hx, fun k hk => ?_, fun i hi => by rw [ui_s, upd_n (by omega)]; exact w3 i hi⟩
  rw [ui_s]
  by_cases c : k = j
  · rw [c, upd_s]
  · rw [upd_n (by omega)]; exact w2 k (by omega)
theorem us_L {h0 : mu_H} {t B Q nQ : Nat} {k1 : mu_H → Option mu_H} (ht : t < 3) (hB : B + nkL t ≤ nQ) (hnQ : nQ < 1000) : ∀ e j g h, j + e = nkL t → e < g → Wm t B Q h0 h j → ∃ h', lp (f_Mod_items_L3 N (nI (chL t)) Q nQ (nI B) (nI (nkL t)) k1) g (nI j, h) = k1 h' ∧ Wm t B Q h0 h' (nkL t) := by
  have k5 := nk5 (t := t)
  intro e
  induction e with
  | zero =>
    intro j g h hj hg hW
    obtain ⟨g, rfl⟩ : ∃ q, g = q + 1 := ⟨g - 1, by omega⟩
    have : j = nkL t := by omega
    subst this
    refine ⟨h, ?_, hW⟩
    rw [lp_1, f_Mod_items_L3, if_pos ((nI_leI (by omega) (by omega)).mpr (Nat.le_refl _))]
  | succ e ih =>
    intro j g h hj hg hW
    obtain ⟨g, rfl⟩ : ∃ q, g = q + 1 := ⟨g - 1, by omega⟩
    obtain ⟨h', e1, W'⟩ := ih (j + 1) g (ui h Q (B + j) (nI (wiL t j))) (by omega) (by omega) (Wm_s hW)
    refine ⟨h', ?_, W'⟩
    rw [lp_1, f_Mod_items_L3, if_neg (fun w => by have := (nI_leI (by omega) (by omega)).mp w; omega), usual_m ht (by omega), bd_some, nI_add, ix_nI (by omega) (by omega), gd_t, bn_eq, nI_clamp (by omega), nI_1]
    exact e1
/-- the items of a clause, with what is without them -/
theorem items_2 (hTc : Tc hc0 z T) (hTm : Tm hm0 z T) (hN : 3000 ≤ N) {t R B Q nQ rl a b a' b' p : Nat} {hc hm : mu_H} (ht : t < 3) (hR : R < 16) (hQ : Q = 62 ∨ Q = 63 ∨ Q = 64) (hB : B + nkL t ≤ nQ) (hnQ : nQ < 1000) (hC : PC hc0 hc p rl a b) (hM : PM hm0 hm p a' b') (hp : p ≤ z) : RI hc0 hm0 z T t R B Q rl a b a' b' p hc hm ((f_PRd_setAsWithout N hc (nI t) (nI R)).bind fun h10 => lp (f_PRd_readClause_L72 N (nI t) (nI R)) N (0, 0, h10)) (f_Mod_items N hm (nI (chL t)) Q nQ (nI B) (nI (nkL t))) := by
  have hz := hTc.1
  obtain ⟨hc1, e1, w1, w2, w3⟩ := wo_c (N := N) (h := hc) hN ht hR
  obtain ⟨hm1, e2, v1, v2, v3⟩ := us_L (N := N) (h0 := hm) (t := t) (B := B) (Q := Q) (nQ := nQ) (k1 := fun h2 => bi (f_Mod_look N h2) fun x3 h4 => (f_Mod_itemOf N h4 (nI (chL t)) x3).bind fun x6 => lp (f_Mod_items_L41 N (nI (chL t)) Q nQ (nI B)) N (0, x6, h4)) ht hB hnQ (nkL t) 0 N hm (by omega) (by have := nk5 (t := t); omega) ⟨fun _ _ => rfl, fun k hk => by omega, fun _ _ => rfl⟩
  have e2 : f_Mod_items N hm (nI (chL t)) Q nQ (nI B) (nI (nkL t)) = _ := e2
  rw [e1, bd_some, e2]
  have C1 : PC hc0 hc1 p rl a b := by
    obtain ⟨h1, h2, h3, h4, h5⟩ := hC
    exact ⟨sc_trans h1 (sc_mono w1 (by decide)), by rw [w1 6 (by decide)]; exact h2, by rw [w1 6 (by decide)]; exact h3, by rw [w1 7 (by decide)]; exact h4, by rw [w1 7 (by decide)]; exact h5⟩
  have M1 : PM hm0 hm1 p a' b' := by
    obtain ⟨h1, h2, h3, h4, h5⟩ := hM
    have e5 : hm1.1 51 = hm.1 51 := v1 51 (by omega)
    refine ⟨sM_trans h1 ⟨fun c hc _ => v1 c (fun q => hc (by rw [q]; simp only [List.mem_cons, List.not_mem_nil, or_false]; omega)), fun k _ => by rw [e5]⟩, by rw [e5]; exact h2, by rw [e5]; exact h3, by rw [e5]; exact h4, by rw [e5]; exact h5⟩
  have hRw : Rw t (hc1.1 8) R (hm1.1 Q) B := by
    intro k hk
    obtain ⟨t1, t2, t3, t4, t5, t6, t7⟩ := tab_c ht hk
    exact ⟨wiL t k, t4, t5, w2 k hk, v2 k hk⟩
  have hF : FI R B Q hc hm hc1 hm1 := ⟨w3, fun x h1 _ => v1 x h1, v3⟩
  have hr := items_L hTc hTm hN (nQ := nQ) ht hR hQ hB hnQ (z - p) p 0 0 hc1 hm1 N N rfl (by omega) (by omega) C1 M1 hp (by omega) (by omega) hRw
  rw [Nat.zero_mul] at hr
  rcases hr with ⟨e, hc', hm', y1, y2, y3, y4, y5⟩ | ⟨q2, hc', hm', y1, y2, y3, y4, y5, y6, y7, y8, y9⟩
  · exact Or.inl ⟨e, hc', hm', y1, y2, y3, y4, y5⟩
  · exact Or.inr ⟨q2, hc', hm', y1, y2, y3, y4, y5, y6, y7, y8, FI_trans hF y9⟩
/-- what was read, alike -/
def RD (hc hm : mu_H) (a b : Nat) : Prop := Rw 0 (hc.1 8) 0 (hm.1 62) 0 ∧ (∀ r, r < a → Rw 1 (hc.1 8) (1 + r) (hm.1 63) (5 * r)) ∧ ∀ r, r < b → Rw 2 (hc.1 8) (10 + r) (hm.1 64) (3 * r)
def lpE (h : mu_H) (r : Nat) : Prop := h.1 8 (5 * (1 + r) + 0) = h.1 8 (5 * (1 + r) + 1)
theorem loop_c {h : mu_H} {a : Nat} (ha : a ≤ 9) (e : h.1 7 2 = nI a) : ∀ d r g, r + d = a → d < g → ((∀ x, r ≤ x → x < a → ¬ lpE h x) → lp (f_Par_hasLoop_L2 N h 7) g (nI r) = some 0) ∧ ((∃ x, r ≤ x ∧ x < a ∧ lpE h x) → lp (f_Par_hasLoop_L2 N h 7) g (nI r) = some 1) := by
  intro d
  induction d with
  | zero =>
    intro r g hr hg
    obtain ⟨g, rfl⟩ : ∃ q, g = q + 1 := ⟨g - 1, by omega⟩
    rw [lp_1, f_Par_hasLoop_L2, e, if_pos ((nI_leI (by omega) (by omega)).mpr (by omega))]
    exact ⟨fun _ => rfl, fun ⟨x, h1, h2, _⟩ => by omega⟩
  | succ d ih =>
    intro r g hr hg
    obtain ⟨g, rfl⟩ : ∃ q, g = q + 1 := ⟨g - 1, by omega⟩
    have o0 : f_Par_ofStretch N h 7 (nI r) 0 = some (h.1 8 (5 * (1 + r) + 0)) := ofS (k := 0) (by omega) (by decide)
    have o1 : f_Par_ofStretch N h 7 (nI r) 1 = some (h.1 8 (5 * (1 + r) + 1)) := ofS (k := 1) (by omega) (by decide)
    rw [lp_1, f_Par_hasLoop_L2, e, if_neg (fun w => by have := (nI_leI (by omega) (by omega)).mp w; omega), o0, bd_some, o1, bd_some, nI_1]
    obtain ⟨i1, i2⟩ := ih (r + 1) g (by omega) (by omega)
    by_cases c : lpE h r
    · have c' : h.1 8 (5 * (1 + r) + 0) = h.1 8 (5 * (1 + r) + 1) := c
      rw [if_pos c']
      exact ⟨fun w => absurd c (w r (Nat.le_refl r) (by omega)), fun _ => rfl⟩
    · have c' : ¬ h.1 8 (5 * (1 + r) + 0) = h.1 8 (5 * (1 + r) + 1) := c
      rw [if_neg c']
      refine ⟨fun w => i1 (fun x h1 h2 => w x (by omega) h2), fun ⟨x, h1, h2, h3⟩ => i2 ⟨x, ?_, h2, h3⟩⟩
      by_cases cx : x = r
      · rw [cx] at h3; exact absurd h3 c
      · omega
theorem rw_eq {hc hm : mu_H} {r : Nat} (h : Rw 1 (hc.1 8) (1 + r) (hm.1 63) (5 * r)) : hm.1 63 (5 * r + 0) = hc.1 8 (5 * (1 + r) + 0) ∧ hm.1 63 (5 * r + 1) = hc.1 8 (5 * (1 + r) + 1) := by
  obtain ⟨v, -, -, e1, e2⟩ := h 0 (by decide)
  obtain ⟨w, -, -, e3, e4⟩ := h 1 (by decide)
  exact ⟨by rw [e2, e1], by rw [e4, e3]⟩
theorem whole_m {hc hm : mu_H} {a : Nat} (ha : a ≤ 9) (e : hm.1 51 20 = nI a) (hR : ∀ r, r < a → Rw 1 (hc.1 8) (1 + r) (hm.1 63) (5 * r)) : ∀ d r g, r + d = a → d < g → (lp (f_Mod_isWhole_L22 hm) g (0, nI r) = some 0) ∧ ((∀ x, r ≤ x → x < a → ¬ lpE hc x) → lp (f_Mod_isWhole_L22 hm) g (1, nI r) = some 1) ∧ ((∃ x, r ≤ x ∧ x < a ∧ lpE hc x) → lp (f_Mod_isWhole_L22 hm) g (1, nI r) = some 0) := by
  have z0 : zb 0 = true := rfl
  have z1 : zb 1 = true := rfl
  have h10 : ¬ (1 : Int32) = 0 := by decide
  intro d
  induction d with
  | zero =>
    intro r g hr hg
    obtain ⟨g, rfl⟩ : ∃ q, g = q + 1 := ⟨g - 1, by omega⟩
    rw [lp_1, lp_1, f_Mod_isWhole_L22, f_Mod_isWhole_L22, e, if_pos ((nI_leI (by omega) (by omega)).mpr (by omega)), if_pos ((nI_leI (by omega) (by omega)).mpr (by omega)), z0, z1, gd_t, gd_t]
    exact ⟨rfl, fun _ => rfl, fun ⟨x, h1, h2, _⟩ => by omega⟩
  | succ d ih =>
    intro r g hr hg
    obtain ⟨g, rfl⟩ : ∃ q, g = q + 1 := ⟨g - 1, by omega⟩
    obtain ⟨i0, i1, i2⟩ := ih (r + 1) g (by omega) (by omega)
    obtain ⟨q1, q2⟩ := rw_eq (hR r (by omega))
    have s1 : 5 * nI r + 0 = nI (5 * r + 0) := by
      rw [show (5 : Int32) = nI 5 from rfl, pk_mul, show (0 : Int32) = nI 0 from rfl, nI_add]
    have s2 : 5 * nI r + 1 = nI (5 * r + 1) := by
      rw [show (5 : Int32) = nI 5 from rfl, pk_mul, show (1 : Int32) = nI 1 from rfl, nI_add]
    have nl : (nI a ≤ nI r) = False := eq_false (fun w => by have := (nI_leI (by omega) (by omega)).mp w; omega)
    have j1 : ix (nI (5 * r + 0)) 45 = true := ix_nI (by omega) (by decide)
    have j2 : ix (nI (5 * r + 1)) 45 = true := ix_nI (by omega) (by decide)
    have k1 := nI_clamp (show 5 * r + 0 < 2147483648 by omega)
    have k2 := nI_clamp (show 5 * r + 1 < 2147483648 by omega)
    have st : ∀ rec : Int32 × Int32 → Option Int32, f_Mod_isWhole_L22 hm rec (1, nI r) = if hc.1 8 (5 * (1 + r) + 0) = hc.1 8 (5 * (1 + r) + 1) then rec (0, nI (r + 1)) else rec (1, nI (r + 1)) := by
      intro rec
      simp only [f_Mod_isWhole_L22, e, nl, ↓reduceIte, jn_eq, h10, s1, s2, j1, j2, gd_t, k1, k2, q1, q2, nI_1]
    have st0 : ∀ rec : Int32 × Int32 → Option Int32, f_Mod_isWhole_L22 hm rec (0, nI r) = rec (0, nI (r + 1)) := by
      intro rec
      simp only [f_Mod_isWhole_L22, e, nl, ↓reduceIte, jn_eq, nI_1]
    rw [lp_1, lp_1, st, st0]
    by_cases c : lpE hc r
    · have c' : hc.1 8 (5 * (1 + r) + 0) = hc.1 8 (5 * (1 + r) + 1) := c
      rw [if_pos c']
      exact ⟨i0, fun w => absurd c (w r (Nat.le_refl r) (by omega)), fun _ => i0⟩
    · have c' : ¬ hc.1 8 (5 * (1 + r) + 0) = hc.1 8 (5 * (1 + r) + 1) := c
      rw [if_neg c']
      refine ⟨i0, fun w => i1 (fun x h1 h2 => w x (by omega) h2), fun ⟨x, h1, h2, h3⟩ => i2 ⟨x, ?_, h2, h3⟩⟩
      by_cases cx : x = r
      · rw [cx] at h3; exact absurd h3 c
      · omega
def okW (hc : mu_H) (a b : Nat) : Prop := 0 < a ∧ 0 < b ∧ ∀ r, r < a → ¬ lpE hc r
def k7C (N : Nat) (h8 : mu_H) : Option (Int32 × mu_H) := (f_Par_stretches N h8 7).bind fun x9 => if x9 ≤ 0 then (f_Tap_size N h8).bind fun x12 => some (x12, h8) else (f_Par_houses N h8 7).bind fun x14 => if x14 ≤ 0 then (f_Tap_size N h8).bind fun x12 => some (x12, h8) else (f_Par_hasLoop N h8 7).bind fun x15 => if x15 = 0 then some (-1, h8) else (f_Tap_size N h8).bind fun x12 => some (x12, h8)
theorem fin_c (hTc : Tc hc0 z T) (hN : 3000 ≤ N) {h : mu_H} {p rl a b : Nat} (hC : PC hc0 h p rl a b) (ha : a ≤ 9) (hb : b ≤ 6) : (okW h a b → k7C N h = some (-1, h)) ∧ (¬ okW h a b → k7C N h = some (nI z, h)) := by
  obtain ⟨h1, h2, h3, h4, h5⟩ := hC
  have hz : h.1 1 1 = nI z := (Tc_fr h1 (by decide) (by decide) hTc).2.1
  obtain ⟨l1, l2⟩ := loop_c (N := N) ha h4 a 0 N (by omega) (by omega)
  have l1 : (∀ x, 0 ≤ x → x < a → ¬ lpE h x) → f_Par_hasLoop N h 7 = some 0 := l1
  have l2 : (∃ x, 0 ≤ x ∧ x < a ∧ lpE h x) → f_Par_hasLoop N h 7 = some 1 := l2
  rw [k7C, f_Par_stretches, h4, bd_some, f_Tap_size, hz, bd_some, f_Par_houses, h5, bd_some]
  by_cases c1 : a = 0
  · rw [if_pos ((nI_le0 (by omega)).mpr c1)]
    exact ⟨fun w => absurd w.1 (by omega), fun _ => rfl⟩
  rw [if_neg (fun w => c1 ((nI_le0 (by omega)).mp w))]
  by_cases c2 : b = 0
  · rw [if_pos ((nI_le0 (by omega)).mpr c2)]
    exact ⟨fun w => absurd w.2.1 (by omega), fun _ => rfl⟩
  rw [if_neg (fun w => c2 ((nI_le0 (by omega)).mp w))]
  by_cases c3 : ∃ x, 0 ≤ x ∧ x < a ∧ lpE h x
  · rw [l2 c3, bd_some, if_neg (show ¬ (1 : Int32) = 0 by decide)]
    obtain ⟨x, -, x1, x2⟩ := c3
    exact ⟨fun w => absurd x2 (w.2.2 x x1), fun _ => rfl⟩
  · have c4 : ∀ x, 0 ≤ x → x < a → ¬ lpE h x := fun x x0 x1 x2 => c3 ⟨x, x0, x1, x2⟩
    rw [l1 c4, bd_some, if_pos rfl]
    exact ⟨fun _ => rfl, fun w => absurd ⟨by omega, by omega, fun x x1 => c4 x (Nat.zero_le x) x1⟩ w⟩
theorem fin_m (hN : 3000 ≤ N) {hc hm : mu_H} {a b : Nat} (e1 : hm.1 51 20 = nI a) (e2 : hm.1 51 21 = nI b) (ha : a ≤ 9) (hb : b ≤ 6) (hR : ∀ r, r < a → Rw 1 (hc.1 8) (1 + r) (hm.1 63) (5 * r)) : (okW hc a b → f_Mod_isWhole N hm = some 1) ∧ (¬ okW hc a b → f_Mod_isWhole N hm = some 0) := by
  obtain ⟨l0, l1, l2⟩ := whole_m ha e1 hR a 0 N (by omega) (by omega)
  have l0 : lp (f_Mod_isWhole_L22 hm) N (0, 0) = some 0 := l0
  have l1 : (∀ x, 0 ≤ x → x < a → ¬ lpE hc x) → lp (f_Mod_isWhole_L22 hm) N (1, 0) = some 1 := l1
  have l2 : (∃ x, 0 ≤ x ∧ x < a ∧ lpE hc x) → lp (f_Mod_isWhole_L22 hm) N (1, 0) = some 0 := l2
  have eW : f_Mod_isWhole N hm = if nI a ≤ 0 then lp (f_Mod_isWhole_L22 hm) N (0, 0) else if nI b ≤ 0 then lp (f_Mod_isWhole_L22 hm) N (0, 0) else lp (f_Mod_isWhole_L22 hm) N (1, 0) := by
    simp only [f_Mod_isWhole, jn_eq, e1, e2]
  rw [eW]
  by_cases c1 : a = 0
  · rw [if_pos ((nI_le0 (by omega)).mpr c1)]
    exact ⟨fun w => absurd w.1 (by omega), fun _ => l0⟩
  rw [if_neg (fun w => c1 ((nI_le0 (by omega)).mp w))]
  by_cases c2 : b = 0
  · rw [if_pos ((nI_le0 (by omega)).mpr c2)]
    exact ⟨fun w => absurd w.2.1 (by omega), fun _ => l0⟩
  rw [if_neg (fun w => c2 ((nI_le0 (by omega)).mp w))]
  by_cases c3 : ∃ x, 0 ≤ x ∧ x < a ∧ lpE hc x
  · obtain ⟨x, x0, x1, x2⟩ := c3
    exact ⟨fun w => absurd x2 (w.2.2 x x1), fun _ => l2 ⟨x, x0, x1, x2⟩⟩
  · have c4 : ∀ x, 0 ≤ x → x < a → ¬ lpE hc x := fun x x0 x1 x2 => c3 ⟨x, x0, x1, x2⟩
    exact ⟨fun _ => l1 c4, fun w => absurd ⟨by omega, by omega, fun x x1 => c4 x (Nat.zero_le x) x1⟩ w⟩
end Pwhole
