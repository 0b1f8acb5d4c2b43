/-! a day's worth; does -/
theorem P_ct {hc hm : mu_H} {s u a : Nat} (hp : Ipar (mg hc hm) s u) (ha : a < u) : ct hc a ≤ 9 ∧ zl hc a ≤ 9 ∧ hc.1 4 (5 * (10 + a) + 1) = nI (ct hc a) ∧ hc.1 4 (5 * (10 + a) + 2) = nI (zl hc a) ∧ hm.1 67 (3 * a + 1) = nI (ct hc a) ∧ hm.1 67 (3 * a + 2) = nI (zl hc a) := by
  obtain ⟨h1, -, h2, h3⟩ := hp.2.2.2.2.2.2.2.2.2.1 a ha
  obtain ⟨a1, a2⟩ := bN_tn (x := hc.1 4 (5 * (10 + a) + 1)) h2 (by decide)
  obtain ⟨b1, b2⟩ := bN_tn (x := hc.1 4 (5 * (10 + a) + 2)) h3 (by decide)
  exact ⟨a1, b1, a2, b2, (h1 1 (by decide)).trans a2, (h1 2 (by decide)).trans b2⟩
theorem ofH1 {N : Nat} {h : mu_H} {a : Nat} (ha : a < 6) : f_Par_ofHouse N h 3 (nI a) 1 = some (h.1 4 (5 * (10 + a) + 1)) := ofH (k := 1) ha (by decide)
theorem ofH2 {N : Nat} {h : mu_H} {a : Nat} (ha : a < 6) : f_Par_ofHouse N h 3 (nI a) 2 = some (h.1 4 (5 * (10 + a) + 2)) := ofH (k := 2) ha (by decide)
theorem mofH1 {N : Nat} {h : mu_H} {a : Nat} (ha : a < 6) : f_Mod_ofHouse N h (nI a) 1 = some (h.1 67 (3 * a + 1)) := mofH (k := 1) ha (by decide)
theorem mofH2 {N : Nat} {h : mu_H} {a : Nat} (ha : a < 6) : f_Mod_ofHouse N h (nI a) 2 = some (h.1 67 (3 * a + 2)) := mofH (k := 2) ha (by decide)
/-- the six letters, written -/
def six (F : Nat → Int32) (G : Nat → Int32) : Nat → Int32 := upd (upd (upd (upd (upd (upd G 0 (F 0)) 1 (F 1)) 2 (F 2)) 3 (F 3)) 4 (F 4)) 5 (F 5)
theorem six_i {F G : Nat → Int32} {i : Nat} (hi : i < 6) : six F G i = F i := by
  rcases (show i = 0 ∨ i = 1 ∨ i = 2 ∨ i = 3 ∨ i = 4 ∨ i = 5 by omega) with rfl | rfl | rfl | rfl | rfl | rfl <;> simp [six, upd]
theorem ltr_N {h : mu_H} {a r w : Nat} (h1 : ct h a ≤ 9) (h2 : zl h a ≤ 9) (h3 : dst h a r < 8) (h4 : w ≤ 99) (h5 : bN (h.1 15 (9 + r)) 9) : ∀ i, i < 6 → isN (ltr h a r w i) := by
  have hn : ∀ n, n ≤ 99 → isN (nI n) := fun n hn => ⟨by rw [nI_toInt (by omega)]; omega, by rw [nI_toInt (by omega)]; omega⟩
  intro i hi
  obtain ⟨we, hwe, e⟩ := h5
  rw [ltr]
  split
  · exact hn _ (by omega)
  · split
    · exact hn _ (by omega)
    · split
      · exact hn _ (by omega)
      · split
        · exact hn _ h4
        · split
          · rw [e]; exact hn _ (by omega)
          · exact hn _ (by omega)
theorem cl99_d (x : Int32) {α : Type} (h : α) : (if 0 ≤ x then (if x ≤ 99 then (x, h) else (99, h)) else (0, h)) = (nI (cl99 x), h) := by
  have := cl99_c x h
  simp only [ite_some, Option.some.injEq] at this
  exact this
theorem own_c {N s u : Nat} {hc hm : mu_H} {o : Option (List Cla)} (hN : 3000 ≤ N) (hp : Ipar (mg hc hm) s u) (hl : HL hc hm o) (hnow : Ist s u (hc.1 15) (hc.1 16) (hm.1 68)) {a r w : Nat} (ha : a < u) (hr : r < s) (hw : w ≤ 99) (hcm : cme hc a r = true) : ∃ hc', f_Lab_ownDay N hc (nI a) (nI r) (nI w) = some (nI (ownv hc o a r w), hc') ∧ sc [26, 29, 32, 35, 36] hc hc' ∧ hc'.2 = hc.2 := by
  have h9 := hp.1
  have h6 := hp.2.1
  obtain ⟨c1, c2, c3, c4, -, -⟩ := P_ct hp ha
  obtain ⟨-, hwe, -⟩ := hnow.2.2.2.2.1 r (by omega)
  obtain ⟨n, hn, n31, -, -, -⟩ := hnow.2.2.2.1
  rcases far3 hp N ha hr with ⟨-, d, f1, -⟩ | ⟨c, -, -⟩
  rotate_left
  · rw [c] at hcm; exact absurd hcm (by decide)
  have hst : ∀ h' : mu_H, h'.1 4 = hc.1 4 → h'.1 5 = hc.1 5 → f_Par_stepsTo N h' 3 (nI a) (nI r) = some (nI (dst hc a r)) := by
    intro h' e4 e5
    rw [← f1]
    simp only [f_Par_stepsTo, f_Par_ofHouse, f_Par_ofStretch, e4, e5]
  cases o with
  | none =>
    obtain ⟨l1, -⟩ := hl
    refine ⟨hc, ?_, sc_refl, rfl⟩
    simp only [f_Lab_ownDay, ofH1 (show a < 6 by omega), c3, bd_some, f1, bn_eq, jn_eq, l1, show ((-1 : Int32) < 0) = True from eq_true (by decide), if_true]
    exact cl99_c _ _
  | some cs =>
    obtain ⟨j, hj, l1, -, l3, l4, l5, -, -, l8⟩ := hl
    have hLN := ltr_N c1 c2 d hw hwe
    have ht31 : tn (hc.1 15 31) = n := by rw [n31]; exact tn_n (by omega)
    obtain ⟨F, hF⟩ : ∃ F, F = six (ltr hc a r w) (hc.1 36) := ⟨_, rfl⟩
    have hH : ui (ui (ui (ui (ui (ui hc 36 0 (nI (ct hc a))) 36 1 (nI (zl hc a))) 36 2 (nI (dst hc a r))) 36 3 (nI w)) 36 4 (hc.1 15 (9 + r))) 36 5 (nI (n % 4)) = ur hc 36 F := by
      rw [hF, six, show ui hc 36 0 (nI (ct hc a)) = ur hc 36 (upd (hc.1 36) 0 (nI (ct hc a))) from rfl, ui_ur, ui_ur, ui_ur, ui_ur, ui_ur]
      simp only [ltr, ht31]
      rfl
    have hv := worth_c (N := N) (o := 24 + 3 * j) (h := ur hc 36 F) (L := ltr hc a r w) (C := F) (len := 0) hN (by omega) (by rw [ur_n (by omega)]; exact l3) l4 (fun i hi => by rw [ur_1, hF]; exact six_i hi) hLN (by rw [ur_n (by omega)]; exact l5) l8
    obtain ⟨S', hv⟩ := hv
    refine ⟨ur (ur hc 36 F) (24 + 3 * j + 2) S', ?_, ?_, rfl⟩
    · have z0 : (0 : Int32).toNatClampNeg = 0 := rfl
      have z1 : (1 : Int32).toNatClampNeg = 1 := rfl
      have z2 : (2 : Int32).toNatClampNeg = 2 := rfl
      have z3 : (3 : Int32).toNatClampNeg = 3 := rfl
      have z4 : (4 : Int32).toNatClampNeg = 4 := rfl
      have z5 : (5 : Int32).toNatClampNeg = 5 := rfl
      have z31 : (31 : Int32).toNatClampNeg = 31 := rfl
      have i0 : ix 0 6 = true := rfl
      have i1 : ix 1 6 = true := rfl
      have i2 : ix 2 6 = true := rfl
      have i3 : ix 3 6 = true := rfl
      have i4 : ix 4 6 = true := rfl
      have i5 : ix 5 6 = true := rfl
      have i31 : ix 31 34 = true := rfl
      have h4 : n - n / 4 * 4 = n % 4 := by omega
      have g4 : ∀ (x : mu_H) (k : Nat) (y : Int32), (ui x 36 k y).1 4 = x.1 4 := fun _ _ _ => rfl
      have g15 : ∀ (x : mu_H) (k : Nat) (y : Int32), (ui x 36 k y).1 15 = x.1 15 := fun _ _ _ => rfl
      have g22 : ∀ (x : mu_H) (k : Nat) (y : Int32), (ui x 36 k y).1 22 = x.1 22 := fun _ _ _ => rfl
      have n0 : ¬ nI j < 0 := nI_pos (by omega)
      have hN4 : nI n - nI n / 4 * 4 = nI (n % 4) := by
        simp (disch := omega) only [↓bn_eq, ↓jn_eq, ↓reduceIte, gd_t, bd_some, bn_eq, jn_eq, bi_some, if_pos, if_neg, i10, nI_lt_i, nI_le_i, nI_eq_i, ll_le, ll_lt, ll_eq, lr_le, lr_lt, lr_eq, ix_n, nI_clamp, nI_add, add_l, add_r, nI_mul, mul_l, mul_r, sub_n, sub_r, div_r, ite_some, if_true, if_false, and_self, and_true, true_and, false_and, and_false, Nat.reduceAdd, Nat.reduceMul, not_false_iff, not_true, h4]
      simp only [f_Lab_ownDay, ofH1 (show a < 6 by omega), ofH2 (show a < 6 by omega), c3, c4, bd_some, f1, ↓bn_eq, ↓jn_eq, l1, n0, if_false, wetS (o := 14) (show r < 9 by omega), f_Sta_season, gd_t, i0, i1, i2, i3, i4, i5, i31, z0, z1, z2, z3, z4, z5, z31, g4, g15, g22, n31, hN4, Nat.reduceAdd]
      rw [hH]
      simp (disch := omega) only [↓bn_eq, ↓jn_eq, ↓reduceIte, gd_t, bd_some, bn_eq, jn_eq, bi_some, if_pos, if_neg, i10, nI_lt_i, nI_le_i, nI_eq_i, ll_le, ll_lt, ll_eq, lr_le, lr_lt, lr_eq, ix_n, nI_clamp, nI_add, add_l, add_r, nI_mul, mul_l, mul_r, sub_n, sub_r, div_r, ite_some, if_true, if_false, and_self, and_true, true_and, false_and, and_false, Nat.reduceAdd, Nat.reduceMul, not_false_iff, not_true, ur_g, l1, hv]
      exact congrArg some (cl99_d _ _)
    · have q : sc [26, 29, 32, 35, 36] hc (ur hc 36 F) := sc_ur (by decide)
      refine sc_trans q (sc_ur ?_)
      rcases (show j = 0 ∨ j = 1 ∨ j = 2 ∨ j = 3 by omega) with rfl | rfl | rfl | rfl <;> decide
theorem own_m {N s u : Nat} {hc hm : mu_H} {o : Option (List Cla)} (hN : 3000 ≤ N) (hp : Ipar (mg hc hm) s u) (hl : HL hc hm o) (hnow : Ist s u (hc.1 15) (hc.1 16) (hm.1 68)) {a r w k : Nat} (ha : a < u) (hr : r < s) (hw : w ≤ 99) (hk : k < 2) (hcm : cme hc a r = true) : ∃ hm', f_Mod_doesBy N hm (nI a) (nI r) (nI k) (nI w) = some (nI (efv hc o a r k w), hm') ∧ sM [60, 61] [] hm hm' ∧ hm'.2 = hm.2 := by
  have h9 := hp.1
  have h6 := hp.2.1
  obtain ⟨c1, c2, -, -, c3, c4⟩ := P_ct hp ha
  obtain ⟨-, hwe, -⟩ := hnow.2.2.2.2.1 r (by omega)
  have ewe : hm.1 68 (9 + r) = hc.1 15 (9 + r) := (hnow.1 (9 + r) (by omega)).symm
  obtain ⟨n, hn, n31, -, -, -⟩ := hnow.2.2.2.1
  have n32 : hm.1 68 32 = nI n := hnow.2.2.1.symm.trans n31
  have ht31 : tn (hc.1 15 31) = n := by rw [n31]; exact tn_n (by omega)
  rcases far3 hp N ha hr with ⟨-, d, -, f1⟩ | ⟨c, -, -⟩
  rotate_left
  · rw [c] at hcm; exact absurd hcm (by decide)
  have z32 : (32 : Int32).toNatClampNeg = 32 := rfl
  have i32 : ix 32 214 = true := rfl
  have h4 : n - n / 4 * 4 = n % 4 := by omega
  have hN4 : nI n - nI n / 4 * 4 = nI (n % 4) := by
    simp (disch := omega) only [↓bn_eq, ↓jn_eq, ↓reduceIte, gd_t, bd_some, bn_eq, jn_eq, bi_some, if_pos, if_neg, i10, nI_lt_i, nI_le_i, nI_eq_i, ll_le, ll_lt, ll_eq, lr_le, lr_lt, lr_eq, ix_n, nI_clamp, nI_add, add_l, add_r, nI_mul, mul_l, mul_r, sub_n, sub_r, div_r, ite_some, if_true, if_false, and_self, and_true, true_and, false_and, and_false, Nat.reduceAdd, Nat.reduceMul, not_false_iff, not_true, h4]
  have k2 : ¬ nI k = 2 := fun q => by
    have := nI_inj (a := k) (b := 2) (by omega) (by decide) q
    omega
  have kd : ∀ v, v ≤ 99 → nI v / (nI k + 1) = nI (v / (k + 1)) := fun v hv => by
    rw [nI_1]
    exact pk_div (by omega) (by omega) (by omega)
  have kz : decide (¬ nI k + 1 = 0) = true := by
    rw [decide_eq_true_eq, nI_1]
    exact nI_ne0 (by omega) (by omega)
  have ek : nI k = 0 ∨ nI k = 1 := by
    rcases (show k = 0 ∨ k = 1 by omega) with rfl | rfl
    · exact Or.inl rfl
    · exact Or.inr rfl
  have hif : ∀ A B : Option (Int32 × mu_H), (if nI k = 0 then A else if nI k = 1 then A else B) = A := by
    intro A B
    rcases ek with e | e
    · rw [if_pos e]
    · rw [if_pos e]; split <;> rfl
  have fin : ∀ h' : mu_H, h'.1 68 = hm.1 68 → ((f_Mod_isWinter N h' (h'.1 68 32)).bind fun x6 => if x6 = 0 then some (nI (ownv hc o a r w / (k + 1)), h') else some (nI (ownv hc o a r w / (k + 1)) / 2, h')) = some (nI (efv hc o a r k w), h') := by
    intro h' e
    have hle : ownv hc o a r w / (k + 1) ≤ 99 := Nat.le_trans (Nat.div_le_self _ _) (cl99_le _)
    rw [e, n32, f_Mod_isWinter, hN4, efv, ht31, if_neg (show ¬ k = 2 by omega), if_neg (show ¬ k = 3 by omega)]
    generalize ownv hc o a r w / (k + 1) = v at hle
    by_cases c : n % 4 = 3
    · rw [if_pos c, if_pos (by rw [c]; rfl), bd_some, if_neg (by decide)]
      rw [show nI v / 2 = nI (v / 2) from div_r (m := 2) (by decide) (by decide) (by omega)]
    · rw [if_neg c, if_neg (show ¬ nI (n % 4) = 3 from fun q => c (nI_inj (b := 3) (by omega) (by decide) q)), bd_some, if_pos rfl]
  cases o with
  | none =>
    obtain ⟨-, l1⟩ := hl
    refine ⟨hm, ?_, sM_refl, rfl⟩
    have ff := fin hm rfl
    rw [← ff]
    have e99 : z_mmax 0 (z_mmin 99 (2 * nI (ct hc a) - nI (dst hc a r))) = nI (ownv hc none a r w) := cl99_m _
    have hkd := kd (ownv hc none a r w) (cl99_le _)
    simp only [f_Mod_doesBy, jn_eq, if_neg k2, hif, mofH1 (show a < 6 by omega), c3, bd_some, f1, bn_eq, l1, e99, gd_t, i32, z32, kz, hkd, if_true]
  | some cs =>
    obtain ⟨j, hj, -, l1, -, l4, -, l6, l7, l8⟩ := hl
    have hLN := ltr_N c1 c2 d hw hwe
    obtain ⟨F, hF⟩ : ∃ F, F = six (ltr hc a r w) (hm.1 60) := ⟨_, rfl⟩
    have hH : ui (ui (ui (ui (ui (ui hm 60 0 (nI (ct hc a))) 60 1 (nI (zl hc a))) 60 2 (nI (dst hc a r))) 60 3 (nI w)) 60 4 (hc.1 15 (9 + r))) 60 5 (nI (n % 4)) = ur hm 60 F := by
      rw [hF, six, show ui hm 60 0 (nI (ct hc a)) = ur hm 60 (upd (hm.1 60) 0 (nI (ct hc a))) from rfl, ui_ur, ui_ur, ui_ur, ui_ur, ui_ur]
      simp only [ltr, ht31]
      rfl
    have hv := worth_m (N := N) (n := j) (h := ur hm 60 F) (L := ltr hc a r w) hN (by omega) l4 (fun i hi => by rw [ur_1, hF]; exact six_i hi) hLN (by rw [ur_n (by decide)]; exact l6) (by rw [ur_n (by decide), ur_n (by decide), ur_n (by decide), ur_n (by decide), ur_n (by decide)]; exact l7) l8
    obtain ⟨S', hv⟩ := hv
    refine ⟨ur (ur hm 60 F) 61 S', ?_, sM_trans (sM_ur (by decide) (by decide)) (sM_ur (by decide) (by decide)), rfl⟩
    have ff := fin (ur (ur hm 60 F) 61 S') (by rw [ur_n (by decide), ur_n (by decide)])
    rw [← ff]
    have z0 : (0 : Int32).toNatClampNeg = 0 := rfl
    have z1 : (1 : Int32).toNatClampNeg = 1 := rfl
    have z2 : (2 : Int32).toNatClampNeg = 2 := rfl
    have z3 : (3 : Int32).toNatClampNeg = 3 := rfl
    have z4 : (4 : Int32).toNatClampNeg = 4 := rfl
    have z5 : (5 : Int32).toNatClampNeg = 5 := rfl
    have i0 : ix 0 6 = true := rfl
    have i1 : ix 1 6 = true := rfl
    have i2 : ix 2 6 = true := rfl
    have i3 : ix 3 6 = true := rfl
    have i4 : ix 4 6 = true := rfl
    have i5 : ix 5 6 = true := rfl
    have i9 : ix (nI (9 + r)) 214 = true := ix_nI (by omega) (by decide)
    have e9 : 9 + nI r = nI (9 + r) := nI_add 9 r
    have t9 : (nI (9 + r)).toNatClampNeg = 9 + r := nI_clamp (by omega)
    have g67 : ∀ (x : mu_H) (k : Nat) (y : Int32), (ui x 60 k y).1 67 = x.1 67 := fun _ _ _ => rfl
    have g68 : ∀ (x : mu_H) (k : Nat) (y : Int32), (ui x 60 k y).1 68 = x.1 68 := fun _ _ _ => rfl
    have g51 : ∀ (x : mu_H) (k : Nat) (y : Int32), (ui x 60 k y).1 51 = x.1 51 := fun _ _ _ => rfl
    have gh : ∀ (x : mu_H) (k : Nat) (y : Int32), f_Mod_haulOf N (ui x 60 k y) (nI a) (nI r) = f_Mod_haulOf N x (nI a) (nI r) := fun _ _ _ => rfl
    have l1' : ¬ nI j = -1 := fun q => by rw [neg1 (by omega)] at q; exact q
    have e99 : z_mmax 0 (z_mmin 99 (lvs (ltr hc a r w) cs)) = nI (ownv hc (some cs) a r w) := cl99_m _
    have hkd := kd (ownv hc (some cs) a r w) (cl99_le _)
    have hv2 : f_Mod_worthOf N (ur hm 60 F) (nI j) = some (lvs (ltr hc a r w) cs, ur (ur hm 60 F) 61 S') := hv
    simp only [f_Mod_doesBy, ↓jn_eq, ↓bn_eq, if_neg k2, hif, if_false, mofH1 (show a < 6 by omega), mofH2 (show a < 6 by omega), c3, c4, bd_some, f1, l1, l1', e9, t9, i9, g67, g68, g51, gh, gd_t, i0, i1, i2, i3, i4, i5, z0, z1, z2, z3, z4, z5, i32, z32, n32, hN4, ewe, hH, hv2, bi_some, e99, kz, hkd]
