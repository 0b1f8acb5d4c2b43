/-! the parish's readers: numbers and items -/
section Pitem
variable {N z : Nat} {T : Nat → Nat} {hc0 hm0 : mu_H}
def PC (h0 h : mu_H) (p rl a b : Nat) : Prop := sc [6, 7, 8] h0 h ∧ h.1 6 3 = nI p ∧ h.1 6 2 = nI rl ∧ h.1 7 2 = nI a ∧ h.1 7 3 = nI b
def PM (h0 h : mu_H) (p a b : Nat) : Prop := sM [62, 63, 64] [3, 4, 20, 21] h0 h ∧ h.1 51 3 = nI p ∧ h.1 51 4 = -1 ∧ h.1 51 20 = nI a ∧ h.1 51 21 = nI b
def QC (h0 h : mu_H) (e : Nat) : Prop := sc [6, 7, 8] h0 h ∧ h.1 6 3 = nI e
def QM (h0 h : mu_H) (e : Nat) : Prop := sM [62, 63, 64] [3, 4, 20, 21] h0 h ∧ h.1 51 4 = nI e
theorem PC_Q {h : mu_H} {p rl a b : Nat} (hC : PC hc0 h p rl a b) : QC hc0 h p := ⟨hC.1, hC.2.1⟩
theorem PC_T {h : mu_H} {p rl a b : Nat} (hC : PC hc0 h p rl a b) (hT : Tc hc0 z T) : Tc h z T := Tc_fr hC.1 (by decide) (by decide) hT
theorem PM_T {h : mu_H} {p a b : Nat} (hM : PM hm0 h p a b) (hT : Tm hm0 z T) : Tm h z T := Tm_fr hM.1 (by decide) (by decide) hT
theorem PC_at {h : mu_H} {p q rl a b : Nat} (hC : PC hc0 h p rl a b) : PC hc0 (ui h 6 3 (nI q)) q rl a b := by
  obtain ⟨h1, h2, h3, h4, h5⟩ := hC
  exact ⟨sc_trans h1 (sc_ui (by decide)), by rw [ui_s, upd_s], by rw [ui_s, upd_n (by decide)]; exact h3, by rw [ui_n (by decide)]; exact h4, by rw [ui_n (by decide)]; exact h5⟩
theorem PC_8 {h : mu_H} {p rl a b i : Nat} {x : Int32} (hC : PC hc0 h p rl a b) : PC hc0 (ui h 8 i x) p rl a b := by
  obtain ⟨h1, h2, h3, h4, h5⟩ := hC
  exact ⟨sc_trans h1 (sc_ui (by decide)), by rw [ui_n (by decide)]; exact h2, by rw [ui_n (by decide)]; exact h3, by rw [ui_n (by decide)]; exact h4, by rw [ui_n (by decide)]; exact h5⟩
theorem PM_at {h : mu_H} {p q a b : Nat} (hM : PM hm0 h p a b) : PM hm0 (ui h 51 3 (nI q)) q a b := by
  obtain ⟨h1, h2, h3, h4, h5⟩ := hM
  exact ⟨sM_trans h1 (sM_u5 (by decide)), u5_s, by rw [u5_n (by decide)]; exact h3, by rw [u5_n (by decide)]; exact h4, by rw [u5_n (by decide)]; exact h5⟩
theorem PM_Q {h : mu_H} {p a b Q i : Nat} {x : Int32} (hQ : Q = 62 ∨ Q = 63 ∨ Q = 64) (hM : PM hm0 h p a b) : PM hm0 (ui h Q i x) p a b := by
  obtain ⟨h1, h2, h3, h4, h5⟩ := hM
  have n1 : 51 ≠ Q := by omega
  exact ⟨sM_trans h1 (sM_ui (by simp only [List.mem_cons, List.not_mem_nil, or_false]; omega) (by omega)), by rw [ui_n n1]; exact h2, by rw [ui_n n1]; exact h3, by rw [ui_n n1]; exact h4, by rw [ui_n n1]; exact h5⟩
theorem QM_Q {h : mu_H} {e Q i : Nat} {x : Int32} (hQ : Q = 62 ∨ Q = 63 ∨ Q = 64) (hM : QM hm0 h e) : QM hm0 (ui h Q i x) e := by
  obtain ⟨h1, h2⟩ := hM
  have n1 : 51 ≠ Q := by omega
  exact ⟨sM_trans h1 (sM_ui (by simp only [List.mem_cons, List.not_mem_nil, or_false]; omega) (by omega)), by rw [ui_n n1]; exact h2⟩
theorem QM_5 {h : mu_H} {e k : Nat} {x : Int32} (hk : k ∈ [3, 20, 21]) (hM : QM hm0 h e) : QM hm0 (ui h 51 k x) e := by
  obtain ⟨h1, h2⟩ := hM
  have k1 : k ∈ [3, 4, 20, 21] := by simp only [List.mem_cons, List.not_mem_nil, or_false] at hk ⊢; omega
  have k2 : 4 ≠ k := by simp only [List.mem_cons, List.not_mem_nil, or_false] at hk; omega
  exact ⟨sM_trans h1 (sM_u5 k1), by rw [u5_n k2]; exact h2⟩
theorem QM_w {h : mu_H} {e : Nat} (hM : QM hm0 h e) (he : e < 1000) : (h.1 51 4 = -1) = False := by rw [hM.2, neg1 (by omega)]
theorem PM_bad {h : mu_H} {p a b : Nat} (hM : PM hm0 h p a b) : ∃ h', f_Mod_bad N h = some h' ∧ QM hm0 h' p := by
  obtain ⟨h1, h2, h3, h4, h5⟩ := hM
  refine ⟨ui h 51 4 (nI p), ?_, sM_trans h1 (sM_u5 (by decide)), u5_s⟩
  simp only [f_Mod_bad, jn_eq, h3, bn_eq, h2, ↓reduceIte]
def KN (N : Nat) (a1 a2 a3 x7 : Int32) (h8 : mu_H) : Option (Int32 × mu_H) := (f_Tap_isDigit N h8 (h8.1 6 3)).bind fun x9 => if x9 = 0 then gd (ix a1 11) <| (if x7 < sv_3.getD a1.toNatClampNeg 0 then bn (ui h8 6 3 ((h8.1 6 3) - 1)) fun h11 => some (0, h11) else gd (ix a1 11) <| (if x7 ≤ sv_4.getD a1.toNatClampNeg 0 then (f_Par_set N h8 7 a2 a3 x7).bind fun h12 => some (1, h12) else bn (ui h8 6 3 ((h8.1 6 3) - 1)) fun h11 => some (0, h11))) else some (0, h8)
theorem rn_c {h : mu_H} {a1 a2 a3 : Int32} : f_PRd_readNumber N h a1 a2 a3 = (f_Tap_isDigit N h (h.1 6 3)).bind fun x1 => if x1 = 0 then some (0, h) else (f_Tap_sign N h (h.1 6 3)).bind fun x2 => bn (x2 - 48) fun x3 => bn (ui h 6 3 ((h.1 6 3) + 1)) fun h4 => (f_Tap_isDigit N h4 (h4.1 6 3)).bind fun x5 => if x5 = 0 then KN N a1 a2 a3 x3 h4 else (f_Tap_sign N h4 (h4.1 6 3)).bind fun x13 => bn (((x3 * 10) + x13) - 48) fun x14 => bn (ui h4 6 3 ((h4.1 6 3) + 1)) fun h15 => KN N a1 a2 a3 x14 h15 := rfl
def KV (N : Nat) (a1 a2 x11 : Int32) (h12 : mu_H) : Option (Int32 × mu_H) := (f_Mod_here N h12).bind fun x13 => (f_Mod_isDigit N h12 x13).bind fun x14 => if x14 = 0 then (f_Mod_in N h12 x11 a1 a2).bind fun x15 => if x15 = 0 then bn (ui h12 51 3 ((h12.1 51 3) - 1)) fun h16 => (f_Mod_bad N h16).bind fun h17 => some (x11, h17) else some (x11, h12) else (f_Mod_bad N h12).bind fun h18 => some (x11, h18)
theorem rn_m {h : mu_H} {a1 a2 : Int32} : f_Mod_number N h a1 a2 = bi (f_Mod_look N h) fun x1 h2 => (f_Mod_isDigit N h2 x1).bind fun x4 => if x4 = 0 then (f_Mod_bad N h2).bind fun h22 => some (a1, h22) else (f_Mod_here N h2).bind fun x5 => bn (x5 - 48) fun x6 => bn (ui h2 51 3 ((h2.1 51 3) + 1)) fun h7 => (f_Mod_here N h7).bind fun x8 => (f_Mod_isDigit N h7 x8).bind fun x9 => if x9 = 0 then KV N a1 a2 x6 h7 else (f_Mod_here N h7).bind fun x19 => bn (((10 * x6) + x19) - 48) fun x20 => bn (ui h7 51 3 ((h7.1 51 3) + 1)) fun h21 => KV N a1 a2 x20 h21 := rfl
/-- a number read: an error, or a value and a place -/
def RN (hc0 hm0 : mu_H) (z t k R q : Nat) (hc hm : mu_H) (X Y : Option (Int32 × mu_H)) : Prop :=
  (∃ e v hc' hm', e ≤ z ∧ X = some (0, hc') ∧ Y = some (v, hm') ∧ QC hc0 hc' e ∧ QM hm0 hm' e) ∨
  (∃ v q', q < q' ∧ q' ≤ z ∧ loL t k ≤ v ∧ v ≤ hiL t k ∧ X = some (1, ui (ui hc 6 3 (nI q')) 8 (5 * R + k) (nI v)) ∧ Y = some (nI v, ui hm 51 3 (nI q')))
theorem kn_2 (hTc : Tc hc0 z T) (hTm : Tm hm0 z T) {hc hm : mu_H} {p q rl a b a' b' t k R v : Nat} (hq : q ≤ z) (hpq : p < q) (ht : t < 3) (hk : k < nkL t) (hR : R < 16) (hv : v ≤ 99) (hC : PC hc0 (ui hc 6 3 (nI q)) q rl a b) (hM : PM hm0 (ui hm 51 3 (nI q)) q a' b') : RN hc0 hm0 z t k R p hc hm (KN N (nI (fL t + k)) (nI R) (nI k) (nI v) (ui hc 6 3 (nI q))) (KV N (nI (loL t k)) (nI (hiL t k)) (nI v) (ui hm 51 3 (nI q))) := by
  have hz := hTc.1
  have hs := sg_lt hTm q
  obtain ⟨t1, t2, t3, t4, t5, t6, t7⟩ := tab_c ht hk
  have k5 : k < 5 := by
    rcases (show t = 0 ∨ t = 1 ∨ t = 2 by omega) with rfl | rfl | rfl
    · have : k < 3 := hk; omega
    · have : k < 5 := hk; omega
    · have : k < 3 := hk; omega
  have d1 := digit_c (N := N) (PC_T hC hTc) (p := q) (by omega)
  have d2 := here_m (N := N) (PM_T hM hTm) hM.2.1 (by omega)
  have i1 : ix (nI (fL t + k)) 11 = true := ix_nI (by omega) (by decide)
  have c1 := nI_clamp (show fL t + k < 2147483648 by omega)
  have s1 : nI q - 1 = nI (q - 1) := sub_r (m := 1) (show 1 ≤ q by omega) (by omega)
  have eC : (ui hc 6 3 (nI q)).1 6 3 = nI q := hC.2.1
  have eM : (ui hm 51 3 (nI q)).1 51 3 = nI q := hM.2.1
  rw [KN, KV, eC, d1, bd_some, d2, bd_some, digit_m hs, bd_some]
  by_cases dd : isD (sg T z q) = true
  · rw [if_pos dd, if_neg (show ¬ (1 : Int32) = 0 by decide), if_neg (show ¬ (1 : Int32) = 0 by decide)]
    obtain ⟨h', e1, E1⟩ := PM_bad (N := N) hM
    exact Or.inl ⟨q, nI v, _, h', hq, rfl, by rw [e1, bd_some], PC_Q hC, E1⟩
  · rw [if_neg dd, if_pos rfl, if_pos rfl, i1, gd_t, c1, t1, t2, f_Mod_in]
    have bad : RN hc0 hm0 z t k R p hc hm (bn (ui (ui hc 6 3 (nI q)) 6 3 (nI q - 1)) fun h11 => some (0, h11)) (bn (ui (ui hm 51 3 (nI q)) 51 3 (nI q - 1)) fun h16 => (f_Mod_bad N h16).bind fun h17 => some (nI v, h17)) := by
      obtain ⟨h', e1, E1⟩ := PM_bad (N := N) (PM_at (q := q - 1) hM)
      rw [bn_eq, bn_eq, s1]
      exact Or.inl ⟨q - 1, nI v, _, h', by omega, rfl, by rw [e1, bd_some], PC_Q (PC_at hC), E1⟩
    by_cases c2 : v < loL t k
    · have x1 : nI v < nI (loL t k) := (nI_ltI (by omega) (by omega)).mpr c2
      rw [if_pos x1, if_pos x1, bd_some, if_pos rfl, eM]
      exact bad
    · have x1 : ¬ nI v < nI (loL t k) := fun w => c2 ((nI_ltI (by omega) (by omega)).mp w)
      rw [if_neg x1, gd_t, if_neg x1]
      by_cases c3 : v ≤ hiL t k
      · have x2 : nI v ≤ nI (hiL t k) := (nI_leI (by omega) (by omega)).mpr c3
        have x3 : ¬ nI (hiL t k) < nI v := fun w => by have := (nI_ltI (by omega) (by omega)).mp w; omega
        have st : f_Par_set N (ui hc 6 3 (nI q)) 7 (nI R) (nI k) (nI v) = some (ui (ui hc 6 3 (nI q)) 8 (5 * R + k) (nI v)) := by
          have e : nI R * 5 + nI k = nI (5 * R + k) := by
            rw [show (5 : Int32) = nI 5 from rfl, pk_mul, nI_add, Nat.mul_comm]
          rw [f_Par_set, if_neg (nI_pos (by omega)), if_neg (fun w => by have := (nI_leI (a := 16) (by decide) (by omega)).mp w; omega), if_neg (nI_pos (by omega)), if_neg (fun w => by have := (nI_leI (a := 5) (by decide) (by omega)).mp w; omega), e, ix_nI (by omega) (by decide), gd_t, bn_eq, nI_clamp (by omega)]
        rw [if_pos x2, if_neg x3, bd_some, if_neg (show ¬ (1 : Int32) = 0 by decide), st, bd_some]
        exact Or.inr ⟨v, q, hpq, hq, by omega, c3, rfl, rfl⟩
      · have x2 : ¬ nI v ≤ nI (hiL t k) := fun w => c3 ((nI_leI (by omega) (by omega)).mp w)
        have x3 : nI (hiL t k) < nI v := (nI_ltI (by omega) (by omega)).mpr (by omega)
        rw [if_neg x2, if_pos x3, bd_some, if_pos rfl, eM]
        exact bad
theorem pnum (hTc : Tc hc0 z T) (hTm : Tm hm0 z T) (hN : 3000 ≤ N) {hc hm : mu_H} {p rl a b a' b' t k R : Nat} (hp : p ≤ z) (ht : t < 3) (hk : k < nkL t) (hR : R < 16) (hC : PC hc0 hc (nb T z p) rl a b) (hM : PM hm0 hm p a' b') : RN hc0 hm0 z t k R p hc hm (f_PRd_readNumber N hc (nI (fL t + k)) (nI R) (nI k)) (f_Mod_number N hm (nI (loL t k)) (nI (hiL t k))) := by
  have hz := hTc.1
  obtain ⟨b1, b2, b3⟩ := nb_p (T := T) hp
  have hl := look_m (PM_T hM hTm) hN hM.2.1 hp
  have hs := sg_lt hTm (nb T z p)
  rw [rn_c, rn_m, hl, bi_some, hC.2.1]
  generalize nb T z p = q at *
  have M1 := PM_at (q := q) hM
  rw [digit_c (PC_T hC hTc) (by omega), bd_some, digit_m hs, bd_some]
  by_cases d0 : isD (sg T z q) = true
  · obtain ⟨e1, e2⟩ := isD_b d0
    have hin := sg_in (T := T) (z := z) (p := q) (by omega)
    rw [if_pos d0, if_neg (show ¬ (1 : Int32) = 0 by decide), if_neg (show ¬ (1 : Int32) = 0 by decide), sign_c (PC_T hC hTc) (by omega), bd_some, here_m (PM_T M1 hTm) M1.2.1 (by omega), bd_some, bn_eq, bn_eq, mJ_p (by omega), bn_eq, bn_eq, M1.2.1, nI_1, ui_ui (h := hm)]
    have s1 : nI (sg T z q) - 48 = nI (sg T z q - 48) := sub_r (m := 48) (show 48 ≤ sg T z q by omega) (by omega)
    rw [s1]
    have C2 := PC_at (q := q + 1) hC
    have M2 := PM_at (q := q + 1) hM
    have hs1 := sg_lt hTm (q + 1)
    rw [C2.2.1, digit_c (PC_T C2 hTc) (by omega), bd_some, here_m (PM_T M2 hTm) M2.2.1 (by omega), bd_some, digit_m hs1, bd_some]
    by_cases d1 : isD (sg T z (q + 1)) = true
    · obtain ⟨e3, e4⟩ := isD_b d1
      have hin1 := sg_in (T := T) (z := z) (p := q + 1) (by omega)
      rw [if_pos d1, if_neg (show ¬ (1 : Int32) = 0 by decide), if_neg (show ¬ (1 : Int32) = 0 by decide), sign_c (PC_T C2 hTc) (by omega), bd_some, bd_some, bn_eq, bn_eq, mJ_p (by omega), bn_eq, bn_eq, M2.2.1, nI_1, ui_ui, ui_ui, (dig_v (by omega) e3 e4).1, (dig_v (by omega) e3 e4).2]
      exact kn_2 hTc hTm (by omega) (by omega) ht hk hR (by omega) (PC_at hC) (PM_at hM)
    · rw [if_neg d1, if_pos rfl, if_pos rfl]
      exact kn_2 hTc hTm (by omega) (by omega) ht hk hR (by omega) C2 M2
  · rw [if_neg d0, if_pos rfl, if_pos rfl]
    obtain ⟨h', e1, E1⟩ := PM_bad (N := N) M1
    exact Or.inl ⟨q, nI (loL t k), hc, h', b2, rfl, by rw [e1, bd_some], PC_Q hC, E1⟩
end Pitem
