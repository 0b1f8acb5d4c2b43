/-! reading a law: numbers, letters, atoms -/
section Atom
variable {N z n : Nat} {T : Nat → Nat} {hc0 hm0 : mu_H}
def Rs (hc0 hm0 : mu_H) (z n : Nat) (X : Option (Int32 × mu_H)) (Y : Option mu_H) (p d : Nat) (cs : List Int32) (ts : List Tok) (b : Nat) (G : List Tok → Prop) : Prop :=
  (∃ e hc' hm', e ≤ z ∧ X = some (0, hc') ∧ Y = some hm' ∧ CE hc0 hc' e ∧ ME hm0 n hm' e b) ∨
  (∃ q xs hc' hm', q ≤ z ∧ xs.length + p ≤ q ∧ X = some (1, hc') ∧ Y = some hm' ∧ CS hc0 hc' q (cs ++ xs.map clT) ∧ MS hm0 n hm' q d (ts ++ xs) ∧ G xs ∧ ∀ t ∈ xs, okT t)
def Lc (N z : Nat) (T : Nat → Nat) (n : Nat) (hc0 hm0 : mu_H) : Prop := Tc hc0 z T ∧ Tm hm0 z T ∧ n ≤ 4 ∧ 3000 ≤ N
def Pr (z n : Nat) (hc0 hm0 : mu_H) (F : mu_H → Option (Int32 × mu_H)) (G : mu_H → Option mu_H) (d b : Nat) (Q : List Tok → Prop) : Prop := ∀ hc hm p cs ts, CS hc0 hc p cs → MS hm0 n hm p d ts → p ≤ z → cs.length ≤ p → ts.length ≤ p → Rs hc0 hm0 z n (F hc) (G hm) p d cs ts b Q
/-- up to j digits -/
def nv (T : Nat → Nat) (z : Nat) : Nat → Nat → Nat → Nat × Nat
  | 0, p, v => (v, p)
  | j + 1, p, v => if isD (sg T z p) = true then nv T z j (p + 1) (10 * v + sg T z p - 48) else (v, p)
theorem isD_b {c : Nat} (h : isD c = true) : 48 ≤ c ∧ c ≤ 57 := by
  rw [isD, decide_eq_true_eq] at h; exact h
theorem nv_p : ∀ j p v, p ≤ z → (v + 1) * 10 ^ j ≤ 10000 → p ≤ (nv T z j p v).2 ∧ (nv T z j p v).2 ≤ z ∧ (nv T z j p v).1 ≤ 9999 := by
  intro j
  induction j with
  | zero => intro p v h1 h2; exact ⟨Nat.le_refl p, h1, by show v ≤ 9999; omega⟩
  | succ j ih =>
    intro p v h1 h2
    rw [nv]
    by_cases c : isD (sg T z p) = true
    · rw [if_pos c]
      obtain ⟨c1, c2⟩ := isD_b c
      have hin := sg_in (T := T) (z := z) (p := p) (by omega)
      have h3 : (10 * v + sg T z p - 48 + 1) * 10 ^ j ≤ (10 * (v + 1)) * 10 ^ j := Nat.mul_le_mul_right _ (by omega)
      have h4 : (10 * (v + 1)) * 10 ^ j = (v + 1) * 10 ^ (j + 1) := by rw [Nat.pow_succ, Nat.mul_comm 10 (v + 1), Nat.mul_assoc, Nat.mul_comm 10 (10 ^ j)]
      obtain ⟨a, b, d⟩ := ih (p + 1) (10 * v + sg T z p - 48) (by omega) (by omega)
      exact ⟨by omega, b, d⟩
    · rw [if_neg c]
      have h5 : 1 ≤ 10 ^ (j + 1) := Nat.one_le_pow _ _ (by decide)
      have h6 : (v + 1) * 1 ≤ (v + 1) * 10 ^ (j + 1) := Nat.mul_le_mul_left _ h5
      exact ⟨Nat.le_refl p, h1, by show v ≤ 9999; omega⟩
theorem dig_v {v c : Nat} (hv : v < 10000) (h1 : 48 ≤ c) (h2 : c ≤ 57) : nI v * 10 + nI c - 48 = nI (10 * v + c - 48) ∧ 10 * nI v + nI c - 48 = nI (10 * v + c - 48) := by
  have e1 : nI v * 10 + nI c = nI (10 * v + c) := by
    rw [show (10 : Int32) = nI 10 from rfl, pk_mul, nI_add, Nat.mul_comm]
  have e2 : 10 * nI v + nI c = nI (10 * v + c) := by
    rw [show (10 : Int32) = nI 10 from rfl, pk_mul, nI_add]
  have e3 : nI (10 * v + c) - 48 = nI (10 * v + c - 48) := sub_r (m := 48) (show 48 ≤ 10 * v + c by omega) (by omega)
  exact ⟨by rw [e1, e3], by rw [e2, e3]⟩
theorem mJ_p {c : Nat} (h : 0 < c) : mJ c = nI c := if_neg (by omega)
theorem num_c {k1 : (Int32 × mu_H) → Option (Int32 × mu_H)} : ∀ j h p v g, Tc h z T → h.1 10 2 = nI p → p ≤ z → j ≤ 4 → j < g → (v + 1) * 10 ^ j ≤ 10000 → lp (f_LRd_readNumber_L4 N k1) g (nI v, nI (4 - j), h) = k1 (nI (nv T z j p v).1, ui h 10 2 (nI (nv T z j p v).2)) := by
  intro j
  induction j with
  | zero =>
    intro h p v g hT he hp hj hg hv
    obtain ⟨g, rfl⟩ : ∃ q, g = q + 1 := ⟨g - 1, by omega⟩
    rw [lp_1, f_LRd_readNumber_L4]
    show (if (4 : Int32) ≤ nI 4 then _ else _) = _
    rw [if_pos (show (4 : Int32) ≤ nI 4 by decide)]
    show _ = k1 (nI v, ui h 10 2 (nI p))
    rw [ui_self he]
  | succ j ih =>
    intro h p v g hT he hp hj hg hv
    obtain ⟨g, rfl⟩ : ∃ q, g = q + 1 := ⟨g - 1, by omega⟩
    have hz := hT.1
    rw [lp_1, f_LRd_readNumber_L4]
    show (if (4 : Int32) ≤ nI (4 - (j + 1)) then _ else _) = _
    rw [if_neg (fun q => by have := (nI_leI (a := 4) (by decide) (by omega)).mp q; omega), he, digit_c hT (by omega), bd_some, nv]
    by_cases c : isD (sg T z p) = true
    · obtain ⟨c1, c2⟩ := isD_b c
      have hin := sg_in (T := T) (z := z) (p := p) (by omega)
      have h5 : 1 ≤ 10 ^ (j + 1) := Nat.one_le_pow _ _ (by decide)
      have h6 : (v + 1) * 1 ≤ (v + 1) * 10 ^ (j + 1) := Nat.mul_le_mul_left _ h5
      have h3 : (10 * v + sg T z p - 48 + 1) * 10 ^ j ≤ (10 * (v + 1)) * 10 ^ j := Nat.mul_le_mul_right _ (by omega)
      have h4 : (10 * (v + 1)) * 10 ^ j = (v + 1) * 10 ^ (j + 1) := by rw [Nat.pow_succ, Nat.mul_comm 10 (v + 1), Nat.mul_assoc, Nat.mul_comm 10 (10 ^ j)]
      rw [if_pos c, if_pos c, if_neg (show ¬ (1 : Int32) = 0 by decide), sign_c hT (by omega), bd_some, bn_eq, bn_eq, (dig_v (by omega) c1 c2).1, nI_1, nI_1, show 4 - (j + 1) + 1 = 4 - j by omega]
      rw [ih (ui h 10 2 (nI (p + 1))) (p + 1) (10 * v + sg T z p - 48) g (Tc_fr (A := [10]) (sc_ui (by decide)) (by decide) (by decide) hT) (by rw [ui_s, upd_s]) (by omega) (by omega) (by omega) (by omega), ui_ui]
    · rw [if_neg c, if_neg c, if_pos rfl]
      show _ = k1 (nI v, ui h 10 2 (nI p))
      rw [ui_self he]
theorem num_m {k1 : (Int32 × mu_H) → Option (Int32 × mu_H)} : ∀ j h p v g, Tm h z T → h.1 51 3 = nI p → p ≤ z → j ≤ 4 → j < g → (v + 1) * 10 ^ j ≤ 10000 → lp (f_Mod_plainNumber_L4 N k1) g (nI v, nI (4 - j), h) = k1 (nI (nv T z j p v).1, ui h 51 3 (nI (nv T z j p v).2)) := by
  intro j
  induction j with
  | zero =>
    intro h p v g hT he hp hj hg hv
    obtain ⟨g, rfl⟩ : ∃ q, g = q + 1 := ⟨g - 1, by omega⟩
    rw [lp_1, f_Mod_plainNumber_L4]
    show (if (4 : Int32) ≤ nI 4 then _ else _) = _
    rw [if_pos (show (4 : Int32) ≤ nI 4 by decide)]
    show _ = k1 (nI v, ui h 51 3 (nI p))
    rw [ui_self he]
  | succ j ih =>
    intro h p v g hT he hp hj hg hv
    obtain ⟨g, rfl⟩ : ∃ q, g = q + 1 := ⟨g - 1, by omega⟩
    have hz := hT.1
    have hs := sg_lt hT p
    rw [lp_1, f_Mod_plainNumber_L4]
    show (if (4 : Int32) ≤ nI (4 - (j + 1)) then _ else _) = _
    rw [if_neg (fun q => by have := (nI_leI (a := 4) (by decide) (by omega)).mp q; omega), here_m hT he (by omega), bd_some, digit_m hs, bd_some, nv]
    by_cases c : isD (sg T z p) = true
    · obtain ⟨c1, c2⟩ := isD_b c
      have hin := sg_in (T := T) (z := z) (p := p) (by omega)
      have h5 : 1 ≤ 10 ^ (j + 1) := Nat.one_le_pow _ _ (by decide)
      have h6 : (v + 1) * 1 ≤ (v + 1) * 10 ^ (j + 1) := Nat.mul_le_mul_left _ h5
      have h3 : (10 * v + sg T z p - 48 + 1) * 10 ^ j ≤ (10 * (v + 1)) * 10 ^ j := Nat.mul_le_mul_right _ (by omega)
      have h4 : (10 * (v + 1)) * 10 ^ j = (v + 1) * 10 ^ (j + 1) := by rw [Nat.pow_succ, Nat.mul_comm 10 (v + 1), Nat.mul_assoc, Nat.mul_comm 10 (10 ^ j)]
      rw [if_pos c, if_pos c, if_neg (show ¬ (1 : Int32) = 0 by decide), bd_some, bn_eq, bn_eq, mJ_p (by omega), (dig_v (by omega) c1 c2).2, he, nI_1, nI_1, show 4 - (j + 1) + 1 = 4 - j by omega]
      rw [ih (ui h 51 3 (nI (p + 1))) (p + 1) (10 * v + sg T z p - 48) g (Tm_fr (A := []) (K := [3]) (sM_u5 (by decide)) (by decide) (by decide) hT) (by rw [ui_s, upd_s]) (by omega) (by omega) (by omega) (by omega), ui_ui]
    · rw [if_neg c, if_neg c, if_pos rfl]
      show _ = k1 (nI v, ui h 51 3 (nI p))
      rw [ui_self he]
theorem nv_s {p : Nat} (hd : isD (sg T z p) = true) : p + 1 ≤ (nv T z 4 p 0).2 ∨ ¬ p + 1 ≤ z := by
  by_cases c : p + 1 ≤ z
  · refine Or.inl ?_
    obtain ⟨c1, c2⟩ := isD_b hd
    rw [nv, if_pos hd]
    have h3 : (10 * 0 + sg T z p - 48 + 1) * 10 ^ 3 ≤ 10000 := by
      have : (10 * 0 + sg T z p - 48 + 1) * 10 ^ 3 ≤ 10 * 10 ^ 3 := Nat.mul_le_mul_right _ (by omega)
      omega
    exact (nv_p 3 (p + 1) _ c h3).1
  · exact Or.inr c
/-- a number, by both -/
theorem num_2 (hL : Lc N z T n hc0 hm0) {hc hm : mu_H} {p d b : Nat} {cs : List Int32} {ts : List Tok} (hC : CS hc0 hc p cs) (hM : MS hm0 n hm p d ts) (hp : p ≤ z) (hcs : cs.length ≤ p) (hts : ts.length ≤ p) (hb : 241 ≤ b) (hd : isD (sg T z p) = true) : Rs hc0 hm0 z n (f_LRd_readNumber N hc) (bi (f_Mod_plainNumber N hm) fun x h => (f_Mod_put N h 0 x).bind fun h => some h) p d cs ts b (fun xs => Gd 1 xs isN) := by
  obtain ⟨hTc, hTm, hn, hN⟩ := hL
  have hz := hTc.1
  obtain ⟨v1, v2, v3⟩ := nv_p (T := T) (z := z) 4 p 0 hp (by decide)
  have v0 : p + 1 ≤ (nv T z 4 p 0).2 := by
    have hin := sg_in (T := T) (z := z) (p := p) (by have := isD_b hd; omega)
    rcases nv_s hd with q | q
    · exact q
    · omega
  have n1 := num_c (N := N) (k1 := fun ((x2, h3) : Int32 × mu_H) => (f_Law_add N h3 11 x2).bind fun h4 => (f_Tap_isDigit N h4 (h4.1 10 2)).bind fun x5 => if x5 = 0 then some (1, h4) else some (0, h4)) 4 hc p 0 N (CS_T hC hTc) hC.2.1 hp (by decide) (by omega) (by decide)
  have n2 := num_m (N := N) (k1 := fun ((x2, h3) : Int32 × mu_H) => (f_Mod_here N h3).bind fun x4 => (f_Mod_isDigit N h3 x4).bind fun x5 => if x5 = 0 then some (x2, h3) else (f_Mod_bad N h3).bind fun h6 => some (x2, h6)) 4 hm p 0 N (MS_T hM hTm) hM.2.1 hp (by decide) (by omega) (by decide)
  have C1 := CS_at (q := (nv T z 4 p 0).2) hC
  have M1 := MS_at (q := (nv T z 4 p 0).2) hM
  generalize hv' : (nv T z 4 p 0).1 = v at *
  generalize hq' : (nv T z 4 p 0).2 = q at *
  obtain ⟨h4, a1, C2⟩ := CS_add (N := N) C1 (by omega) (nI v)
  have d1 := digit_c (N := N) (CS_T C2 hTc) (p := q) (by omega)
  have hs := sg_lt hTm q
  have x1 := here_m (N := N) (MS_T M1 hTm) M1.2.1 (by omega)
  rw [f_LRd_readNumber, jn_eq, f_Mod_plainNumber, jn_eq]
  have e1 : lp (f_LRd_readNumber_L4 N _) N (0, 0, hc) = _ := n1
  have e2 : lp (f_Mod_plainNumber_L4 N _) N (0, 0, hm) = _ := n2
  rw [e1, e2]
  show Rs hc0 hm0 z n ((f_Law_add N _ 11 _).bind _) (bi ((f_Mod_here N _).bind _) _) p d cs ts b _
  rw [a1, bd_some, C2.2.1, d1, bd_some, x1, bd_some, digit_m hs, bd_some]
  by_cases c : isD (sg T z q) = true
  · rw [if_pos c, if_neg (show ¬ (1 : Int32) = 0 by decide), if_neg (show ¬ (1 : Int32) = 0 by decide)]
    obtain ⟨h6, b1, E1⟩ := MS_bad (N := N) (b := 240) M1 (by omega)
    obtain ⟨h7, b2, E2⟩ := ME_put (N := N) hn E1 (by omega) 0 (nI v)
    refine Or.inl ⟨q, h4, h7, v2, rfl, ?_, CS_E C2, ME_mono E2 (by omega)⟩
    rw [b1, bd_some, bi_some, b2, bd_some]
  · rw [if_neg c, if_pos rfl, if_pos rfl]
    obtain ⟨h7, b2, M2⟩ := MS_put (N := N) hn M1 (by omega) 0 v
    refine Or.inr ⟨q, [(0, v)], h4, h7, v2, by show 1 + p ≤ q; omega, rfl, ?_, C2, M2, Gd_num v3, ?_⟩
    · rw [bi_some]
      have b2 : f_Mod_put N (ui hm 51 3 (nI q)) 0 (nI v) = some h7 := b2
      rw [b2, bd_some]
    · intro t ht
      rw [List.mem_singleton] at ht
      subst ht
      exact ⟨by show 0 < 12; decide, fun _ => v3, fun q => absurd q (by show ¬ (0 : Nat) = 1; decide)⟩
/-- a letter -/
theorem let_2 {c : Nat} (hc : c < 256) : (∃ l, l < 6 ∧ 0 < c ∧ ¬ c = 91 ∧ (∀ N h, f_Mod_letterOf N h (mJ c) = some (nI l)) ∧ ∀ h k5 g, 6 < g → lp (f_LRd_readAtom_L75 (nI c) h k5) g 0 = k5 (nI l)) ∨ ((∀ N h, f_Mod_letterOf N h (mJ c) = some (-1)) ∧ ∀ h k5 g, 6 < g → lp (f_LRd_readAtom_L75 (nI c) h k5) g 0 = some (0, h)) := by
  have e0 : ∀ k : Nat, 0 < k → k < 1000 → (mJ c = nI k) = (c = k) := fun k h1 h2 => mJ_eq hc h2 h1
  have m1 : (mJ c = 113) = (c = 113) := e0 113 (by decide) (by decide)
  have m2 : (mJ c = 122) = (c = 122) := e0 122 (by decide) (by decide)
  have m3 : (mJ c = 104) = (c = 104) := e0 104 (by decide) (by decide)
  have m4 : (mJ c = 119) = (c = 119) := e0 119 (by decide) (by decide)
  have m5 : (mJ c = 101) = (c = 101) := e0 101 (by decide) (by decide)
  have m6 : (mJ c = 115) = (c = 115) := e0 115 (by decide) (by decide)
  have f0 : ∀ k : Nat, k < 1000 → (nI k = nI c) = (k = c) := fun k h2 => nI_eq_i (by omega) (by omega)
  have g1 : ((113 : Int32) = nI c) = (113 = c) := f0 113 (by decide)
  have g2 : ((122 : Int32) = nI c) = (122 = c) := f0 122 (by decide)
  have g3 : ((104 : Int32) = nI c) = (104 = c) := f0 104 (by decide)
  have g4 : ((119 : Int32) = nI c) = (119 = c) := f0 119 (by decide)
  have g5 : ((101 : Int32) = nI c) = (101 = c) := f0 101 (by decide)
  have g6 : ((115 : Int32) = nI c) = (115 = c) := f0 115 (by decide)
  have st : ∀ (i : Nat) (h : mu_H) (k5 : Int32 → Option (Int32 × mu_H)) (rec : Int32 → Option (Int32 × mu_H)) (x : Int32), i < 6 → sv_5.getD i 0 = x → f_LRd_readAtom_L75 (nI c) h k5 rec (nI i) = if x = nI c then k5 (nI i) else rec (nI (i + 1)) := by
    intro i h k5 rec x hi hx
    rw [f_LRd_readAtom_L75, if_neg (fun q => by have := (nI_leI (a := 6) (by decide) (by omega)).mp q; omega), ix_nI hi (by decide), gd_t, nI_clamp (by omega), hx, nI_1]
  have ru : ∀ (h : mu_H) (k5 : Int32 → Option (Int32 × mu_H)) (g : Nat), lp (f_LRd_readAtom_L75 (nI c) h k5) (g + 7) 0 = if 113 = c then k5 (nI 0) else if 122 = c then k5 (nI 1) else if 104 = c then k5 (nI 2) else if 119 = c then k5 (nI 3) else if 101 = c then k5 (nI 4) else if 115 = c then k5 (nI 5) else some (0, h) := by
    intro h k5 g
    have s6 : ∀ rec, f_LRd_readAtom_L75 (nI c) h k5 rec (nI 6) = some (0, h) := by
      intro rec
      rw [f_LRd_readAtom_L75, if_pos (show (6 : Int32) ≤ nI 6 by decide)]
    show lp _ (g + 7) (nI 0) = _
    rw [lp_1, st 0 h k5 _ 113 (by decide) rfl, lp_1, st 1 h k5 _ 122 (by decide) rfl, lp_1, st 2 h k5 _ 104 (by decide) rfl, lp_1, st 3 h k5 _ 119 (by decide) rfl, lp_1, st 4 h k5 _ 101 (by decide) rfl, lp_1, st 5 h k5 _ 115 (by decide) rfl, lp_1, s6]
    simp only [g1, g2, g3, g4, g5, g6]
  have ru2 : ∀ (h : mu_H) (k5 : Int32 → Option (Int32 × mu_H)) (g : Nat), 6 < g → lp (f_LRd_readAtom_L75 (nI c) h k5) g 0 = if 113 = c then k5 (nI 0) else if 122 = c then k5 (nI 1) else if 104 = c then k5 (nI 2) else if 119 = c then k5 (nI 3) else if 101 = c then k5 (nI 4) else if 115 = c then k5 (nI 5) else some (0, h) := by
    intro h k5 g hg
    obtain ⟨g, rfl⟩ : ∃ q, g = q + 7 := ⟨g - 7, by omega⟩
    exact ru h k5 g
  simp only [f_Mod_letterOf, m1, m2, m3, m4, m5, m6]
  by_cases c1 : c = 113
  · subst c1; exact Or.inl ⟨0, by decide, by decide, by decide, fun _ _ => by simp only [if_true]; rfl, fun h k5 g hg => by rw [ru2 h k5 g hg]; rfl⟩
  by_cases c2 : c = 122
  · subst c2; exact Or.inl ⟨1, by decide, by decide, by decide, fun _ _ => rfl, fun h k5 g hg => by rw [ru2 h k5 g hg]; rfl⟩
  by_cases c3 : c = 104
  · subst c3; exact Or.inl ⟨2, by decide, by decide, by decide, fun _ _ => rfl, fun h k5 g hg => by rw [ru2 h k5 g hg]; rfl⟩
  by_cases c4 : c = 119
  · subst c4; exact Or.inl ⟨3, by decide, by decide, by decide, fun _ _ => rfl, fun h k5 g hg => by rw [ru2 h k5 g hg]; rfl⟩
  by_cases c5 : c = 101
  · subst c5; exact Or.inl ⟨4, by decide, by decide, by decide, fun _ _ => rfl, fun h k5 g hg => by rw [ru2 h k5 g hg]; rfl⟩
  by_cases c6 : c = 115
  · subst c6; exact Or.inl ⟨5, by decide, by decide, by decide, fun _ _ => rfl, fun h k5 g hg => by rw [ru2 h k5 g hg]; rfl⟩
  refine Or.inr ⟨fun _ _ => ?_, fun h k5 g hg => ?_⟩
  · rw [if_neg c1, if_neg c2, if_neg c3, if_neg c4, if_neg c5, if_neg c6]
  · rw [ru2 h k5 g hg, if_neg (Ne.symm c1), if_neg (Ne.symm c2), if_neg (Ne.symm c3), if_neg (Ne.symm c4), if_neg (Ne.symm c5), if_neg (Ne.symm c6)]
theorem Rs_G {X : Option (Int32 × mu_H)} {Y : Option mu_H} {p d b b' : Nat} {cs : List Int32} {ts : List Tok} {G G' : List Tok → Prop} (h : Rs hc0 hm0 z n X Y p d cs ts b G) (hb : b ≤ b') (hG : ∀ xs, G xs → G' xs) : Rs hc0 hm0 z n X Y p d cs ts b' G' := by
  rcases h with ⟨e, hc', hm', h1, h2, h3, h4, h5⟩ | ⟨q, xs, hc', hm', h1, h2, h3, h4, h5, h6, h7, h8⟩
  · exact Or.inl ⟨e, hc', hm', h1, h2, h3, h4, ME_mono h5 hb⟩
  · exact Or.inr ⟨q, xs, hc', hm', h1, h2, h3, h4, h5, h6, hG xs h7, h8⟩
theorem atom_2 (hL : Lc N z T n hc0 hm0) {rfc : mu_H → Int32 → Option (Int32 × mu_H)} {rfm : mu_H → Option mu_H} {d b : Nat} (hd : d ≤ 6) (hb : 241 ≤ b) (hb2 : b < 500) (IH : d < 6 → Pr z n hc0 hm0 (fun h => rfc h (nI (d + 1))) rfm (d + 1) b (fun xs => Gd (13 - 2 * d) xs isN)) : Pr z n hc0 hm0 (fun h => f_LRd_readAtom_B N rfc h (nI d)) (f_Mod_atom_B N rfm) d b (fun xs => Gd (13 - 2 * d) xs isN) := by
  intro hc hm p cs ts hC hM hp hcs hts
  have hL0 := hL
  obtain ⟨hTc, hTm, hn, hN⟩ := hL
  have hz := hTc.1
  obtain ⟨hc1, c1, C1⟩ := CS_next hTc hN hC hp
  obtain ⟨hm1, m1, M1⟩ := MS_look hTm hN hM hp
  obtain ⟨b1, b2, b3⟩ := nb_p (T := T) hp
  have hs := sg_lt hTm (nb T z p)
  show Rs hc0 hm0 z n (f_LRd_readAtom_B N rfc hc (nI d)) (f_Mod_atom_B N rfm hm) p d cs ts b _
  rw [f_LRd_readAtom_B, f_Mod_atom_B, c1, m1, bi_some, bi_some]
  generalize hq : nb T z p = q at *
  generalize hcc : sg T z q = c at *
  rw [digit_m hs, bd_some]
  have h10 : ¬ (1 : Int32) = 0 := by decide
  by_cases k1 : isD c = true
  · obtain ⟨k2, k3⟩ := isD_b k1
    rw [if_pos k1, if_neg h10, if_neg (fun w => by have := nI_inj (b := 91) (by omega) (by decide) w; omega), C1.2.1, digit_c (CS_T C1 hTc) (by omega), bd_some, hcc, if_pos k1, if_neg h10]
    have hr := num_2 hL0 (b := b) C1 M1 b2 (by omega) (by omega) hb (by rw [hcc]; exact k1)
    rcases hr with ⟨e, hc', hm', h1, h2, h3, h4, h5⟩ | ⟨q', xs, hc', hm', h1, h2, h3, h4, h5, h6, h7, h8⟩
    · exact Or.inl ⟨e, hc', hm', h1, by rw [h2, bi_some]; rfl, h3, h4, h5⟩
    · exact Or.inr ⟨q', xs, hc', hm', h1, by omega, by rw [h3, bi_some]; rfl, h4, h5, h6, Gd_mono h7 (by omega), h8⟩
  · rw [if_neg k1, if_pos rfl]
    rcases let_2 hs with ⟨l, l6, l0, l91, le1, le2⟩ | ⟨le1, le2⟩
    · have hin := sg_in (T := T) (z := z) (p := q) (by omega)
      rw [if_neg (fun w => by exact l91 (nI_inj (b := 91) (by omega) (by decide) w)), C1.2.1, digit_c (CS_T C1 hTc) (by omega), bd_some, hcc, if_neg k1, if_pos rfl, jn_eq, le2 _ _ N (by omega), le1, bd_some, if_neg (fun w => by rw [neg1 (by omega)] at w; exact w)]
      have C2 := CS_at (q := q + 1) C1
      have M2 := MS_inc M1
      obtain ⟨hc3, a1, C3⟩ := CS_add (N := N) C2 (by omega) (-1 - nI l)
      obtain ⟨hm3, a2, M3⟩ := MS_put (N := N) hn M2 (by omega) 1 l
      refine Or.inr ⟨q + 1, [(1, l)], hc3, hm3, by omega, by show 1 + p ≤ q + 1; omega, ?_, ?_, C3, M3, Gd_mono (Gd_let l6) (by omega), ?_⟩
      · rw [bn_eq, nI_1, a1, bd_some]
      · have a2 : f_Mod_put N (ui hm1 51 3 (hm1.1 51 3 + 1)) 1 (nI l) = some hm3 := a2
        rw [bn_eq, le1, bd_some, a2, bd_some]
      · intro t ht
        rw [List.mem_singleton] at ht
        subst ht
        exact ⟨by show 1 < 12; decide, fun q => absurd q (by show ¬ (1 : Nat) = 0; decide), fun _ => l6⟩
    · rw [le1, bd_some, if_pos rfl]
      by_cases k2 : c = 91
      · rw [if_pos (show nI c = (91 : Int32) by rw [k2]; rfl), if_pos (show mJ c = (91 : Int32) by rw [k2]; rfl)]
        by_cases k6 : d < 6
        · obtain ⟨hm2, o1, M2⟩ := opens_d (N := N) M1 k6
          have hin := sg_in (T := T) (z := z) (p := q) (by omega)
          have C2 := CS_inc C1
          rw [if_pos (show nI d < (6 : Int32) from (nI_ltI (b := 6) (by omega) (by decide)).mpr k6), bn_eq, o1, bd_some, if_pos M2.2.2.1, nI_1]
          have hr := IH k6 _ _ (q + 1) cs ts C2 M2 (by omega) (by omega) (by omega)
          rcases hr with ⟨e, hc', hm', h1, h2, h3, h4, h5⟩ | ⟨q', xs, hc', hm', h1, h2, h3, h4, h5, h6, h7, h8⟩
          · obtain ⟨hm5, o2, E2⟩ := closes_e (N := N) (c := 93) h5 (by omega)
            refine Or.inl ⟨e, hc', hm5, h1, ?_, ?_, h4, E2⟩
            · have h2 : rfc (ui hc1 10 2 (hc1.1 10 2 + 1)) (nI (d + 1)) = some (0, hc') := h2
              rw [h2, bi_some, if_pos rfl]
            · rw [h3, bd_some, o2, bd_some]
          · have h3 : rfc (ui hc1 10 2 (hc1.1 10 2 + 1)) (nI (d + 1)) = some (1, hc') := h3
            have hts2 : (ts ++ xs).length ≤ 240 := by rw [List.length_append]; omega
            obtain ⟨hm5, o2, o3⟩ := closes_d (N := N) (b := b) (c := 93) hTm hN h6 h1 (by omega) (by omega) (by decide) (by decide)
            have o2 : f_Mod_closes N hm' 93 = some hm5 := o2
            have hsk := CS_skip (N := N) (c := 93) hTc hN h5 h1 (by decide) (by decide)
            obtain ⟨n1, n2, n3⟩ := nb_p (T := T) h1
            rcases hsk with ⟨s1, s2, hc5, s3, s4⟩ | ⟨s1, hc5, s3, s4⟩
            · have s3 : f_LRd_skip N hc' 93 = some (1, hc5) := s3
              rcases o3 with ⟨-, M5⟩ | ⟨o4, -⟩
              · refine Or.inr ⟨nb T z q' + 1, xs, hc5, hm5, by omega, by omega, ?_, ?_, s4, M5, h7, h8⟩
                · rw [h3, bi_some, if_neg h10, s3, bi_some, if_neg h10]
                · rw [h4, bd_some, o2, bd_some]
              · exact absurd s1 o4
            · have s3 : f_LRd_skip N hc' 93 = some (0, hc5) := s3
              rcases o3 with ⟨o4, -⟩ | ⟨-, E5⟩
              · exact absurd o4 s1
              · refine Or.inl ⟨nb T z q', hc5, hm5, n2, ?_, ?_, CS_E s4, E5⟩
                · rw [h3, bi_some, if_neg h10, s3, bi_some, if_pos rfl]
                · rw [h4, bd_some, o2, bd_some]
        · have d6 : d = 6 := by omega
          subst d6
          obtain ⟨hm2, o1, E2⟩ := opens_6 (N := N) (b := b) M1 (by omega)
          refine Or.inl ⟨q, hc1, hm2, b2, ?_, ?_, CS_E C1, E2⟩
          · rw [if_neg (show ¬ nI 6 < (6 : Int32) by decide)]
          · rw [o1, bd_some, if_neg (ME_w E2 (by omega))]
      · rw [if_neg (fun w => by exact k2 (nI_inj (b := 91) (by omega) (by decide) w)), if_neg (fun w => by exact k2 ((mJ_n (k := 91) hs (by decide) (by decide)).mp w)), C1.2.1, digit_c (CS_T C1 hTc) (by omega), bd_some, hcc, if_neg k1, if_pos rfl, jn_eq, le2 _ _ N (by omega)]
        obtain ⟨hm2, o1, E2⟩ := MS_bad (N := N) (b := b) M1 (by omega)
        exact Or.inl ⟨q, hc1, hm2, b2, rfl, by rw [o1, bd_some], CS_E C1, E2⟩
end Atom
