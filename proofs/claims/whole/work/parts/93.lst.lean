/-! reading a law: the states of both readers -/
section Lst
variable {N z n : Nat} {T : Nat → Nat} {h0 h : mu_H}
/-- the class: where it is, what it has written -/
def CS (h0 h : mu_H) (p : Nat) (cs : List Int32) : Prop := sc [10, 11, 12] h0 h ∧ h.1 10 2 = nI p ∧ h.1 11 2 = nI cs.length ∧ At (h.1 12) 0 cs
def CE (h0 h : mu_H) (e : Nat) : Prop := sc [10, 11, 12] h0 h ∧ h.1 10 2 = nI e
/-- what the model leaves as it was -/
def MF (n : Nat) (h0 h : mu_H) : Prop := sM [53, 54, 55] [3, 4, 5] h0 h ∧ ∀ i, i < 520 * n → h.1 53 i = h0.1 53 i ∧ h.1 54 i = h0.1 54 i
def MS (h0 : mu_H) (n : Nat) (h : mu_H) (p d : Nat) (ts : List Tok) : Prop := MF n h0 h ∧ h.1 51 3 = nI p ∧ h.1 51 4 = -1 ∧ h.1 51 5 = nI d ∧ h.1 51 14 = nI n ∧ h.1 55 n = nI ts.length ∧ toks (h.1 53) (h.1 54) (520 * n) ts
def ME (h0 : mu_H) (n : Nat) (h : mu_H) (e b : Nat) : Prop := MF n h0 h ∧ h.1 51 4 = nI e ∧ h.1 51 14 = nI n ∧ ∃ m, m ≤ b ∧ h.1 55 n = nI m
theorem CS_E {p : Nat} {cs : List Int32} (hC : CS h0 h p cs) : CE h0 h p := ⟨hC.1, hC.2.1⟩
theorem CS_T {p : Nat} {cs : List Int32} (hC : CS h0 h p cs) (hT : Tc h0 z T) : Tc h z T := Tc_fr hC.1 (by decide) (by decide) hT
theorem MS_T {p d : Nat} {ts : List Tok} (hM : MS h0 n h p d ts) (hT : Tm h0 z T) : Tm h z T := Tm_fr hM.1.1 (by decide) (by decide) hT
theorem CS_at {p q : Nat} {cs : List Int32} (hC : CS h0 h p cs) : CS h0 (ui h 10 2 (nI q)) q cs := by
  obtain ⟨a, b, c, d⟩ := hC
  refine ⟨sc_trans a (sc_ui (by decide)), by rw [ui_s, upd_s], by rw [ui_n (by decide)]; exact c, by rw [ui_n (by decide)]; exact d⟩
theorem CS_inc {p : Nat} {cs : List Int32} (hC : CS h0 h p cs) : CS h0 (ui h 10 2 (h.1 10 2 + 1)) (p + 1) cs := by
  rw [hC.2.1, nI_1]; exact CS_at hC
theorem At_snoc {C : Nat → Int32} {cs : List Int32} {x : Int32} (h : At C 0 cs) : At (upd C cs.length x) 0 (cs ++ [x]) := by
  rw [At_app]
  refine ⟨fun i hi => ?_, ?_⟩
  · rw [upd_n (by omega)]; exact h i hi
  · rw [At_cons]
    refine ⟨by rw [Nat.zero_add, upd_s], fun i hi => absurd hi (by simp)⟩
theorem CS_add {p : Nat} {cs : List Int32} (hC : CS h0 h p cs) (hl : cs.length < 240) (x : Int32) : ∃ h', f_Law_add N h 11 x = some h' ∧ CS h0 h' p (cs ++ [x]) := by
  obtain ⟨a, b, c, d⟩ := hC
  refine ⟨ui (ui h 12 cs.length x) 11 2 (nI (cs.length + 1)), ?_, ?_⟩
  · rw [f_Law_add, c, if_neg (fun q => by have := (nI_leI (a := 240) (by decide) (by omega)).mp q; omega), ix_nI hl (by decide), gd_t, bn_eq, nI_clamp (by omega), bn_eq, ui_n (by decide), c, nI_1]
  · refine ⟨sc_trans (sc_trans a (sc_ui (by decide))) (sc_ui (by decide)), ?_, ?_, ?_⟩
    · rw [ui_n (by decide), ui_n (by decide)]; exact b
    · rw [ui_s, upd_s, List.length_append]; rfl
    · rw [ui_n (by decide), ui_s]; exact At_snoc d
theorem CS_next (hT : Tc h0 z T) (hN : 3000 ≤ N) {p : Nat} {cs : List Int32} (hC : CS h0 h p cs) (hp : p ≤ z) : ∃ h', f_LRd_next N h = some (nI (sg T z (nb T z p)), h') ∧ CS h0 h' (nb T z p) cs := ⟨_, nx_c (CS_T hC hT) hN hC.2.1 hp, CS_at hC⟩
theorem CS_nx0 (hT : Tc h0 z T) (hN : 3000 ≤ N) {p : Nat} {cs : List Int32} (hC : CS h0 h p cs) (hp : p ≤ z) (hb : ¬ sg T z p = 32) : f_LRd_next N h = some (nI (sg T z p), h) := by
  rw [nx_c (CS_T hC hT) hN hC.2.1 hp, nb_n hb, ui_self hC.2.1]
theorem MF_refl : MF n h h := ⟨sM_refl, fun _ _ => ⟨rfl, rfl⟩⟩
theorem MF_trans {h' h'' : mu_H} (a : MF n h h') (b : MF n h' h'') : MF n h h'' := ⟨sM_trans a.1 b.1, fun i hi => ⟨(b.2 i hi).1.trans (a.2 i hi).1, (b.2 i hi).2.trans (a.2 i hi).2⟩⟩
theorem MF_5 {k : Nat} {x : Int32} (hk : k ∈ [3, 4, 5]) : MF n h (ui h 51 k x) := ⟨sM_u5 hk, fun i _ => ⟨by rw [ui_n (by decide)], by rw [ui_n (by decide)]⟩⟩
theorem u5_n {k j : Nat} {x : Int32} (hk : j ≠ k) : (ui h 51 k x).1 51 j = h.1 51 j := by rw [ui_s, upd_n hk]
theorem u5_s {k : Nat} {x : Int32} : (ui h 51 k x).1 51 k = x := by rw [ui_s, upd_s]
theorem MS_at {p q d : Nat} {ts : List Tok} (hM : MS h0 n h p d ts) : MS h0 n (ui h 51 3 (nI q)) q d ts := by
  obtain ⟨a, b, c, e, f, g, i⟩ := hM
  refine ⟨MF_trans a (MF_5 (by decide)), u5_s, by rw [u5_n (by decide)]; exact c, by rw [u5_n (by decide)]; exact e, by rw [u5_n (by decide)]; exact f, by rw [ui_n (by decide)]; exact g, by rw [ui_n (by decide), ui_n (by decide)]; exact i⟩
theorem MS_inc {p d : Nat} {ts : List Tok} (hM : MS h0 n h p d ts) : MS h0 n (ui h 51 3 (h.1 51 3 + 1)) (p + 1) d ts := by
  rw [hM.2.1, nI_1]; exact MS_at hM
theorem MS_d {p d d' : Nat} {ts : List Tok} (hM : MS h0 n h p d ts) : MS h0 n (ui h 51 5 (nI d')) p d' ts := by
  obtain ⟨a, b, c, e, f, g, i⟩ := hM
  refine ⟨MF_trans a (MF_5 (by decide)), by rw [u5_n (by decide)]; exact b, by rw [u5_n (by decide)]; exact c, u5_s, by rw [u5_n (by decide)]; exact f, by rw [ui_n (by decide)]; exact g, by rw [ui_n (by decide), ui_n (by decide)]; exact i⟩
theorem ME_3 {e b : Nat} {x : Int32} (hM : ME h0 n h e b) : ME h0 n (ui h 51 3 x) e b := by
  obtain ⟨a, c, f, m, hm, g⟩ := hM
  exact ⟨MF_trans a (MF_5 (by decide)), by rw [u5_n (by decide)]; exact c, by rw [u5_n (by decide)]; exact f, m, hm, by rw [ui_n (by decide)]; exact g⟩
theorem ME_5 {e b : Nat} {x : Int32} (hM : ME h0 n h e b) : ME h0 n (ui h 51 5 x) e b := by
  obtain ⟨a, c, f, m, hm, g⟩ := hM
  exact ⟨MF_trans a (MF_5 (by decide)), by rw [u5_n (by decide)]; exact c, by rw [u5_n (by decide)]; exact f, m, hm, by rw [ui_n (by decide)]; exact g⟩
theorem ME_mono {e b b' : Nat} (hM : ME h0 n h e b) (hb : b ≤ b') : ME h0 n h e b' := by
  obtain ⟨a, c, f, m, hm, g⟩ := hM
  exact ⟨a, c, f, m, by omega, g⟩
theorem ME_w {e b : Nat} (hM : ME h0 n h e b) (he : e < 1000) : ¬ h.1 51 4 = -1 := by
  rw [hM.2.1, neg1 (by omega)]; exact fun q => q
theorem MS_bad {p d b : Nat} {ts : List Tok} (hM : MS h0 n h p d ts) (hb : ts.length ≤ b) : ∃ h', f_Mod_bad N h = some h' ∧ ME h0 n h' p b := by
  obtain ⟨a, b, c, e, f, g, i⟩ := hM
  refine ⟨ui h 51 4 (nI p), ?_, ?_⟩
  · simp only [f_Mod_bad, jn_eq, c, bn_eq, b, ↓reduceIte]
  · exact ⟨MF_trans a (MF_5 (by decide)), u5_s, by rw [u5_n (by decide)]; exact f, ts.length, hb, by rw [ui_n (by decide)]; exact g⟩
/-- put, on any heap -/
theorem put_m {m : Nat} {x y : Int32} (hn : n ≤ 4) (hm : m < 520) (e1 : h.1 51 14 = nI n) (e2 : h.1 55 n = nI m) : f_Mod_put N h x y = some (ui (ui (ui h 53 (520 * n + m) x) 54 (520 * n + m) y) 55 n (nI (m + 1))) := by
  have s1 : 520 * nI n + nI m = nI (520 * n + m) := by
    rw [show (520 : Int32) = nI 520 from rfl, pk_mul, nI_add]
  have i1 : ix (nI n) 5 = true := ix_nI (by omega) (by decide)
  have i2 : ix (nI (520 * n + m)) 2600 = true := ix_nI (by omega) (by decide)
  have c1 := nI_clamp (show n < 2147483648 by omega)
  have c2 := nI_clamp (show 520 * n + m < 2147483648 by omega)
  have n1 : (ui h 53 (520 * n + m) x).1 51 14 = nI n := by rw [ui_n (by decide)]; exact e1
  have n2 : (ui h 53 (520 * n + m) x).1 55 n = nI m := by rw [ui_n (by decide)]; exact e2
  have n3 : (ui (ui h 53 (520 * n + m) x) 54 (520 * n + m) y).1 51 14 = nI n := by rw [ui_n (by decide)]; exact n1
  have n4 : (ui (ui h 53 (520 * n + m) x) 54 (520 * n + m) y).1 55 n = nI m := by rw [ui_n (by decide)]; exact n2
  rw [f_Mod_put, e1, i1, gd_t, c1, e2, s1, i2, gd_t, c2, bn_eq, n1, i1, gd_t, c1, n2, s1, i2, gd_t, c2, bn_eq, n3, i1, gd_t, gd_t, c1, n4, bn_eq, nI_1]
theorem MF_put {m : Nat} {x y v : Int32} : MF n h (ui (ui (ui h 53 (520 * n + m) x) 54 (520 * n + m) y) 55 n v) := by
  refine ⟨sM_trans (sM_trans (sM_ui (by decide) (by decide)) (sM_ui (by decide) (by decide))) (sM_ui (by decide) (by decide)), fun i hi => ⟨?_, ?_⟩⟩
  · rw [ui_n (by decide), ui_n (by decide), ui_s, upd_n (by omega)]
  · rw [ui_n (by decide), ui_s, upd_n (by omega), ui_n (by decide)]
theorem tk_snoc {C V : Nat → Int32} {p : Nat} {ts : List Tok} {a b : Nat} (h : toks C V p ts) : toks (upd C (p + ts.length) (nI a)) (upd V (p + ts.length) (nI b)) p (ts ++ [(a, b)]) := by
  rw [tk_app]
  refine ⟨fun i hi => ?_, ?_⟩
  · rw [upd_n (by omega), upd_n (by omega)]; exact h i hi
  · rw [tk_cons]
    exact ⟨⟨by rw [upd_s], by rw [upd_s]⟩, fun i hi => absurd hi (by simp)⟩
theorem MS_put (hn : n ≤ 4) {p d : Nat} {ts : List Tok} (hM : MS h0 n h p d ts) (hl : ts.length < 520) (a b : Nat) : ∃ h', f_Mod_put N h (nI a) (nI b) = some h' ∧ MS h0 n h' p d (ts ++ [(a, b)]) := by
  obtain ⟨k1, k2, k3, k4, k5, k6, k7⟩ := hM
  refine ⟨_, put_m hn hl k5 k6, MF_trans k1 MF_put, ?_, ?_, ?_, ?_, ?_, ?_⟩
  · rw [ui_n (by decide), ui_n (by decide), ui_n (by decide)]; exact k2
  · rw [ui_n (by decide), ui_n (by decide), ui_n (by decide)]; exact k3
  · rw [ui_n (by decide), ui_n (by decide), ui_n (by decide)]; exact k4
  · rw [ui_n (by decide), ui_n (by decide), ui_n (by decide)]; exact k5
  · rw [ui_s, upd_s, List.length_append]; rfl
  · have := tk_snoc (a := a) (b := b) k7
    rw [ui_n (by decide), ui_n (by decide), ui_s, ui_n (by decide), ui_s, ui_n (by decide)]
    exact this
theorem ME_put (hn : n ≤ 4) {e b : Nat} (hM : ME h0 n h e b) (hb : b < 520) (x y : Int32) : ∃ h', f_Mod_put N h x y = some h' ∧ ME h0 n h' e (b + 1) := by
  obtain ⟨k1, k2, k3, m, hm, k4⟩ := hM
  refine ⟨_, put_m hn (by omega) k3 k4, MF_trans k1 MF_put, ?_, ?_, m + 1, by omega, ?_⟩
  · rw [ui_n (by decide), ui_n (by decide), ui_n (by decide)]; exact k2
  · rw [ui_n (by decide), ui_n (by decide), ui_n (by decide)]; exact k3
  · rw [ui_s, upd_s]
theorem MS_look (hT : Tm h0 z T) (hN : 3000 ≤ N) {p d : Nat} {ts : List Tok} (hM : MS h0 n h p d ts) (hp : p ≤ z) : ∃ h', f_Mod_look N h = some (mJ (sg T z (nb T z p)), h') ∧ MS h0 n h' (nb T z p) d ts := ⟨_, look_m (MS_T hM hT) hN hM.2.1 hp, MS_at hM⟩
theorem MS_lk0 (hT : Tm h0 z T) (hN : 3000 ≤ N) {p d : Nat} {ts : List Tok} (hM : MS h0 n h p d ts) (hp : p ≤ z) (hb : ¬ sg T z p = 32) : f_Mod_look N h = some (mJ (sg T z p), h) := by
  rw [look_m (MS_T hM hT) hN hM.2.1 hp, nb_n hb, ui_self hM.2.1]
theorem opens_6 {p b : Nat} {ts : List Tok} (hM : MS h0 n h p 6 ts) (hb : ts.length ≤ b) : ∃ h', f_Mod_opens N h = some h' ∧ ME h0 n h' p b := by
  obtain ⟨h1, e1, E1⟩ := MS_bad (N := N) hM hb
  refine ⟨ui (ui h1 51 5 (h1.1 51 5 + 1)) 51 3 ((ui h1 51 5 (h1.1 51 5 + 1)).1 51 3 + 1), ?_, ME_3 (ME_5 E1)⟩
  simp only [f_Mod_opens, jn_eq, hM.2.2.2.1, show (nI 6 = (6 : Int32)) = True from eq_true rfl, e1, bd_some, bn_eq, ↓reduceIte]
theorem opens_d {p d : Nat} {ts : List Tok} (hM : MS h0 n h p d ts) (hd : d < 6) : ∃ h', f_Mod_opens N h = some h' ∧ MS h0 n h' (p + 1) (d + 1) ts := by
  refine ⟨_, ?_, MS_inc (MS_d (d' := d + 1) hM)⟩
  have e6 : (nI d = 6) = False := eq_false (fun q => by have := nI_inj (b := 6) (by omega) (by decide) q; omega)
  simp only [f_Mod_opens, jn_eq, hM.2.2.2.1, e6, bn_eq, nI_1, ↓reduceIte]
theorem sub1 {d : Nat} (hd : d < 1000) : nI (d + 1) - 1 = nI d := sub_r (m := 1) (show 1 ≤ d + 1 by omega) (by omega)
theorem closes_e {e b : Nat} {c : Int32} (hM : ME h0 n h e b) (he : e < 1000) : ∃ h', f_Mod_closes N h c = some h' ∧ ME h0 n h' e b := by
  refine ⟨ui (ui h 51 3 (h.1 51 3 + 1)) 51 5 ((ui h 51 3 (h.1 51 3 + 1)).1 51 5 - 1), ?_, ME_5 (ME_3 hM)⟩
  simp only [f_Mod_closes, jn_eq, eq_false (ME_w hM he), bn_eq, ↓reduceIte]
theorem closes_d (hT : Tm h0 z T) (hN : 3000 ≤ N) {p d b c : Nat} {ts : List Tok} (hM : MS h0 n h p (d + 1) ts) (hp : p ≤ z) (hb : ts.length ≤ b) (hd : d < 1000) (hc : 0 < c) (hc2 : c < 1000) : ∃ h', f_Mod_closes N h (nI c) = some h' ∧ ((sg T z (nb T z p) = c ∧ MS h0 n h' (nb T z p + 1) d ts) ∨ (¬ sg T z (nb T z p) = c ∧ ME h0 n h' (nb T z p) b)) := by
  have hs := sg_lt hT (nb T z p)
  obtain ⟨h1, e1, M1⟩ := MS_look hT hN hM hp
  by_cases q : sg T z (nb T z p) = c
  · have M2 := MS_inc M1
    have e5 := M2.2.2.2.1
    refine ⟨_, ?_, Or.inl ⟨q, MS_d (d' := d) M2⟩⟩
    simp only [f_Mod_closes, jn_eq, eq_true hM.2.2.1, e1, bi_some, eq_true ((mJ_n hs hc2 hc).mpr q), bn_eq, e5, sub1 hd, ↓reduceIte]
  · obtain ⟨h2, e2, E2⟩ := MS_bad (N := N) M1 hb
    refine ⟨ui (ui h2 51 3 (h2.1 51 3 + 1)) 51 5 ((ui h2 51 3 (h2.1 51 3 + 1)).1 51 5 - 1), ?_, Or.inr ⟨q, ME_5 (ME_3 E2)⟩⟩
    simp only [f_Mod_closes, jn_eq, eq_true hM.2.2.1, e1, bi_some, eq_false (fun w => q ((mJ_n hs hc2 hc).mp w)), e2, bd_some, bn_eq, ↓reduceIte]
/-- skip -/
theorem CS_skip (hT : Tc h0 z T) (hN : 3000 ≤ N) {p c : Nat} {cs : List Int32} (hC : CS h0 h p cs) (hp : p ≤ z) (hc : 0 < c) (hc2 : c < 1000) : (sg T z (nb T z p) = c ∧ nb T z p < z ∧ ∃ h', f_LRd_skip N h (nI c) = some (1, h') ∧ CS h0 h' (nb T z p + 1) cs) ∨ (¬ sg T z (nb T z p) = c ∧ ∃ h', f_LRd_skip N h (nI c) = some (0, h') ∧ CS h0 h' (nb T z p) cs) := by
  have hs := sg_ltc hT (nb T z p)
  obtain ⟨h1, e1, C1⟩ := CS_next hT hN hC hp
  by_cases q : sg T z (nb T z p) = c
  · refine Or.inl ⟨q, sg_in (T := T) (p := nb T z p) (by omega), _, ?_, CS_inc C1⟩
    rw [f_LRd_skip, e1, bi_some, if_pos (by rw [q]), bn_eq]
  · refine Or.inr ⟨q, _, ?_, C1⟩
    rw [f_LRd_skip, e1, bi_some, if_neg (fun w => by exact q (nI_inj (by omega) (by omega) w))]
end Lst
