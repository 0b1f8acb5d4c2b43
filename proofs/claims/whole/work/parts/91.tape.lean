/-! the tape, as both read it; blanks; digits -/
section Tape
variable {N z : Nat} {T : Nat → Nat} {h : mu_H}
def Tc (h : mu_H) (z : Nat) (T : Nat → Nat) : Prop := z ≤ 240 ∧ h.1 1 1 = nI z ∧ ∀ i, i < z → h.1 2 i &&& 255 = nI (T i) ∧ 0 < T i ∧ T i < 256 ∧ (T i = 32 → h.1 2 i = 32)
def Tm (h : mu_H) (z : Nat) (T : Nat → Nat) : Prop := z ≤ 240 ∧ h.1 51 2 = nI z ∧ ∀ i, i < z → h.1 52 i = nI (T i) ∧ 0 < T i ∧ T i < 256
theorem T_of {hc hm : mu_H} (ht : Itap (mg hc hm)) : ∃ z T, Tc hc z T ∧ Tm hm z T := by
  obtain ⟨z, hz, k1, k2, k3⟩ := ht
  have k1 : hc.1 1 1 = nI z := k1
  have k2 : hm.1 51 2 = nI z := k2
  have k3 : ∀ i, i < z → hc.1 2 i &&& 255 = hm.1 52 i ∧ ∃ k, k ≤ 255 ∧ k ≠ 0 ∧ hm.1 52 i = nI k ∧ (k = 32 → hc.1 2 i = 32) := k3
  refine ⟨z, fun i => tn (hm.1 52 i), ⟨hz, k1, fun i hi => ?_⟩, ⟨hz, k2, fun i hi => ?_⟩⟩
  · obtain ⟨e, k, a, b, c, d⟩ := k3 i hi
    have : tn (hm.1 52 i) = k := by rw [c]; exact tn_n (by omega)
    show _ = nI (tn (hm.1 52 i)) ∧ 0 < tn (hm.1 52 i) ∧ tn (hm.1 52 i) < 256 ∧ (tn (hm.1 52 i) = 32 → hc.1 2 i = 32)
    rw [this, e, c]
    exact ⟨rfl, by omega, by omega, d⟩
  · obtain ⟨e, k, a, b, c, d⟩ := k3 i hi
    have : tn (hm.1 52 i) = k := by rw [c]; exact tn_n (by omega)
    show _ = nI (tn (hm.1 52 i)) ∧ 0 < tn (hm.1 52 i) ∧ tn (hm.1 52 i) < 256
    rw [this, c]
    exact ⟨rfl, by omega, by omega⟩
/-- the sign at a place, 0 behind the end -/
def sg (T : Nat → Nat) (z p : Nat) : Nat := if p < z then T p else 0
/-- the model's sign -/
def mJ (c : Nat) : Int32 := if c = 0 then -1 else nI c
def sk (T : Nat → Nat) (z : Nat) : Nat → Nat → Nat
  | 0, p => p
  | f + 1, p => if sg T z p = 32 then sk T z f (p + 1) else p
/-- behind the blanks -/
def nb (T : Nat → Nat) (z p : Nat) : Nat := sk T z (z - p) p
theorem sg_in {p : Nat} (h : ¬ sg T z p = 0) : p < z := by
  refine Decidable.byContradiction (fun q => h ?_)
  rw [sg, if_neg q]
theorem sg_lt (hT : Tm h z T) (p : Nat) : sg T z p < 256 := by
  rw [sg]
  split
  · rename_i c; exact (hT.2.2 p c).2.2
  · omega
theorem sg_ltc (hT : Tc h z T) (p : Nat) : sg T z p < 256 := by
  rw [sg]
  split
  · rename_i c; exact (hT.2.2 p c).2.2.1
  · omega
theorem sk_p : ∀ f p, z - p ≤ f → p ≤ z → p ≤ sk T z f p ∧ sk T z f p ≤ z ∧ ¬ sg T z (sk T z f p) = 32 := by
  intro f
  induction f with
  | zero =>
    intro p h1 h2
    refine ⟨Nat.le_refl p, h2, ?_⟩
    show ¬ sg T z p = 32
    rw [sg, if_neg (by omega)]; omega
  | succ f ih =>
    intro p h1 h2
    rw [sk]
    by_cases c : sg T z p = 32
    · rw [if_pos c]
      have := sg_in (T := T) (z := z) (p := p) (by omega)
      obtain ⟨a, b, d⟩ := ih (p + 1) (by omega) (by omega)
      exact ⟨by omega, b, d⟩
    · rw [if_neg c]
      exact ⟨Nat.le_refl p, h2, c⟩
theorem nb_p {p : Nat} (hp : p ≤ z) : p ≤ nb T z p ∧ nb T z p ≤ z ∧ ¬ sg T z (nb T z p) = 32 := sk_p (z - p) p (Nat.le_refl _) hp
theorem sk_n {p : Nat} (hc : ¬ sg T z p = 32) : ∀ f, sk T z f p = p := by
  intro f
  cases f with
  | zero => rfl
  | succ f => rw [sk, if_neg hc]
theorem nb_n {p : Nat} (hc : ¬ sg T z p = 32) : nb T z p = p := sk_n hc _
theorem nb_nb {p : Nat} (hp : p ≤ z) : nb T z (nb T z p) = nb T z p := nb_n (nb_p hp).2.2
/-- the class's sign -/
theorem sign_c (hT : Tc h z T) {p : Nat} (hp : p < 1000) : f_Tap_sign N h (nI p) = some (nI (sg T z p)) := by
  obtain ⟨hz, e, k⟩ := hT
  rw [f_Tap_sign, if_neg (nI_pos (by omega)), e, sg]
  by_cases c : p < z
  · rw [if_neg (fun q => by have := (nI_leI (by omega) (by omega)).mp q; omega), ix_nI (by omega) (by decide), gd_t, nI_clamp (by omega), (k p c).1, if_pos c]
  · rw [if_pos ((nI_leI (by omega) (by omega)).mpr (by omega)), if_neg c]; rfl
def isD (c : Nat) : Bool := decide (48 ≤ c ∧ c ≤ 57)
theorem digit_c (hT : Tc h z T) {p : Nat} (hp : p < 1000) : f_Tap_isDigit N h (nI p) = some (if isD (sg T z p) = true then 1 else 0) := by
  have hs := sg_ltc hT p
  rw [f_Tap_isDigit, sign_c hT hp, bd_some]
  generalize sg T z p = c at *
  simp (disch := omega) only [↓bn_eq, ↓jn_eq, ↓reduceIte, gd_t, bd_some, bn_eq, jn_eq, bi_some, if_pos, if_neg, i10, nI_lt_i, nI_le_i, nI_eq_i, ll_le, ll_lt, ll_eq, lr_le, lr_lt, lr_eq, ix_n, nI_clamp, nI_add, add_l, add_r, nI_mul, mul_l, mul_r, sub_n, sub_r, div_r, ite_some, if_true, if_false, and_self, and_true, true_and, false_and, and_false, Nat.reduceAdd, Nat.reduceMul, not_false_iff, not_true, isD, decide_eq_true_eq]
  by_cases c1 : c < 48
  · rw [if_pos c1, if_neg (by omega)]
  · by_cases c2 : 57 < c
    · rw [if_neg c1, if_pos c2, if_neg (by omega)]
    · rw [if_neg c1, if_neg c2, if_pos (by omega)]
theorem blank_c (hT : Tc h z T) : ∀ f p M, z - p = f → f < M → p ≤ z → lp (f_Tap_pastBlanks_L10 h) M (nI p) = some (nI (sk T z f p)) := by
  have hz := hT.1
  intro f
  induction f with
  | zero =>
    intro p M h1 h2 h3
    obtain ⟨M, rfl⟩ : ∃ q, M = q + 1 := ⟨M - 1, by omega⟩
    rw [lp_1, f_Tap_pastBlanks_L10, hT.2.1, if_pos ((nI_leI (by omega) (by omega)).mpr (by omega))]
    rfl
  | succ f ih =>
    intro p M h1 h2 h3
    obtain ⟨M, rfl⟩ : ∃ q, M = q + 1 := ⟨M - 1, by omega⟩
    have hpz : p < z := by omega
    have hk := hT.2.2 p hpz
    have hsg : sg T z p = T p := by rw [sg, if_pos hpz]
    have hlt : T p < 256 := hk.2.2.1
    rw [lp_1, f_Tap_pastBlanks_L10, hT.2.1, if_neg (fun q => by have := (nI_leI (by omega) (by omega)).mp q; omega), ix_nI (by omega) (by decide), gd_t, nI_clamp (by omega), sk, hsg]
    by_cases c : T p = 32
    · rw [if_pos (hk.2.2.2 c), if_pos c, nI_1]
      exact ih (p + 1) M (by omega) (by omega) (by omega)
    · have hne : ¬ h.1 2 p = 32 := by
        intro q
        have e := hk.1
        rw [q] at e
        have e2 : nI (T p) = nI 32 := e.symm.trans (by decide)
        exact c (nI_inj (by omega) (by decide) e2)
      rw [if_neg hne, if_neg c]
theorem past_c (hT : Tc h z T) (hN : 3000 ≤ N) {p : Nat} (hp : p ≤ z) : f_Tap_pastBlanks N h (nI p) = some (nI (nb T z p)) := by
  have hz := hT.1
  show (if (0 : Int32) ≤ nI p then lp (f_Tap_pastBlanks_L10 h) N (nI p) else lp (f_Tap_pastBlanks_L10 h) N 0) = _
  rw [if_pos (show (0 : Int32) ≤ nI p from (nI_leI (a := 0) (by decide) (by omega)).mpr (Nat.zero_le p))]
  exact blank_c hT (z - p) p N rfl (by omega) hp
/-- the model's sign -/
theorem here_m (hT : Tm h z T) {p : Nat} (he : h.1 51 3 = nI p) (hp : p < 1000) : f_Mod_here N h = some (mJ (sg T z p)) := by
  obtain ⟨hz, e, k⟩ := hT
  rw [f_Mod_here, e, he, sg, mJ]
  by_cases c : p < z
  · have := k p c
    rw [if_neg (fun q => by have := (nI_leI (by omega) (by omega)).mp q; omega), ix_nI (by omega) (by decide), gd_t, nI_clamp (by omega), this.1, if_pos c, if_neg (by omega)]
  · rw [if_pos ((nI_leI (by omega) (by omega)).mpr (by omega)), if_neg c, if_pos rfl]
theorem mJ_eq {c k : Nat} (hc : c < 256) (hk : k < 1000) (h0 : 0 < k) : (mJ c = nI k) = (c = k) := by
  rw [mJ]
  by_cases d : c = 0
  · rw [if_pos d, neg1' (by omega)]
    exact propext ⟨fun q => q.elim, fun q => by omega⟩
  · rw [if_neg d, nI_eq_i (by omega) (by omega)]
theorem mJ_n {c k : Nat} (hc : c < 256) (hk : k < 1000) (h0 : 0 < k) : mJ c = nI k ↔ c = k := by rw [mJ_eq hc hk h0]
theorem mJ_1 {c : Nat} (hc : c < 256) : mJ c = -1 ↔ c = 0 := by
  rw [mJ]
  by_cases d : c = 0
  · rw [if_pos d]; exact ⟨fun _ => d, fun _ => rfl⟩
  · rw [if_neg d, neg1 (by omega)]; exact ⟨fun q => q.elim, fun q => d q⟩
theorem digit_m {c : Nat} (hc : c < 256) : f_Mod_isDigit N h (mJ c) = some (if isD c = true then 1 else 0) := by
  rw [mJ]
  by_cases d : c = 0
  · subst d
    rw [if_pos rfl, f_Mod_isDigit, if_pos (show (-1 : Int32) < 48 by decide)]
    rfl
  · rw [if_neg d, f_Mod_isDigit]
    simp (disch := omega) only [↓bn_eq, ↓jn_eq, ↓reduceIte, gd_t, bd_some, bn_eq, jn_eq, bi_some, if_pos, if_neg, i10, nI_lt_i, nI_le_i, nI_eq_i, ll_le, ll_lt, ll_eq, lr_le, lr_lt, lr_eq, ix_n, nI_clamp, nI_add, add_l, add_r, nI_mul, mul_l, mul_r, sub_n, sub_r, div_r, ite_some, if_true, if_false, and_self, and_true, true_and, false_and, and_false, Nat.reduceAdd, Nat.reduceMul, not_false_iff, not_true, isD, decide_eq_true_eq]
    by_cases c1 : c < 48
    · rw [if_pos c1, if_neg (by omega)]
    · by_cases c2 : 57 < c
      · rw [if_neg c1, if_pos c2, if_neg (by omega)]
      · rw [if_neg c1, if_neg c2, if_pos (by omega)]
theorem ui_ui {h : mu_H} {a k : Nat} {x y : Int32} : ui (ui h a k x) a k y = ui h a k y := by
  rw [ui, ui_s, ui, ur_ur, ui]
  congr 1
  funext j
  by_cases c : j = k
  · rw [c, upd_s, upd_s]
  · rw [upd_n c, upd_n c, upd_n c]
theorem ui_self {h : mu_H} {a k : Nat} {x : Int32} (e : h.1 a k = x) : ui h a k x = h := by
  rw [ui]
  have : upd (h.1 a) k x = h.1 a := by
    funext j
    by_cases c : j = k
    · rw [c, upd_s, e]
    · rw [upd_n c]
  rw [this, ur_self]
theorem Tm_fr {h' : mu_H} {A K : List Nat} (e : sM A K h h') (hA : 52 ∉ A) (hK : 2 ∉ K) (hT : Tm h z T) : Tm h' z T := by
  rw [Tm, e.1 52 hA (by decide), e.2 2 hK]; exact hT
theorem Tc_fr {h' : mu_H} {A : List Nat} (e : sc A h h') (h1 : 1 ∉ A) (h2 : 2 ∉ A) (hT : Tc h z T) : Tc h' z T := by
  rw [Tc, e 1 h1, e 2 h2]; exact hT
theorem look_g {k1 : mu_H → Option (Int32 × mu_H)} : ∀ f p M h, Tm h z T → h.1 51 3 = nI p → z - p = f → f < M → p ≤ z → lp (f_Mod_look_L0 N k1) M h = k1 (ui h 51 3 (nI (sk T z f p))) := by
  intro f
  induction f with
  | zero =>
    intro p M h hT he h1 h2 h3
    obtain ⟨M, rfl⟩ : ∃ q, M = q + 1 := ⟨M - 1, by omega⟩
    have hz := hT.1
    have hsg : sg T z p = 0 := by rw [sg, if_neg (by omega)]
    rw [lp_1, f_Mod_look_L0, here_m hT he (by omega), bd_some, hsg, if_neg (show ¬ mJ 0 = 32 by decide)]
    show _ = k1 (ui h 51 3 (nI p))
    rw [ui_self he]
  | succ f ih =>
    intro p M h hT he h1 h2 h3
    obtain ⟨M, rfl⟩ : ∃ q, M = q + 1 := ⟨M - 1, by omega⟩
    have hz := hT.1
    have hs := sg_lt hT p
    rw [lp_1, f_Mod_look_L0, here_m hT he (by omega), bd_some, sk]
    by_cases c : sg T z p = 32
    · rw [if_pos (by rw [c]; rfl), if_pos c, bn_eq, he, nI_1]
      rw [ih (p + 1) M (ui h 51 3 (nI (p + 1))) (Tm_fr (A := []) (K := [3]) (sM_u5 (by decide)) (by decide) (by decide) hT) (by rw [ui_s, upd_s]) (by omega) (by omega) (by omega), ui_ui]
    · rw [if_neg (fun q => by exact c ((mJ_n hs (k := 32) (by decide) (by decide)).mp q)), if_neg c, ui_self he]
theorem look_m (hT : Tm h z T) (hN : 3000 ≤ N) {p : Nat} (he : h.1 51 3 = nI p) (hp : p ≤ z) : f_Mod_look N h = some (mJ (sg T z (nb T z p)), ui h 51 3 (nI (nb T z p))) := by
  have hz := hT.1
  have hb := nb_p (T := T) hp
  rw [f_Mod_look, jn_eq, look_g (z - p) p N h hT he rfl (by omega) hp]
  show (f_Mod_here N (ui h 51 3 (nI (nb T z p)))).bind _ = _
  rw [here_m (p := nb T z p) (Tm_fr (A := []) (K := [3]) (sM_u5 (by decide)) (by decide) (by decide) hT) (by rw [ui_s, upd_s]) (by omega)]
  rfl
theorem nx_c (hT : Tc h z T) (hN : 3000 ≤ N) {p : Nat} (he : h.1 10 2 = nI p) (hp : p ≤ z) : f_LRd_next N h = some (nI (sg T z (nb T z p)), ui h 10 2 (nI (nb T z p))) := by
  have hz := hT.1
  have hb := nb_p (T := T) hp
  have hT' : Tc (ui h 10 2 (nI (nb T z p))) z T := Tc_fr (A := [10]) (sc_ui (by decide)) (by decide) (by decide) hT
  rw [f_LRd_next, he, past_c hT hN hp, bd_some, bn_eq, ui_s, upd_s, sign_c hT' (by omega), bd_some]
end Tape
