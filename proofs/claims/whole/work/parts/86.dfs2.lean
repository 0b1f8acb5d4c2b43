/-! the search itself -/
section Dfs
variable {N s u g : Nat} {hc hm : mu_H}
/-- what a call on p does, as a contract -/
def Cal (hc hm : mu_H) (s g : Nat) (rf : mu_H → Int32 → Int32 → Int32 → Int32 → Int32 → Option mu_H) (left : Nat) : Prop := ∀ h σ been p bits wear, 8 - cnt been.testBit 8 < left → been < 256 → p < 8 → been.testBit p = true → bits < 512 → (∀ r, r < s → bits.testBit r = true → been.testBit (eaH hc r) = true ∧ been.testBit (ebH hc r) = true) → wear + 99 * (8 - cnt been.testBit 8) ≤ 900 → VW hm h → Rp h σ → ∃ h' σ', rf h (nI p) (nI g) (nI been) (nI bits) (nI wear) = some h' ∧ VW hm h' ∧ Rp h' σ' ∧ Lst σ σ' (Vs hc s g been p bits wear)
theorem tr_s (hN : 3000 ≤ N) (hp : Ipar (mg hc hm) s u) (hw : ∀ r, r < s → wrH hc r ≤ 99 ∧ hm.1 68 r = nI (wrH hc r)) {rf : mu_H → Int32 → Int32 → Int32 → Int32 → Int32 → Option mu_H} {left : Nat} (hrf : Cal hc hm s g rf left) {been p bits wear : Nat} (hl : 8 - cnt been.testBit 8 < left + 1) (hbe : been < 256) (hp8 : p < 8) (hbp : been.testBit p = true) (hbi : bits < 512) (hbr : ∀ r, r < s → bits.testBit r = true → been.testBit (eaH hc r) = true ∧ been.testBit (ebH hc r) = true) (hwe : wear + 99 * (8 - cnt been.testBit 8) ≤ 900) {r : Nat} (hr : r < s) {h : mu_H} {σ : Option Nat} (hV : VW hm h) (hR : Rp h σ) : ∃ h' σ', VW hm h' ∧ Rp h' σ' ∧ Lst σ σ' (Vr hc s g been p bits wear r) ∧ ∀ rec, f_Mod_tryWay_L56 N rf (nI p) (nI g) (nI been) (nI bits) (nI wear) rec (nI r, h) = rec (nI (r + 1), h') := by
  have h9 := hp.1
  obtain ⟨g1, g2, g3⟩ := gr_b hp
  obtain ⟨ga, gb⟩ := g1 r hr
  obtain ⟨pa, pb⟩ := g3 r hr
  have hne := g2 r hr
  obtain ⟨w1, w2⟩ := hw r hr
  have hp1 : Ipar (mg hc h) s u := Ipar_fr (mg_same (A := []) (B := []) (K := [36, 37]) sc_refl hV) (by decide) (by decide) hp
  have e5 : h.1 51 25 = nI s := hp1.2.2.2.2.2.1
  have o0 := P_of0 (N := N) hp1 hr
  have o1 := P_of1 (N := N) hp1 hr
  rw [pa] at o0
  rw [pb] at o1
  have oa := P_tch (N := N) hp1 hr (nI p)
  have ht : tch hc r (nI p) = true ↔ eaH hc r = p ∨ ebH hc r = p := by
    rw [tch, pa, pb, Bool.or_eq_true, decide_eq_true_eq, decide_eq_true_eq]
    exact ⟨fun q => by rcases q with q | q; exact Or.inl (nI_inj (by omega) (by omega) q); exact Or.inr (nI_inj (by omega) (by omega) q), fun q => by rcases q with q | q; exact Or.inl (congrArg nI q); exact Or.inr (congrArg nI q)⟩
  have h68 : h.1 68 r = nI (wrH hc r) := by rw [hV.1 68 (by decide) (by decide)]; exact w2
  have h10 : ¬ (1 : Int32) = 0 := by decide
  have ns : ¬ nI s ≤ nI r := fun q => by have := (nI_leI (by omega) (by omega)).mp q; omega
  obtain ⟨q, hq⟩ : ∃ q, q = if eaH hc r = p then ebH hc r else eaH hc r := ⟨_, rfl⟩
  have hq8 : q < 8 := by rw [hq]; split <;> omega
  -- the step, told by where it leads
  have step : ∀ rec, f_Mod_tryWay_L56 N rf (nI p) (nI g) (nI been) (nI bits) (nI wear) rec (nI r, h) = if tch hc r (nI p) = true then (if been.testBit q = true then rec (nI (r + 1), h) else (rf h (nI q) (nI g) (nI been ||| ((1 : Int32) <<< (nI q &&& 31))) (nI bits ||| ((1 : Int32) <<< (nI r &&& 31))) (nI wear + nI (wrH hc r))).bind fun h11 => rec (nI (r + 1), h11)) else rec (nI (r + 1), h) := by
    intro rec
    have hj : ∀ (j5 : Int32 → Option mu_H), (if nI (eaH hc r) = nI p then (f_Mod_of N h (nI r) 1).bind fun x13 => j5 x13 else (f_Mod_of N h (nI r) 0).bind fun x12 => j5 x12) = j5 (nI q) := by
      intro j5
      rw [o0, o1, bd_some, bd_some, hq]
      by_cases c : eaH hc r = p
      · rw [if_pos (congrArg nI c), if_pos c]
      · rw [if_neg (fun x => c (nI_inj (by omega) (by omega) x)), if_neg c]
    have hhas : f_Mod_has N h (nI been) (nI q) = some (if been.testBit q = true then 1 else 0) := by
      rw [f_Mod_has]
      by_cases c : been.testBit q = true
      · rw [if_pos (by rw [sr_1 (by omega) (by omega)]; exact c), if_pos c]
      · rw [if_neg (by rw [sr_1 (by omega) (by omega)]; exact c), if_neg c]
    rw [f_Mod_tryWay_L56, e5, if_neg ns, o0, bd_some, jn_eq, ← o0, hj, oa, bd_some, jn_eq, hhas, bd_some, show 0 + nI r = nI r from add0 _, ix_nI (show r < 214 by omega) (by decide), gd_t, nI_clamp (by omega), h68, nI_1]
    by_cases c1 : tch hc r (nI p) = true
    · rw [if_pos c1, if_neg h10, if_pos c1]
      by_cases c2 : been.testBit q = true
      · rw [if_pos c2, if_neg h10, if_pos c2]
      · rw [if_neg c2, if_pos rfl, if_neg c2]
    · rw [if_neg c1, if_pos rfl, if_neg c1]
  -- where a stretch leads is one place
  have uniq : ∀ p', Eg s (eaH hc) (ebH hc) r p p' → p' = q := by
    rintro p' ⟨-, ⟨x1, x2⟩ | ⟨x1, x2⟩⟩
    · rw [hq, if_pos x1, x2]
    · rw [hq, if_neg (fun y => hne (y.trans x1.symm)), x2]
  by_cases c1 : tch hc r (nI p) = true
  · have hE : Eg s (eaH hc) (ebH hc) r p q := by
      rcases ht.mp c1 with x | x
      · exact ⟨hr, Or.inl ⟨x, by rw [hq, if_pos x]⟩⟩
      · exact ⟨hr, Or.inr ⟨x, by rw [hq, if_neg (fun y => hne (y.trans x.symm))]⟩⟩
    by_cases c2 : been.testBit q = true
    · refine ⟨h, σ, hV, hR, Lst_refl (fun v => ?_), fun rec => ?_⟩
      · rintro ⟨p', e, hb, -⟩
        rw [uniq p' e] at hb
        exact hb c2
      · rw [step, if_pos c1, if_pos c2]
    · have hc1 := cnt_lt (f := been.testBit) (g := (been ||| 2 ^ q).testBit) 8 (fun x _ hx => tb_or.mpr (Or.inl hx)) hq8 c2 (tb_or.mpr (Or.inr rfl))
      have hc2 := cnt_le (been ||| 2 ^ q).testBit 8
      have hrb : ¬ bits.testBit r = true := by
        intro y
        obtain ⟨y1, y2⟩ := hbr r hr y
        have : been.testBit q = true := by rw [hq]; split; exact y2; exact y1
        exact c2 this
      have h2q : 2 ^ q < 2 ^ 8 := Nat.pow_lt_pow_right (by decide) hq8
      have h2r : 2 ^ r < 2 ^ 9 := Nat.pow_lt_pow_right (by decide) (by omega)
      have k1 : been ||| 2 ^ q < 256 := or_lt (n := 8) hbe h2q
      have k2 : bits ||| 2 ^ r < 512 := or_lt (n := 9) hbi h2r
      obtain ⟨h', σ', x1, x2, x3, x4⟩ := hrf h σ (been ||| 2 ^ q) q (bits ||| 2 ^ r) (wear + wrH hc r) (by omega) k1 hq8 (tb_or.mpr (Or.inr rfl)) k2 (fun t ht2 hx => by
        rcases tb_or.mp hx with y | y
        · obtain ⟨y1, y2⟩ := hbr t ht2 y
          exact ⟨tb_or.mpr (Or.inl y1), tb_or.mpr (Or.inl y2)⟩
        · subst y
          rcases hE.2 with ⟨z1, z2⟩ | ⟨z1, z2⟩
          · exact ⟨tb_or.mpr (Or.inl (by rw [z1]; exact hbp)), tb_or.mpr (Or.inr z2)⟩
          · exact ⟨tb_or.mpr (Or.inr z2), tb_or.mpr (Or.inl (by rw [z1]; exact hbp))⟩) (by omega) hV hR
      rw [or_add hbi (by omega) hrb] at x1 x4
      refine ⟨h', σ', x2, x3, ?_, fun rec => ?_⟩
      · refine ⟨?_, fun v hv => ?_, x4.2.2⟩
        · rcases x4.1 with y | ⟨v, y, z⟩
          · exact Or.inl y
          · exact Or.inr ⟨v, ⟨q, hE, c2, y⟩, z⟩
        · obtain ⟨p', e, hb, y⟩ := hv
          rw [uniq p' e] at y
          exact x4.2.1 v y
      · rw [step, if_pos c1, if_neg c2, sh_1 (show q < 9 by omega), sh_1 (show r < 9 by omega), nI_or, nI_or, nI_add, or_add hbi (by omega) hrb, x1, bd_some]
  · refine ⟨h, σ, hV, hR, Lst_refl (fun v => ?_), fun rec => ?_⟩
    · rintro ⟨p', e, -, -⟩
      refine c1 (ht.mpr ?_)
      rcases e.2 with ⟨z1, -⟩ | ⟨z1, -⟩
      · exact Or.inl z1
      · exact Or.inr z1
    · rw [step, if_neg c1]
theorem tr_l (hN : 3000 ≤ N) (hp : Ipar (mg hc hm) s u) (hw : ∀ r, r < s → wrH hc r ≤ 99 ∧ hm.1 68 r = nI (wrH hc r)) {rf : mu_H → Int32 → Int32 → Int32 → Int32 → Int32 → Option mu_H} {left : Nat} (hrf : Cal hc hm s g rf left) {been p bits wear : Nat} (hl : 8 - cnt been.testBit 8 < left + 1) (hbe : been < 256) (hp8 : p < 8) (hbp : been.testBit p = true) (hbi : bits < 512) (hbr : ∀ r, r < s → bits.testBit r = true → been.testBit (eaH hc r) = true ∧ been.testBit (ebH hc r) = true) (hwe : wear + 99 * (8 - cnt been.testBit 8) ≤ 900) : ∀ d i h σ f, i + d = s → d < f → VW hm h → Rp h σ → ∃ h' σ', lp (f_Mod_tryWay_L56 N rf (nI p) (nI g) (nI been) (nI bits) (nI wear)) f (nI i, h) = some h' ∧ VW hm h' ∧ Rp h' σ' ∧ Lst σ σ' (fun v => ∃ r, i ≤ r ∧ r < s ∧ Vr hc s g been p bits wear r v) := by
  have h9 := hp.1
  intro d
  induction d with
  | zero =>
    intro i h σ f hi hf hV hR
    obtain ⟨t, rfl⟩ : ∃ t, f = t + 1 := ⟨f - 1, by omega⟩
    have hp1 : Ipar (mg hc h) s u := Ipar_fr (mg_same (A := []) (B := []) (K := [36, 37]) sc_refl hV) (by decide) (by decide) hp
    have e5 : h.1 51 25 = nI s := hp1.2.2.2.2.2.1
    refine ⟨h, σ, ?_, hV, hR, Lst_refl (fun v hv => by obtain ⟨r, h1, h2, -⟩ := hv; omega)⟩
    show f_Mod_tryWay_L56 N rf (nI p) (nI g) (nI been) (nI bits) (nI wear) _ (nI i, h) = _
    rw [f_Mod_tryWay_L56, e5, if_pos ((nI_leI (by omega) (by omega)).mpr (by omega))]
  | succ d ih =>
    intro i h σ f hi hf hV hR
    obtain ⟨t, rfl⟩ : ∃ t, f = t + 1 := ⟨f - 1, by omega⟩
    obtain ⟨h1, σ1, v1, r1, l1, e1⟩ := tr_s hN hp hw hrf hl hbe hp8 hbp hbi hbr hwe (show i < s by omega) hV hR
    obtain ⟨h2, σ2, e2, v2, r2, l2⟩ := ih (i + 1) h1 σ1 t (by omega) (by omega) v1 r1
    refine ⟨h2, σ2, (e1 _).trans e2, v2, r2, Lst_trans l1 l2 (fun v => ?_)⟩
    constructor
    · rintro ⟨r, a, b, c⟩
      by_cases e : r = i
      · subst e; exact Or.inl c
      · exact Or.inr ⟨r, by omega, b, c⟩
    · rintro (c | ⟨r, a, b, c⟩)
      · exact ⟨i, Nat.le_refl i, by omega, c⟩
      · exact ⟨r, by omega, b, c⟩
theorem tr_R (hN : 3000 ≤ N) (hp : Ipar (mg hc hm) s u) (hw : ∀ r, r < s → wrH hc r ≤ 99 ∧ hm.1 68 r = nI (wrH hc r)) (hg : g < 8) : ∀ d, Cal hc hm s g (fun h a1 a2 a3 a4 a5 => lp (f_Mod_tryWay_R N) d (h, a1, a2, a3, a4, a5)) d := by
  have h9 := hp.1
  intro d
  induction d with
  | zero => intro h σ been p bits wear hl; omega
  | succ d ih =>
    intro h σ been p bits wear hl hbe hp8 hbp hbi hbr hwe hV hR
    show ∃ h' σ', f_Mod_tryWay_B N (fun h a1 a2 a3 a4 a5 => lp (f_Mod_tryWay_R N) d (h, a1, a2, a3, a4, a5)) h (nI p) (nI g) (nI been) (nI bits) (nI wear) = some h' ∧ _
    by_cases c : p = g
    · subst c
      obtain ⟨h', σ', x1, x2, x3, x4⟩ := at_goal (N := N) (been := been) (wear := wear) hp8 hbi (by omega) hR hV (fun h a1 a2 a3 a4 a5 => lp (f_Mod_tryWay_R N) d (h, a1, a2, a3, a4, a5))
      refine ⟨h', σ', x1, x2, x3, ?_⟩
      have e : ∀ v, Vs hc s p been p bits wear v ↔ v = 512 * wear + bits := fun v => by
        constructor
        · rintro ⟨m, w, b, hs, rfl⟩
          cases m with
          | zero => obtain ⟨-, rfl, rfl⟩ := hs; omega
          | succ m => exact absurd rfl hs.1
        · rintro rfl
          exact ⟨0, 0, 0, ⟨rfl, rfl, rfl⟩, by omega⟩
      exact Lst_trans x4 (Lst_refl (P := fun _ => False) (fun v h => h)) (fun v => by rw [e v]; exact ⟨Or.inl, fun q => by rcases q with q | q; exact q; exact absurd q (fun z => z)⟩)
    · obtain ⟨h', σ', x1, x2, x3, x4⟩ := tr_l hN hp hw ih hl hbe hp8 hbp hbi hbr hwe s 0 h σ N (by omega) (by omega) hV hR
      refine ⟨h', σ', ?_, x2, x3, ?_⟩
      · rw [f_Mod_tryWay_B, if_neg (fun q => c (nI_inj (by omega) (by omega) q))]
        exact x1
      · exact Lst_trans x4 (Lst_refl (P := fun _ => False) (fun v h => h)) (fun v => by
          rw [Vs_r c]
          exact ⟨fun ⟨r, a, b⟩ => Or.inl ⟨r, Nat.zero_le r, a, b⟩, fun q => by rcases q with ⟨r, -, a, b⟩ | q; exact ⟨r, a, b⟩; exact absurd q (fun z => z)⟩)
/-- the model's way: the least without return, or none -/
theorem lay_m (hN : 3000 ≤ N) (hp : Ipar (mg hc hm) s u) (hw : ∀ r, r < s → wrH hc r ≤ 99 ∧ hm.1 68 r = nI (wrH hc r)) {p : Nat} (hp8 : p < 8) (hg : g < 8) : ∃ h' σ, f_Mod_layWay N hm (nI p) (nI g) = some h' ∧ VW hm h' ∧ Rp h' σ ∧ (∀ v, σ = some v → ∃ m w b, Sp s (eaH hc) (ebH hc) (wrH hc) g m (2 ^ p) p w b ∧ v = 512 * w + b) ∧ (∀ m w b, Sp s (eaH hc) (ebH hc) (wrH hc) g m (2 ^ p) p w b → ∃ v, σ = some v ∧ v ≤ 512 * w + b) := by
  have hV0 : VW hm (ui (ui hm 51 36 (-1)) 51 37 0) := sM_trans (sM_u5 (by decide)) (sM_u5 (by decide))
  have hR0 : Rp (ui (ui hm 51 36 (-1)) 51 37 0) none := by
    show (ui (ui hm 51 36 (-1)) 51 37 0).1 51 36 = -1
    simp [ui_g]
  have hc8 := cnt_2 hp8
  have h2p : 2 ^ p < 2 ^ 8 := Nat.pow_lt_pow_right (by decide) hp8
  obtain ⟨h', σ, x1, x2, x3, x4⟩ := tr_R hN hp hw hg 10 (ui (ui hm 51 36 (-1)) 51 37 0) none (2 ^ p) p 0 0 (by omega) h2p hp8 (Nat.testBit_two_pow_self) (by decide) (fun r _ q => by rw [Nat.zero_testBit] at q; exact absurd q (by decide)) (by omega) hV0 hR0
  refine ⟨h', σ, ?_, x2, x3, fun v hv => ?_, fun m w b hs => ?_⟩
  · rw [f_Mod_layWay, bn_eq, bn_eq, sh_1 (by omega), f_Mod_tryWay]
    have x1 : lp (f_Mod_tryWay_R N) 10 (ui (ui hm 51 36 (-1)) 51 37 0, nI p, nI g, nI (2 ^ p), nI 0, nI 0) = some h' := x1
    rw [show (0 : Int32) = nI 0 from rfl] at x1 ⊢
    rw [x1, bd_some]
  · rcases x4.1 with y | ⟨v', ⟨m, w, b, y1, y2⟩, y3⟩
    · rw [y] at hv; exact absurd hv (by simp)
    · rw [y3] at hv
      cases hv
      exact ⟨m, w, b, y1, by omega⟩
  · obtain ⟨v, y1, y2⟩ := x4.2.1 (512 * (0 + w) + (0 + b)) ⟨m, w, b, hs, rfl⟩
    exact ⟨v, y1, by omega⟩
end Dfs
