/-! odds: the call -/
theorem jn_n {σ ρ : Type} {b : σ → Option ρ} {f : (σ → Option ρ) → Option ρ} : jn b f = f b := (rfl)
theorem bi_n {ρ : Type} {x : Int32} {h : mu_H} {g : Int32 → mu_H → Option ρ} : bi (some (x, h)) g = g x h := (rfl)
section Odds
variable {N s u r ch : Nat} {hc hm : mu_H}
theorem bad_c (hN : 3000 ≤ N) (hp : Ipar (mg hc hm) s u) (hr : r < s) (hwe : bN (hc.1 15 (9 + r)) 9) {w0 : Nat} (hw : w0 ≤ 99) (ew : hc.1 15 r = nI w0) (hch : ch ≤ 100) {n : Nat} (hn : n ≤ 40) : f_Out_badParts N hc (nI r) (nI n) (nI ch) = some (nI (sig (fun k => Qn hc r ch w0 n (60 + k)) 40), ur hc 47 (PRw (hc.1 47) (Qn hc r ch w0 n))) := by
  have h9 := hp.1
  have hf := fill_c (N := N) (h := hc) (q := 47) (n := 100) (v := 0) (by omega) (by decide)
  have hwr := wearS (N := N) (h := ur hc 47 (fun k => if k < 100 then 0 else hc.1 47 k)) (o := 14) (show r < 34 by omega)
  rw [show (ur hc 47 (fun k => if k < 100 then 0 else hc.1 47 k)).1 (14 + 1) r = nI w0 from by rw [ur_n (by decide)]; exact ew] at hwr
  have e0 : upd (fun k => if k < 100 then 0 else hc.1 47 k) w0 1000000000 = PRw (hc.1 47) (Qn hc r ch w0 0) := by
    funext t
    rw [PRw]
    by_cases c : t = w0
    · subst c
      rw [upd_s, if_pos (by omega), show Qn hc r ch t 0 t = 1000000000 from if_pos rfl]; rfl
    · rw [upd_n c, show Qn hc r ch w0 0 t = 0 from if_neg c]; rfl
  have L26 := fun k => lp_end (body := f_Out_badParts_L26 N (nI r) (nI n) (nI ch) k) (fun i => (nI i, ur hc 47 (PRw (hc.1 47) (Qn hc r ch w0 i)))) n (v := k (ur hc 47 (PRw (hc.1 47) (Qn hc r ch w0 n)))) (fun i hi rec => by
    have hs := spr_c (N := N) (X := hc.1 47) hN hp hr hwe hch (Qn_le (hc := hc) (r := r) hw hch i)
    simp (disch := omega) only [↓bn_n, ↓jn_n, ↓reduceIte, gd_n, bd_n, bn_n, jn_n, bi_n, if_pos, if_neg, i10, nI_lt_i, nI_le_i, nI_eq_i, ll_le, ll_lt, ll_eq, lr_le, lr_lt, lr_eq, ix_n, nI_clamp, nI_add, add_l, add_r, nI_mul, mul_l, mul_r, sub_n, sub_r, div_r, ite_some, if_true, if_false, and_self, and_true, true_and, false_and, and_false, Nat.reduceAdd, Nat.reduceMul, not_false_iff, not_true, f_Out_badParts_L26, hs, Qn]) (fun rec => by
    simp (disch := omega) only [↓bn_n, ↓jn_n, ↓reduceIte, gd_n, bd_n, bn_n, jn_n, bi_n, if_pos, if_neg, i10, nI_lt_i, nI_le_i, nI_eq_i, ll_le, ll_lt, ll_eq, lr_le, lr_lt, lr_eq, ix_n, nI_clamp, nI_add, add_l, add_r, nI_mul, mul_l, mul_r, sub_n, sub_r, div_r, ite_some, if_true, if_false, and_self, and_true, true_and, false_and, and_false, Nat.reduceAdd, Nat.reduceMul, not_false_iff, not_true, f_Out_badParts_L26]) (f := N) (by omega)
  have L51 := lp_end (body := f_Out_badParts_L51 (ur hc 47 (PRw (hc.1 47) (Qn hc r ch w0 n)))) (fun i => (nI (sig (fun k => Qn hc r ch w0 n (60 + k)) i), nI (60 + i))) 40 (v := some (nI (sig (fun k => Qn hc r ch w0 n (60 + k)) 40), ur hc 47 (PRw (hc.1 47) (Qn hc r ch w0 n)))) (fun i hi rec => by
    have e : PRw (hc.1 47) (Qn hc r ch w0 n) (60 + i) = nI (Qn hc r ch w0 n (60 + i)) := by rw [PRw, if_pos (by omega)]
    have e2 : 60 + i + 1 = 60 + (i + 1) := by omega
    simp (disch := omega) only [↓bn_n, ↓jn_n, ↓reduceIte, gd_n, bd_n, bn_n, jn_n, bi_n, if_pos, if_neg, i10, nI_lt_i, nI_le_i, nI_eq_i, ll_le, ll_lt, ll_eq, lr_le, lr_lt, lr_eq, ix_n, nI_clamp, nI_add, add_l, add_r, nI_mul, mul_l, mul_r, sub_n, sub_r, div_r, ite_some, if_true, if_false, and_self, and_true, true_and, false_and, and_false, Nat.reduceAdd, Nat.reduceMul, not_false_iff, not_true, f_Out_badParts_L51, ur_1, e, sig_s, e2]) (fun rec => by
    simp (disch := omega) only [↓bn_n, ↓jn_n, ↓reduceIte, gd_n, bd_n, bn_n, jn_n, bi_n, if_pos, if_neg, i10, nI_lt_i, nI_le_i, nI_eq_i, ll_le, ll_lt, ll_eq, lr_le, lr_lt, lr_eq, ix_n, nI_clamp, nI_add, add_l, add_r, nI_mul, mul_l, mul_r, sub_n, sub_r, div_r, ite_some, if_true, if_false, and_self, and_true, true_and, false_and, and_false, Nat.reduceAdd, Nat.reduceMul, not_false_iff, not_true, f_Out_badParts_L51]) (f := N) (by omega)
  have L26 := L26 (fun h5 => lp (f_Out_badParts_L51 h5) N (0, 60))
  rw [f_Out_badParts, hf, bd_some, hwr, bd_some, ix_nI (by omega) (by decide), gd_t, bn_eq, nI_clamp (by omega), ui_ur, e0, jn_eq]
  exact L26.trans L51
theorem odd_m (hN : 3000 ≤ N) (hp : Ipar (mg hc hm) s u) (hr : r < s) (hwe : bN (hc.1 15 (9 + r)) 9) (ewe : hm.1 68 (9 + r) = hc.1 15 (9 + r)) {w0 : Nat} (hw : w0 ≤ 99) (ew : hm.1 68 r = nI w0) (hch : ch ≤ 100) {n : Nat} (hn : n ≤ 40) : ∃ hm', hm'.1 = hm.1 ∧ lp (f_Mod_odds_L33 (nI r) (fun h5 => lp (f_Mod_odds_L76 N (nI r) (nI n) (nI ch) (fun h7 => lp (f_Mod_odds_L251 h7 (fun z9 => some (z9.toInt32, h7))) N (0, 60))) N (0, h5))) N (0, hm) = some (nI (sig (fun k => Qn hc r ch w0 n (60 + k)) 40), hm') := by
  have h9 := hp.1
  have hu : url (url hm 76 (hm.2 76)) 77 (hm.2 77) = hm := by
    have : url (url hm 76 (hm.2 76)) 77 ((url hm 76 (hm.2 76)).2 77) = url hm 76 (hm.2 76) := url_self
    rw [url_g, if_neg (by decide)] at this
    rw [this, url_self]
  have s33 := fun k => od_33 (N := N) (hm := hm) (A := hm.2 76) (by omega) (show r < 9 by omega) hw ew k
  rw [url_self] at s33
  have e0 : cpl (fun t => lI (if t = w0 then 1000000000 else 0)) (hm.2 76) 100 = LRw (hm.2 76) (Qn hc r ch w0 0) := cpl_L
  rw [e0] at s33
  have hu2 : ∀ A : Nat → Int64, url hm 76 A = url (url hm 76 A) 77 (hm.2 77) := by
    intro A
    have : url (url hm 76 A) 77 ((url hm 76 A).2 77) = url hm 76 A := url_self
    rw [url_g, if_neg (by decide)] at this
    exact this.symm
  have hz : ∀ T : Nat → Int64, cpl (fun _ => 0) T 100 = LRw T (fun _ => 0) := fun T => by
    funext t
    rw [cpl, LRw]; rfl
  -- one season
  have st : ∀ i T k6 rec, i < n → f_Mod_odds_L76 N (nI r) (nI n) (nI ch) k6 rec (nI i, url (url hm 76 (LRw (hm.2 76) (Qn hc r ch w0 i))) 77 T) = rec (nI (i + 1), url (url hm 76 (LRw (hm.2 76) (Qn hc r ch w0 (i + 1)))) 77 (LRw T (Qn hc r ch w0 (i + 1)))) := by
    intro i T k6 rec hi
    have a1 := fun k => od_85 (N := N) (hm := hm) (A := LRw (hm.2 76) (Qn hc r ch w0 i)) (T := T) (by omega) k
    rw [hz] at a1
    have a2 := fun k => od_109 (N := N) (A := hm.2 76) (Y := T) (by omega) hp hr hwe ewe hch (Qn_le (hc := hc) (r := r) hw hch i) k
    have a3 := fun k => od_211 (N := N) (hm := hm) (A := LRw (hm.2 76) (Qn hc r ch w0 i)) (T := LRw T (nxq ch (upf hc r) (unf hc r) (Qn hc r ch w0 i))) (by omega) k
    have e3 : cpl (LRw T (nxq ch (upf hc r) (unf hc r) (Qn hc r ch w0 i))) (LRw (hm.2 76) (Qn hc r ch w0 i)) 100 = LRw (hm.2 76) (Qn hc r ch w0 (i + 1)) := by
      funext t
      rw [cpl, LRw]
      by_cases c : t < 100
      · rw [if_pos c, if_pos c, LRw, if_pos c]; rfl
      · rw [if_neg c, LRw, LRw, if_neg c, if_neg c]
    rw [e3] at a3
    rw [f_Mod_odds_L76, if_neg (fun q => by have := (nI_leI (by omega) (by omega)).mp q; omega), jn_eq, a1, jn_eq, a2, jn_eq, a3, nI_1]
    rfl
  -- n seasons: what stands in 77 is of no matter
  have go : ∀ d i T k6 f, i + d = n → d < f → ∃ T', lp (f_Mod_odds_L76 N (nI r) (nI n) (nI ch) k6) f (nI i, url (url hm 76 (LRw (hm.2 76) (Qn hc r ch w0 i))) 77 T) = k6 (url (url hm 76 (LRw (hm.2 76) (Qn hc r ch w0 n))) 77 T') := by
    intro d
    induction d with
    | zero =>
      intro i T k6 f hi hf
      obtain ⟨g, rfl⟩ : ∃ g, f = g + 1 := ⟨f - 1, by omega⟩
      have : i = n := by omega
      subst this
      refine ⟨T, ?_⟩
      show f_Mod_odds_L76 N (nI r) (nI i) (nI ch) k6 _ (nI i, _) = _
      rw [f_Mod_odds_L76, if_pos ((nI_leI (by omega) (by omega)).mpr (Nat.le_refl i))]
    | succ d ih =>
      intro i T k6 f hi hf
      obtain ⟨g, rfl⟩ : ∃ g, f = g + 1 := ⟨f - 1, by omega⟩
      obtain ⟨T', e⟩ := ih (i + 1) (LRw T (Qn hc r ch w0 (i + 1))) k6 g (by omega) (by omega)
      exact ⟨T', (st i T k6 _ (by omega)).trans e⟩
  obtain ⟨T', e⟩ := go n 0 (hm.2 77) (fun h7 => lp (f_Mod_odds_L251 h7 (fun z9 => some (z9.toInt32, h7))) N (0, 60)) N (by omega) (by omega)
  obtain ⟨H, hH⟩ : ∃ H, H = url (url hm 76 (LRw (hm.2 76) (Qn hc r ch w0 n))) 77 T' := ⟨_, rfl⟩
  have hH2 : H.2 76 = LRw (hm.2 76) (Qn hc r ch w0 n) := by rw [hH, url_g, if_neg (by decide), url_g, if_pos rfl]
  refine ⟨H, by rw [hH]; rfl, ?_⟩
  rw [s33, hu2, show (0 : Int32) = nI 0 from rfl, e, ← hH]
  have L := lp_end (body := f_Mod_odds_L251 H (fun z9 => some (z9.toInt32, H))) (fun i => (lI (sig (fun k => Qn hc r ch w0 n (60 + k)) i), nI (60 + i))) 40 (v := some (nI (sig (fun k => Qn hc r ch w0 n (60 + k)) 40), H)) (fun i hi rec => by
    have e : LRw (hm.2 76) (Qn hc r ch w0 n) (60 + i) = lI (Qn hc r ch w0 n (60 + i)) := by rw [LRw, if_pos (by omega)]
    have e2 : 60 + i + 1 = 60 + (i + 1) := by omega
    simp (disch := omega) only [↓bn_n, ↓jn_n, ↓reduceIte, gd_n, bd_n, bn_n, jn_n, bi_n, if_pos, if_neg, i10, nI_lt_i, nI_le_i, nI_eq_i, ll_le, ll_lt, ll_eq, lr_le, lr_lt, lr_eq, ix_n, nI_clamp, nI_add, add_l, add_r, nI_mul, mul_l, mul_r, sub_n, sub_r, div_r, ite_some, if_true, if_false, and_self, and_true, true_and, false_and, and_false, Nat.reduceAdd, Nat.reduceMul, not_false_iff, not_true, f_Mod_odds_L251, hH2, e, lI_add, sig_s, e2]) (fun rec => by
    simp (disch := omega) only [↓bn_n, ↓jn_n, ↓reduceIte, gd_n, bd_n, bn_n, jn_n, bi_n, if_pos, if_neg, i10, nI_lt_i, nI_le_i, nI_eq_i, ll_le, ll_lt, ll_eq, lr_le, lr_lt, lr_eq, ix_n, nI_clamp, nI_add, add_l, add_r, nI_mul, mul_l, mul_r, sub_n, sub_r, div_r, ite_some, if_true, if_false, and_self, and_true, true_and, false_and, and_false, Nat.reduceAdd, Nat.reduceMul, not_false_iff, not_true, f_Mod_odds_L251, lI_32]) (f := N) (by omega)
  exact L
theorem op_odds (hN : 3000 ≤ N) (a1 a2 a3 : Int32) (hc hm : mu_H) (hI : Inv (mg hc hm)) : ∃ r hc' hm', f_Owe_odds N hc a1 a2 a3 = some (r, hc') ∧ f_Mod_odds N hm a1 a2 a3 = some (r, hm') ∧ (∀ c, 51 ≤ c → hc'.1 c = hc.1 c) ∧ (∀ c, c < 51 → hm'.1 c = hm.1 c) ∧ Inv (mg hc' hm') := by
  obtain ⟨s, u, o, hX⟩ := Cx_of hI
  obtain ⟨hp, -, hnow⟩ := hX
  have h9 := hp.1
  have k3 := c_isS (N := N) (h := hc) (o := 3) hp.2.2.2.1 a1
  have k4 := m_isS (N := N) (h := hm) hp.2.2.2.2.2.1 h9 a1
  have h10 : ¬ (1 : Int32) = 0 := by decide
  have hno := V_I hI VC_refl VM_refl
  have k5 : f_Mod_in N hm a2 0 40 = some (if 0 ≤ a2 ∧ a2 < nI 41 then 1 else 0) := m_in (n := 41) (by decide) a2
  have k6 : f_Mod_in N hm a3 0 100 = some (if 0 ≤ a3 ∧ a3 < nI 101 then 1 else 0) := m_in (n := 101) (by decide) a3
  rcases in_or a1 s (by omega) with ⟨r, hr, rfl, q1, q2⟩ | no1
  · rcases in_or a2 41 (by decide) with ⟨n, hn, rfl, q3, q4⟩ | no2
    · rcases in_or a3 101 (by decide) with ⟨ch, hch, rfl, q5, q6⟩ | no3
      · obtain ⟨w0, hw, ew, ew2⟩ := wear_2 hnow (show r < 9 by omega)
        obtain ⟨-, hwe, -⟩ := hnow.2.2.2.2.1 r (by omega)
        have ewe : hm.1 68 (9 + r) = hc.1 15 (9 + r) := (hnow.1 (9 + r) (by omega)).symm
        have hb := bad_c (N := N) hN hp hr hwe hw ew (show ch ≤ 100 by omega) (show n ≤ 40 by omega)
        obtain ⟨hm', e1, e2⟩ := odd_m (N := N) hN hp hr hwe ewe hw ew2 (show ch ≤ 100 by omega) (show n ≤ 40 by omega)
        have n3 : ¬ nI n < 0 := nlt_le.mpr q3
        have n4 : ¬ (40 : Int32) < nI n := nI_nlt (a := 40) (by omega) (by decide)
        have n5 : ¬ nI ch < 0 := nlt_le.mpr q5
        have n6 : nI ch ≤ 100 := nI_le (b := 100) (by omega) (by decide)
        have f1 : VC hc (ur hc 47 (PRw (hc.1 47) (Qn hc r ch w0 n))) := sc_ur (by decide)
        have f2 : VM hm hm' := ⟨fun c _ _ => by rw [e1], fun k _ => by rw [e1]⟩
        refine ⟨nI (sig (fun k => Qn hc r ch w0 n (60 + k)) 40), _, hm', ?_, ?_, V_I hI f1 f2⟩
        · simp only [f_Owe_odds, k3, q1, q2, and_self, if_true, bd_some, if_neg h10, if_neg n3, if_neg n4, if_neg n5, if_pos n6, hb, bi_some]
        · simp only [f_Mod_odds, k4, k5, k6, q1, q2, q3, q4, q5, q6, and_self, if_true, bd_some, if_neg h10, jn_eq]
          exact e2
      · refine ⟨-1, hc, hm, ?_, ?_, hno⟩
        · have n3 : ¬ nI n < 0 := nlt_le.mpr q3
          have n4 : ¬ (40 : Int32) < nI n := nI_nlt (a := 40) (by omega) (by decide)
          simp only [f_Owe_odds, k3, q1, q2, and_self, if_true, bd_some, if_neg h10, if_neg n3, if_neg n4]
          by_cases c : a3 < 0
          · rw [if_pos c]
          · rw [if_neg c, if_neg (fun q => no3 ⟨nlt_le.mp c, ?_⟩)]
            rw [Int32.lt_iff_toInt_lt]
            rw [Int32.le_iff_toInt_le] at q
            have z1 : (100 : Int32).toInt = 100 := rfl
            have z2 : (nI 101).toInt = 101 := rfl
            omega
        · simp only [f_Mod_odds, k4, k5, k6, q1, q2, q3, q4, and_self, if_true, bd_some, if_neg h10, if_neg no3]
    · refine ⟨-1, hc, hm, ?_, ?_, hno⟩
      · simp only [f_Owe_odds, k3, q1, q2, and_self, if_true, bd_some, if_neg h10]
        by_cases c : a2 < 0
        · rw [if_pos c]
        · rw [if_neg c, if_pos]
          refine Decidable.byContradiction (fun q => no2 ⟨nlt_le.mp c, ?_⟩)
          rw [Int32.lt_iff_toInt_lt]
          rw [Int32.lt_iff_toInt_lt] at q
          have z1 : (40 : Int32).toInt = 40 := rfl
          have z2 : (nI 41).toInt = 41 := rfl
          omega
      · simp only [f_Mod_odds, k4, k5, q1, q2, and_self, if_true, bd_some, if_neg h10, if_neg no2]
  · refine ⟨-1, hc, hm, ?_, ?_, hno⟩
    · simp only [f_Owe_odds, k3, bd_some, if_neg no1, if_true]
    · simp only [f_Mod_odds, k4, bd_some, if_neg no1, if_true]
end Odds
