/-! buys -/
/-- the same for a loop that goes on with k -/
theorem lp_hk {σ ρ κ : Type} {body : κ → (σ → Option ρ) → σ → Option ρ} (V : mu_H → Prop) (st : Nat → mu_H → σ) (n : Nat) (K : κ → mu_H → Option ρ) (hs : ∀ i, i < n → ∀ h, V h → ∃ h', V h' ∧ ∀ k (rec : σ → Option ρ), body k rec (st i h) = rec (st (i + 1) h')) (he : ∀ h, V h → ∀ k (rec : σ → Option ρ), body k rec (st n h) = K k h) : ∀ N h, V h → n < N → ∃ h', V h' ∧ ∀ k, lp (body k) N (st 0 h) = K k h' := by
  have key : ∀ d i, i + d = n → ∀ N h, V h → d < N → ∃ h', V h' ∧ ∀ k, lp (body k) N (st i h) = K k h' := by
    intro d
    induction d with
    | zero =>
      intro i hi N h hV hN
      obtain ⟨f, rfl⟩ : ∃ f, N = f + 1 := ⟨N - 1, by omega⟩
      have : i = n := by omega
      subst this
      exact ⟨h, hV, fun k => he h hV k (lp (body k) f)⟩
    | succ d ih =>
      intro i hi N h hV hN
      obtain ⟨f, rfl⟩ : ∃ f, N = f + 1 := ⟨N - 1, by omega⟩
      obtain ⟨h1, v1, e1⟩ := hs i (by omega) h hV
      obtain ⟨h2, v2, e2⟩ := ih (i + 1) (by omega) f h1 v1 (by omega)
      exact ⟨h2, v2, fun k => (e1 k (lp (body k) f)).trans (e2 k)⟩
  exact fun N h hV hN => key n 0 (by omega) N h hV hN
def bq (h : mu_H) (o : Option (List Cla)) (a r : Nat) : Bool := !cme h a r || decide (efn h o a r 0 < efn h o a r 2)
def bqf (h : mu_H) (o : Option (List Cla)) (a n : Nat) : Bool := fold (fun r b => b && bq h o a r) true n
theorem bqf_s {h : mu_H} {o : Option (List Cla)} {a n : Nat} : bqf h o a (n + 1) = (bqf h o a n && bq h o a n) := rfl
theorem bqf_f {h : mu_H} {o : Option (List Cla)} {a n m : Nat} (hnm : n ≤ m) (hf : bqf h o a n = false) : bqf h o a m = false := by
  induction m with
  | zero => rw [show n = 0 by omega] at hf; exact hf
  | succ m ih =>
    by_cases c : n = m + 1
    · rw [← c]; exact hf
    · rw [bqf_s, ih (by omega), Bool.false_and]
theorem shb_c {N s u a : Nat} {hc hm : mu_H} {o : Option (List Cla)} (hN : 3000 ≤ N) (hX : Cx hc hm s u o) (ha : a < u) : ∀ d i h f, i + d = s → VC hc h → d < f → bqf hc o a i = true → ∃ h', VC hc h' ∧ lp (f_Lab_shouldBuy_L2 N (nI a)) f (nI i, h) = some (if bqf hc o a s = true then 1 else 0, h') := by
  have h9 := hX.1.1
  have e3 : hc.1 3 2 = nI s := hX.1.2.2.2.1
  intro d
  induction d with
  | zero =>
    intro i h f hi hV hf hb
    obtain ⟨g, rfl⟩ : ∃ g, f = g + 1 := ⟨f - 1, by omega⟩
    have hh : h.1 3 2 = nI s := by rw [hV 3 (by decide)]; exact e3
    have hi : i = s := by omega
    subst hi
    refine ⟨h, hV, ?_⟩
    rw [hb, if_pos rfl]
    show f_Lab_shouldBuy_L2 N (nI a) _ (nI i, h) = _
    simp (disch := omega) only [↓bn_eq, ↓jn_eq, ↓reduceIte, gd_t, bd_some, bn_eq, jn_eq, bi_some, if_pos, if_neg, i10, nI_lt_i, nI_le_i, nI_eq_i, ll_le, ll_lt, ll_eq, lr_le, lr_lt, lr_eq, ix_n, nI_clamp, nI_add, add_l, add_r, nI_mul, mul_l, mul_r, sub_n, sub_r, div_r, ite_some, if_true, if_false, and_self, and_true, true_and, false_and, and_false, Nat.reduceAdd, Nat.reduceMul, not_false_iff, not_true, f_Lab_shouldBuy_L2, f_Par_stretches, hh]
  | succ d ih =>
    intro i h f hi hV hf hb
    obtain ⟨g, rfl⟩ : ∃ g, f = g + 1 := ⟨f - 1, by omega⟩
    have hh : h.1 3 2 = nI s := by rw [hV 3 (by decide)]; exact e3
    have his : i < s := by omega
    obtain ⟨w1, w2, -⟩ := wr_2 hX his
    obtain ⟨h1, v1, x1⟩ := ec (N := N) (k := 2) hX hN hV ha his w1 (by decide) (Or.inl rfl)
    rw [show nI 2 = (2 : Int32) from rfl] at x1
    have hwe : f_Sta_wear N h 14 (nI i) = some (nI (tn (hc.1 15 i))) := by
      rw [wearS (o := 14) (show i < 34 by omega), hV 15 (by decide), ← w2]
    have l2 := efv_le (h := hc) (o := o) (a := a) (r := i) (k := 2) (w := tn (hc.1 15 i))
    have l0 := efv_le (h := hc) (o := o) (a := a) (r := i) (k := 0) (w := tn (hc.1 15 i))
    by_cases c : cme hc a i = true
    · obtain ⟨h2, v2, x2⟩ := ec (N := N) (k := 0) hX hN v1 ha his w1 (by decide) (Or.inr (Or.inr c))
      rw [show nI 0 = (0 : Int32) from rfl] at x2
      by_cases e : efv hc o a i 0 (tn (hc.1 15 i)) < efv hc o a i 2 (tn (hc.1 15 i))
      · have hb1 : bqf hc o a (i + 1) = true := by rw [bqf_s, hb, bq, c]; simp [efn, e]
        obtain ⟨h3, v3, x3⟩ := ih (i + 1) h2 g (by omega) v2 (by omega) hb1
        refine ⟨h3, v3, ?_⟩
        rw [← x3]
        show f_Lab_shouldBuy_L2 N (nI a) _ (nI i, h) = _
        simp (disch := omega) only [↓bn_eq, ↓jn_eq, ↓reduceIte, gd_t, bd_some, bn_eq, jn_eq, bi_some, if_pos, if_neg, i10, nI_lt_i, nI_le_i, nI_eq_i, ll_le, ll_lt, ll_eq, lr_le, lr_lt, lr_eq, ix_n, nI_clamp, nI_add, add_l, add_r, nI_mul, mul_l, mul_r, sub_n, sub_r, div_r, ite_some, if_true, if_false, and_self, and_true, true_and, false_and, and_false, Nat.reduceAdd, Nat.reduceMul, not_false_iff, not_true, f_Lab_shouldBuy_L2, f_Par_stretches, hh, hwe, x1, cmc hX v1 ha his, c, x2, show ¬ (1 : Int32) = 0 from by decide]
      · have hb1 : bqf hc o a (i + 1) = false := by rw [bqf_s, hb, bq, c]; simp [efn, e]
        refine ⟨h2, v2, ?_⟩
        rw [bqf_f (show i + 1 ≤ s by omega) hb1]
        show f_Lab_shouldBuy_L2 N (nI a) _ (nI i, h) = _
        simp (disch := omega) only [↓bn_eq, ↓jn_eq, ↓reduceIte, gd_t, bd_some, bn_eq, jn_eq, bi_some, if_pos, if_neg, i10, nI_lt_i, nI_le_i, nI_eq_i, ll_le, ll_lt, ll_eq, lr_le, lr_lt, lr_eq, ix_n, nI_clamp, nI_add, add_l, add_r, nI_mul, mul_l, mul_r, sub_n, sub_r, div_r, ite_some, if_true, if_false, and_self, and_true, true_and, false_and, and_false, Nat.reduceAdd, Nat.reduceMul, not_false_iff, not_true, f_Lab_shouldBuy_L2, f_Par_stretches, hh, hwe, x1, cmc hX v1 ha his, c, x2]
        simp
    · have hb1 : bqf hc o a (i + 1) = true := by rw [bqf_s, hb, bq]; simp [c]
      obtain ⟨h3, v3, x3⟩ := ih (i + 1) h1 g (by omega) v1 (by omega) hb1
      refine ⟨h3, v3, ?_⟩
      rw [← x3]
      show f_Lab_shouldBuy_L2 N (nI a) _ (nI i, h) = _
      simp (disch := omega) only [↓bn_eq, ↓jn_eq, ↓reduceIte, gd_t, bd_some, bn_eq, jn_eq, bi_some, if_pos, if_neg, i10, nI_lt_i, nI_le_i, nI_eq_i, ll_le, ll_lt, ll_eq, lr_le, lr_lt, lr_eq, ix_n, nI_clamp, nI_add, add_l, add_r, nI_mul, mul_l, mul_r, sub_n, sub_r, div_r, ite_some, if_true, if_false, and_self, and_true, true_and, false_and, and_false, Nat.reduceAdd, Nat.reduceMul, not_false_iff, not_true, f_Lab_shouldBuy_L2, f_Par_stretches, hh, hwe, x1, cmc hX v1 ha his, if_neg c]
theorem shb_m {N s u a : Nat} {hc hm : mu_H} {o : Option (List Cla)} (hN : 3000 ≤ N) (hX : Cx hc hm s u o) (ha : a < u) (h : mu_H) (hV : VM hm h) : ∃ h', VM hm h' ∧ ∀ k, lp (f_Mod_buys_L26 N (nI a) k) N (1, 0, h) = k (if bqf hc o a s = true then 1 else 0, h') := by
  have h9 := hX.1.1
  have e5 : hm.1 51 25 = nI s := hX.1.2.2.2.2.2.1
  have h10 : ¬ (1 : Int32) = 0 := by decide
  have L := lp_hk (body := fun k => f_Mod_buys_L26 N (nI a) k) (VM hm) (fun i h => (if bqf hc o a i = true then 1 else 0, nI i, h)) s (fun k h => k (if bqf hc o a s = true then 1 else 0, h)) (by
    intro i hi h hV
    have hh : h.1 51 25 = nI s := by rw [hV.2 25 (by decide)]; exact e5
    by_cases b : bqf hc o a i = true
    · by_cases c : cme hc a i = true
      · obtain ⟨h1, v1, x1⟩ := emn (N := N) (k := 0) hX hN hV ha hi (by decide) (Or.inr (Or.inr c))
        obtain ⟨h2, v2, x2⟩ := emn (N := N) (k := 2) hX hN v1 ha hi (by decide) (Or.inl rfl)
        rw [show nI 0 = (0 : Int32) from rfl] at x1
        rw [show nI 2 = (2 : Int32) from rfl] at x2
        have l2 := efn_le (h := hc) (o := o) (a := a) (r := i) (k := 2)
        have l0 := efn_le (h := hc) (o := o) (a := a) (r := i) (k := 0)
        refine ⟨h2, v2, fun k rec => ?_⟩
        by_cases e : efn hc o a i 0 < efn hc o a i 2
        · have hb1 : bqf hc o a (i + 1) = true := by rw [bqf_s, b, bq, c]; simp [e]
          rw [hb1, b]
          simp (disch := omega) only [↓bn_eq, ↓jn_eq, ↓reduceIte, gd_t, bd_some, bn_eq, jn_eq, bi_some, if_pos, if_neg, i10, nI_lt_i, nI_le_i, nI_eq_i, ll_le, ll_lt, ll_eq, lr_le, lr_lt, lr_eq, ix_n, nI_clamp, nI_add, add_l, add_r, nI_mul, mul_l, mul_r, sub_n, sub_r, div_r, ite_some, if_true, if_false, and_self, and_true, true_and, false_and, and_false, Nat.reduceAdd, Nat.reduceMul, not_false_iff, not_true, f_Mod_buys_L26, hh, h10, cmm hX hV ha hi, c, x1, x2]
        · have hb1 : bqf hc o a (i + 1) = false := by rw [bqf_s, b, bq, c]; simp [e]
          rw [hb1, b]
          simp (disch := omega) only [↓bn_eq, ↓jn_eq, ↓reduceIte, gd_t, bd_some, bn_eq, jn_eq, bi_some, if_pos, if_neg, i10, nI_lt_i, nI_le_i, nI_eq_i, ll_le, ll_lt, ll_eq, lr_le, lr_lt, lr_eq, ix_n, nI_clamp, nI_add, add_l, add_r, nI_mul, mul_l, mul_r, sub_n, sub_r, div_r, ite_some, if_true, if_false, and_self, and_true, true_and, false_and, and_false, Nat.reduceAdd, Nat.reduceMul, not_false_iff, not_true, f_Mod_buys_L26, hh, h10, cmm hX hV ha hi, c, x1, x2]
          simp
      · refine ⟨h, hV, fun k rec => ?_⟩
        have hb1 : bqf hc o a (i + 1) = true := by rw [bqf_s, b, bq]; simp [c]
        rw [hb1, b]
        simp (disch := omega) only [↓bn_eq, ↓jn_eq, ↓reduceIte, gd_t, bd_some, bn_eq, jn_eq, bi_some, if_pos, if_neg, i10, nI_lt_i, nI_le_i, nI_eq_i, ll_le, ll_lt, ll_eq, lr_le, lr_lt, lr_eq, ix_n, nI_clamp, nI_add, add_l, add_r, nI_mul, mul_l, mul_r, sub_n, sub_r, div_r, ite_some, if_true, if_false, and_self, and_true, true_and, false_and, and_false, Nat.reduceAdd, Nat.reduceMul, not_false_iff, not_true, f_Mod_buys_L26, hh, h10, cmm hX hV ha hi, if_neg c]
    · refine ⟨h, hV, fun k rec => ?_⟩
      have b' : bqf hc o a i = false := by simpa using b
      rw [bqf_f (show i ≤ i + 1 by omega) b', b']
      have hft : ¬ (false = true) := by decide
      simp (disch := omega) only [↓bn_eq, ↓jn_eq, ↓reduceIte, gd_t, bd_some, bn_eq, jn_eq, bi_some, if_pos, if_neg, i10, nI_lt_i, nI_le_i, nI_eq_i, ll_le, ll_lt, ll_eq, lr_le, lr_lt, lr_eq, ix_n, nI_clamp, nI_add, add_l, add_r, nI_mul, mul_l, mul_r, sub_n, sub_r, div_r, ite_some, if_true, if_false, and_self, and_true, true_and, false_and, and_false, Nat.reduceAdd, Nat.reduceMul, not_false_iff, not_true, f_Mod_buys_L26, hh, hft]) (by
    intro h hV k rec
    have hh : h.1 51 25 = nI s := by rw [hV.2 25 (by decide)]; exact e5
    simp (disch := omega) only [↓bn_eq, ↓jn_eq, ↓reduceIte, gd_t, bd_some, bn_eq, jn_eq, bi_some, if_pos, if_neg, i10, nI_lt_i, nI_le_i, nI_eq_i, ll_le, ll_lt, ll_eq, lr_le, lr_lt, lr_eq, ix_n, nI_clamp, nI_add, add_l, add_r, nI_mul, mul_l, mul_r, sub_n, sub_r, div_r, ite_some, if_true, if_false, and_self, and_true, true_and, false_and, and_false, Nat.reduceAdd, Nat.reduceMul, not_false_iff, not_true, f_Mod_buys_L26, hh]) N h hV (by omega)
  exact L
def byg (h : mu_H) (o : Option (List Cla)) (s i : Nat) (x : Int32) : Int32 := if bqf h o i s = true then x ||| ((1 : Int32) <<< (nI i &&& 31)) else x
theorem op_buys {N : Nat} (hN : 3000 ≤ N) (hc hm : mu_H) (hI : Inv (mg hc hm)) : ∃ r hc' hm', f_Owe_buys N hc = some (r, hc') ∧ f_Mod_buys N hm = some (r, hm') ∧ (∀ c, 51 ≤ c → hc'.1 c = hc.1 c) ∧ (∀ c, c < 51 → hm'.1 c = hm.1 c) ∧ Inv (mg hc' hm') := by
  obtain ⟨s, u, o, hX⟩ := Cx_of hI
  have hp := hX.1
  have h9 := hp.1
  have h6 := hp.2.1
  have e3 : hc.1 3 2 = nI s := hp.2.2.2.1
  have e4 : hc.1 3 3 = nI u := hp.2.2.2.2.1
  have e5 : hm.1 51 25 = nI s := hp.2.2.2.2.2.1
  have e6 : hm.1 51 26 = nI u := hp.2.2.2.2.2.2.1
  have hz := nI_z (show s < 2 ^ 31 by omega)
  have h10 : ¬ (1 : Int32) = 0 := by decide
  have hno := V_I hI VC_refl VM_refl
  by_cases hs : s = 0
  · refine ⟨-1, hc, hm, ?_, ?_, hno⟩
    · simp only [f_Owe_buys, f_Par_isNone, e3, hz.mpr hs, if_true, bd_some, if_neg h10]
    · simp only [f_Mod_buys, e5, hz.mpr hs, if_true]
  have h0 : ¬ nI s = 0 := fun q => hs (hz.mp q)
  have L1 := lp_hx (body := f_Lab_buyers_L4 N) (VC hc) (fun i h => (fold (byg hc o s) 0 i, nI i, h)) u (fun h => some (fold (byg hc o s) 0 u, h)) (by
    intro i hi h hV
    have hh : h.1 3 3 = nI u := by rw [hV 3 (by decide)]; exact e4
    obtain ⟨h1, v1, x1⟩ := shb_c hN hX hi s 0 h N (by omega) hV (by omega) rfl
    have x1 : f_Lab_shouldBuy N h (nI i) = some (if bqf hc o i s = true then 1 else 0, h1) := x1
    refine ⟨h1, v1, fun rec => ?_⟩
    simp only [fold, byg]
    simp (disch := omega) only [↓bn_eq, ↓jn_eq, ↓reduceIte, gd_t, bd_some, bn_eq, jn_eq, bi_some, if_pos, if_neg, i10, nI_lt_i, nI_le_i, nI_eq_i, ll_le, ll_lt, ll_eq, lr_le, lr_lt, lr_eq, ix_n, nI_clamp, nI_add, add_l, add_r, nI_mul, mul_l, mul_r, sub_n, sub_r, div_r, ite_some, if_true, if_false, and_self, and_true, true_and, false_and, and_false, Nat.reduceAdd, Nat.reduceMul, not_false_iff, not_true, f_Lab_buyers_L4, f_Par_houses, hh, x1]
    by_cases b : bqf hc o i s = true <;> simp [b]) (by
    intro h hV rec
    have hh : h.1 3 3 = nI u := by rw [hV 3 (by decide)]; exact e4
    simp (disch := omega) only [↓bn_eq, ↓jn_eq, ↓reduceIte, gd_t, bd_some, bn_eq, jn_eq, bi_some, if_pos, if_neg, i10, nI_lt_i, nI_le_i, nI_eq_i, ll_le, ll_lt, ll_eq, lr_le, lr_lt, lr_eq, ix_n, nI_clamp, nI_add, add_l, add_r, nI_mul, mul_l, mul_r, sub_n, sub_r, div_r, ite_some, if_true, if_false, and_self, and_true, true_and, false_and, and_false, Nat.reduceAdd, Nat.reduceMul, not_false_iff, not_true, f_Lab_buyers_L4, f_Par_houses, hh]) N hc VC_refl (by omega)
  have L2 := lp_hx (body := f_Mod_buys_L13 N) (VM hm) (fun i h => (fold (byg hc o s) 0 i, nI i, h)) u (fun h => some (fold (byg hc o s) 0 u, h)) (by
    intro i hi h hV
    have hh : h.1 51 26 = nI u := by rw [hV.2 26 (by decide)]; exact e6
    obtain ⟨h1, v1, x1⟩ := shb_m hN hX hi h hV
    refine ⟨h1, v1, fun rec => ?_⟩
    simp only [fold, byg]
    simp (disch := omega) only [↓bn_eq, ↓jn_eq, ↓reduceIte, gd_t, bd_some, bn_eq, jn_eq, bi_some, if_pos, if_neg, i10, nI_lt_i, nI_le_i, nI_eq_i, ll_le, ll_lt, ll_eq, lr_le, lr_lt, lr_eq, ix_n, nI_clamp, nI_add, add_l, add_r, nI_mul, mul_l, mul_r, sub_n, sub_r, div_r, ite_some, if_true, if_false, and_self, and_true, true_and, false_and, and_false, Nat.reduceAdd, Nat.reduceMul, not_false_iff, not_true, f_Mod_buys_L13, hh, x1]
    by_cases b : bqf hc o i s = true <;> simp [b]) (by
    intro h hV rec
    have hh : h.1 51 26 = nI u := by rw [hV.2 26 (by decide)]; exact e6
    simp (disch := omega) only [↓bn_eq, ↓jn_eq, ↓reduceIte, gd_t, bd_some, bn_eq, jn_eq, bi_some, if_pos, if_neg, i10, nI_lt_i, nI_le_i, nI_eq_i, ll_le, ll_lt, ll_eq, lr_le, lr_lt, lr_eq, ix_n, nI_clamp, nI_add, add_l, add_r, nI_mul, mul_l, mul_r, sub_n, sub_r, div_r, ite_some, if_true, if_false, and_self, and_true, true_and, false_and, and_false, Nat.reduceAdd, Nat.reduceMul, not_false_iff, not_true, f_Mod_buys_L13, hh]) N hm VM_refl (by omega)
  obtain ⟨hc', v1, L1⟩ := L1
  obtain ⟨hm', v2, L2⟩ := L2
  refine ⟨fold (byg hc o s) 0 u, hc', hm', ?_, ?_, V_I hI v1 v2⟩
  · simp only [f_Owe_buys, f_Par_isNone, e3, if_neg h0, bd_some, if_true, f_Lab_buyers]
    rw [show ((0 : Int32), (0 : Int32), hc) = (fold (byg hc o s) 0 0, nI 0, hc) from rfl, L1]
    rfl
  · simp only [f_Mod_buys, e5, if_neg h0]
    exact L2
