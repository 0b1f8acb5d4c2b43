/-! whose, worth, buys -/
def whg (h : mu_H) (o : Option (List Cla)) (r : Nat) (e : Int32) (i : Nat) (x : Int32) : Int32 := if cme h i r = true then (if nI (efn h o i r 0) = e ∨ nI (efn h o i r 1) = e then x ||| ((1 : Int32) <<< (nI i &&& 31)) else x) else x
theorem op_whose {N : Nat} (hN : 3000 ≤ N) (a1 a2 : Int32) (hc hm : mu_H) (hI : Inv (mg hc hm)) : ∃ r hc' hm', f_Owe_whose N hc a1 a2 = some (r, hc') ∧ f_Mod_whose N hm a1 a2 = some (r, hm') ∧ (∀ c, 51 ≤ c → hc'.1 c = hc.1 c) ∧ (∀ c, c < 51 → hm'.1 c = hm.1 c) ∧ Inv (mg hc' hm') := by
  obtain ⟨s, u, o, hX⟩ := Cx_of hI
  have hp := hX.1
  have h9 := hp.1
  have h6 := hp.2.1
  have e4 : hc.1 3 3 = nI u := hp.2.2.2.2.1
  have e6 : hm.1 51 26 = nI u := hp.2.2.2.2.2.2.1
  have k3 := c_isS (N := N) (h := hc) (o := 3) hp.2.2.2.1 a1
  have k4 := m_isS (N := N) (h := hm) hp.2.2.2.2.2.1 h9 a1
  have h10 : ¬ (1 : Int32) = 0 := by decide
  have hno := V_I hI VC_refl VM_refl
  have k5 : f_Mod_in N hm a2 0 99 = some (if 0 ≤ a2 ∧ a2 < nI 100 then 1 else 0) := m_in (n := 100) (by decide) a2
  rcases in_or a1 s (by omega) with ⟨r, hr, rfl, q1, q2⟩ | no1
  · rcases in_or a2 100 (by decide) with ⟨e, he, rfl, q3, q4⟩ | no2
    · have q3' : ¬ nI e < 0 := nlt_le.mpr q3
      have q4' : nI e ≤ 99 := nI_le (b := 99) (by omega) (by decide)
      have L1 := lp_hx (body := f_Lab_doersOf_L5 N (nI r) (nI e)) (VC hc) (fun i h => (fold (whg hc o r (nI e)) 0 i, nI i, h)) u (fun h => some (fold (whg hc o r (nI e)) 0 u, h)) (by
        intro i hi h hV
        have hh : h.1 3 3 = nI u := by rw [hV 3 (by decide)]; exact e4
        by_cases c : cme hc i r = true
        · obtain ⟨h1, v1, w1⟩ := ecn (N := N) (k := 0) hX hN hV hi hr (by decide) (Or.inr (Or.inr c))
          obtain ⟨h2, v2, w2⟩ := ecn (N := N) (k := 1) hX hN v1 hi hr (by decide) (Or.inr (Or.inr c))
          rw [show nI 0 = (0 : Int32) from rfl] at w1
          rw [show nI 1 = (1 : Int32) from rfl] at w2
          by_cases d1 : nI (efn hc o i r 0) = nI e
          · refine ⟨h1, v1, fun rec => ?_⟩
            simp only [fold, whg, if_pos c, d1, true_or, if_true]
            simp (disch := omega) only [↓bn_eq, ↓jn_eq, ↓reduceIte, gd_t, bd_some, bn_eq, jn_eq, bi_some, if_pos, if_neg, i10, nI_lt_i, nI_le_i, nI_eq_i, ll_le, ll_lt, ll_eq, lr_le, lr_lt, lr_eq, ix_n, nI_clamp, nI_add, add_l, add_r, nI_mul, mul_l, mul_r, sub_n, sub_r, div_r, ite_some, if_true, if_false, and_self, and_true, true_and, false_and, and_false, Nat.reduceAdd, Nat.reduceMul, not_false_iff, not_true, f_Lab_doersOf_L5, f_Par_houses, hh, cmc hX hV hi hr, c, w1, d1]
          · refine ⟨h2, v2, fun rec => ?_⟩
            simp only [fold, whg, if_pos c, d1, false_or]
            simp (disch := omega) only [↓bn_eq, ↓jn_eq, ↓reduceIte, gd_t, bd_some, bn_eq, jn_eq, bi_some, if_pos, if_neg, i10, nI_lt_i, nI_le_i, nI_eq_i, ll_le, ll_lt, ll_eq, lr_le, lr_lt, lr_eq, ix_n, nI_clamp, nI_add, add_l, add_r, nI_mul, mul_l, mul_r, sub_n, sub_r, div_r, ite_some, if_true, if_false, and_self, and_true, true_and, false_and, and_false, Nat.reduceAdd, Nat.reduceMul, not_false_iff, not_true, f_Lab_doersOf_L5, f_Par_houses, hh, cmc hX hV hi hr, c, w1]
            simp only [if_neg d1, w2, bi_some]
            by_cases d2 : nI (efn hc o i r 1) = nI e
            · simp only [if_pos d2, bn_eq]
            · simp only [if_neg d2]
        · refine ⟨h, hV, fun rec => ?_⟩
          simp only [fold, whg, if_neg c]
          simp (disch := omega) only [↓bn_eq, ↓jn_eq, ↓reduceIte, gd_t, bd_some, bn_eq, jn_eq, bi_some, if_pos, if_neg, i10, nI_lt_i, nI_le_i, nI_eq_i, ll_le, ll_lt, ll_eq, lr_le, lr_lt, lr_eq, ix_n, nI_clamp, nI_add, add_l, add_r, nI_mul, mul_l, mul_r, sub_n, sub_r, div_r, ite_some, if_true, if_false, and_self, and_true, true_and, false_and, and_false, Nat.reduceAdd, Nat.reduceMul, not_false_iff, not_true, f_Lab_doersOf_L5, f_Par_houses, hh, cmc hX hV hi hr, if_neg c]) (by
        intro h hV rec
        have hh : h.1 3 3 = nI u := by rw [hV 3 (by decide)]; exact e4
        simp (disch := omega) only [↓bn_eq, ↓jn_eq, ↓reduceIte, gd_t, bd_some, bn_eq, jn_eq, bi_some, if_pos, if_neg, i10, nI_lt_i, nI_le_i, nI_eq_i, ll_le, ll_lt, ll_eq, lr_le, lr_lt, lr_eq, ix_n, nI_clamp, nI_add, add_l, add_r, nI_mul, mul_l, mul_r, sub_n, sub_r, div_r, ite_some, if_true, if_false, and_self, and_true, true_and, false_and, and_false, Nat.reduceAdd, Nat.reduceMul, not_false_iff, not_true, f_Lab_doersOf_L5, f_Par_houses, hh]) N hc VC_refl (by omega)
      have L2 := lp_hx (body := f_Mod_whose_L25 N (nI r) (nI e)) (VM hm) (fun i h => (fold (whg hc o r (nI e)) 0 i, nI i, h)) u (fun h => some (fold (whg hc o r (nI e)) 0 u, h)) (by
        intro i hi h hV
        have hh : h.1 51 26 = nI u := by rw [hV.2 26 (by decide)]; exact e6
        by_cases c : cme hc i r = true
        · obtain ⟨h1, v1, w1⟩ := emn (N := N) (k := 0) hX hN hV hi hr (by decide) (Or.inr (Or.inr c))
          obtain ⟨h2, v2, w2⟩ := emn (N := N) (k := 1) hX hN v1 hi hr (by decide) (Or.inr (Or.inr c))
          rw [show nI 0 = (0 : Int32) from rfl] at w1
          rw [show nI 1 = (1 : Int32) from rfl] at w2
          by_cases d1 : nI (efn hc o i r 0) = nI e
          · refine ⟨h1, v1, fun rec => ?_⟩
            simp only [fold, whg, if_pos c, d1, true_or, if_true]
            simp (disch := omega) only [↓bn_eq, ↓jn_eq, ↓reduceIte, gd_t, bd_some, bn_eq, jn_eq, bi_some, if_pos, if_neg, i10, nI_lt_i, nI_le_i, nI_eq_i, ll_le, ll_lt, ll_eq, lr_le, lr_lt, lr_eq, ix_n, nI_clamp, nI_add, add_l, add_r, nI_mul, mul_l, mul_r, sub_n, sub_r, div_r, ite_some, if_true, if_false, and_self, and_true, true_and, false_and, and_false, Nat.reduceAdd, Nat.reduceMul, not_false_iff, not_true, f_Mod_whose_L25, hh, cmm hX hV hi hr, c, w1, d1, h10]
          · refine ⟨h2, v2, fun rec => ?_⟩
            simp only [fold, whg, if_pos c, d1, false_or]
            simp (disch := omega) only [↓bn_eq, ↓jn_eq, ↓reduceIte, gd_t, bd_some, bn_eq, jn_eq, bi_some, if_pos, if_neg, i10, nI_lt_i, nI_le_i, nI_eq_i, ll_le, ll_lt, ll_eq, lr_le, lr_lt, lr_eq, ix_n, nI_clamp, nI_add, add_l, add_r, nI_mul, mul_l, mul_r, sub_n, sub_r, div_r, ite_some, if_true, if_false, and_self, and_true, true_and, false_and, and_false, Nat.reduceAdd, Nat.reduceMul, not_false_iff, not_true, f_Mod_whose_L25, hh, cmm hX hV hi hr, c, w1, h10]
            simp only [if_neg d1, w2, bi_some]
            by_cases d2 : nI (efn hc o i r 1) = nI e
            · simp only [if_pos d2, bn_eq]
            · simp only [if_neg d2, or0, bn_eq]
        · refine ⟨h, hV, fun rec => ?_⟩
          simp only [fold, whg, if_neg c]
          simp (disch := omega) only [↓bn_eq, ↓jn_eq, ↓reduceIte, gd_t, bd_some, bn_eq, jn_eq, bi_some, if_pos, if_neg, i10, nI_lt_i, nI_le_i, nI_eq_i, ll_le, ll_lt, ll_eq, lr_le, lr_lt, lr_eq, ix_n, nI_clamp, nI_add, add_l, add_r, nI_mul, mul_l, mul_r, sub_n, sub_r, div_r, ite_some, if_true, if_false, and_self, and_true, true_and, false_and, and_false, Nat.reduceAdd, Nat.reduceMul, not_false_iff, not_true, f_Mod_whose_L25, hh, cmm hX hV hi hr, if_neg c, or0]) (by
        intro h hV rec
        have hh : h.1 51 26 = nI u := by rw [hV.2 26 (by decide)]; exact e6
        simp (disch := omega) only [↓bn_eq, ↓jn_eq, ↓reduceIte, gd_t, bd_some, bn_eq, jn_eq, bi_some, if_pos, if_neg, i10, nI_lt_i, nI_le_i, nI_eq_i, ll_le, ll_lt, ll_eq, lr_le, lr_lt, lr_eq, ix_n, nI_clamp, nI_add, add_l, add_r, nI_mul, mul_l, mul_r, sub_n, sub_r, div_r, ite_some, if_true, if_false, and_self, and_true, true_and, false_and, and_false, Nat.reduceAdd, Nat.reduceMul, not_false_iff, not_true, f_Mod_whose_L25, hh]) N hm VM_refl (by omega)
      obtain ⟨hc', v1, L1⟩ := L1
      obtain ⟨hm', v2, L2⟩ := L2
      refine ⟨fold (whg hc o r (nI e)) 0 u, hc', hm', ?_, ?_, V_I hI v1 v2⟩
      · simp only [f_Owe_whose, k3, q1, q2, and_self, if_true, bd_some, if_neg h10, if_neg q3', if_pos q4', f_Lab_doersOf]
        rw [show ((0 : Int32), (0 : Int32), hc) = (fold (whg hc o r (nI e)) 0 0, nI 0, hc) from rfl, L1]
        rfl
      · simp only [f_Mod_whose, k4, k5, q1, q2, q3, q4, and_self, if_true, bd_some, if_neg h10]
        exact L2
    · refine ⟨-1, hc, hm, ?_, ?_, hno⟩
      · simp only [f_Owe_whose, k3, q1, q2, and_self, if_true, bd_some, if_neg h10]
        by_cases c : a2 < 0
        · rw [if_pos c]
        · rw [if_neg c, if_neg (fun q => no2 ⟨nlt_le.mp c, ?_⟩)]
          rw [Int32.lt_iff_toInt_lt]
          rw [Int32.le_iff_toInt_le] at q
          have z1 : (99 : Int32).toInt = 99 := rfl
          have z2 : (nI 100).toInt = 100 := rfl
          omega
      · simp only [f_Mod_whose, k4, k5, q1, q2, and_self, if_true, bd_some, if_neg h10, if_neg no2]
  · refine ⟨-1, hc, hm, ?_, ?_, hno⟩
    · simp only [f_Owe_whose, k3, bd_some, if_neg no1, if_true]
    · simp only [f_Mod_whose, k4, bd_some, if_neg no1, if_true]
/-- worth: the best stretch so far -/
def wog (h : mu_H) (o : Option (List Cla)) (a i : Nat) (b : Option Nat) : Option Nat := if cme h a i = true then (match b with
  | none => some i
  | some j => if efn h o a i 0 ≤ efn h o a j 0 then some j else some i) else b
def enc (b : Option Nat) : Int32 := match b with
  | none => -1
  | some j => nI j
def enm (h : mu_H) (o : Option (List Cla)) (a : Nat) (b : Option Nat) : Int32 := match b with
  | none => -1
  | some j => nI (efn h o a j 0)
theorem wog_lt {h : mu_H} {o : Option (List Cla)} {a : Nat} : ∀ n j, fold (wog h o a) none n = some j → j < n ∧ cme h a j = true := by
  intro n
  induction n with
  | zero => intro j hj; exact absurd hj (by simp [fold])
  | succ n ih =>
    intro j hj
    simp only [fold, wog] at hj
    by_cases c : cme h a n = true
    · rw [if_pos c] at hj
      cases e : fold (wog h o a) none n with
      | none =>
        rw [e] at hj
        simp only [Option.some.injEq] at hj
        subst hj
        exact ⟨by omega, c⟩
      | some i =>
        rw [e] at hj
        simp only at hj
        have := ih i e
        by_cases d : efn h o a n 0 ≤ efn h o a i 0
        · rw [if_pos d] at hj
          cases hj
          exact ⟨by omega, this.2⟩
        · rw [if_neg d] at hj
          cases hj
          exact ⟨by omega, c⟩
    · rw [if_neg c] at hj
      have := ih j hj
      exact ⟨by omega, this.2⟩
theorem op_worth {N : Nat} (hN : 3000 ≤ N) (a1 : Int32) (hc hm : mu_H) (hI : Inv (mg hc hm)) : ∃ r hc' hm', f_Owe_worth N hc a1 = some (r, hc') ∧ f_Mod_worth N hm a1 = some (r, hm') ∧ (∀ c, 51 ≤ c → hc'.1 c = hc.1 c) ∧ (∀ c, c < 51 → hm'.1 c = hm.1 c) ∧ Inv (mg hc' hm') := by
  obtain ⟨s, u, o, hX⟩ := Cx_of hI
  have hp := hX.1
  have h9 := hp.1
  have h6 := hp.2.1
  have e3 : hc.1 3 2 = nI s := hp.2.2.2.1
  have e5 : hm.1 51 25 = nI s := hp.2.2.2.2.2.1
  have e6 : hm.1 51 26 = nI u := hp.2.2.2.2.2.2.1
  have k1 := c_isH (N := N) (h := hc) (o := 3) hp.2.2.2.2.1 a1
  have h10 : ¬ (1 : Int32) = 0 := by decide
  have hno := V_I hI VC_refl VM_refl
  have hl1 : ∀ n : Nat, n < 2147483648 → ¬ nI n ≤ -1 := fun n hn q => by
    rw [Int32.le_iff_toInt_le, nI_toInt hn] at q
    have z : (-1 : Int32).toInt = -1 := rfl
    omega
  rcases in_or a1 u (by omega) with ⟨a, ha, rfl, q1, q2⟩ | no1
  · have L1 := lp_hx (body := f_Lab_mostWorth_L7 N (nI a)) (VC hc) (fun i h => (enm hc o a (fold (wog hc o a) none i), enc (fold (wog hc o a) none i), nI i, h)) s (fun h => some (enc (fold (wog hc o a) none s), h)) (by
      intro i hi h hV
      have hh : h.1 3 2 = nI s := by rw [hV 3 (by decide)]; exact e3
      simp only [fold]
      have hlt := wog_lt (h := hc) (o := o) (a := a) i
      generalize fold (wog hc o a) none i = b at hlt
      by_cases c : cme hc a i = true
      · obtain ⟨h1, v1, w1⟩ := ecn (N := N) (k := 0) hX hN hV ha hi (by decide) (Or.inr (Or.inr c))
        obtain ⟨h2, v2, w2⟩ := ecn (N := N) (k := 0) hX hN v1 ha hi (by decide) (Or.inr (Or.inr c))
        rw [show nI 0 = (0 : Int32) from rfl] at w1 w2
        have l1 := efn_le (h := hc) (o := o) (a := a) (r := i) (k := 0)
        cases b with
        | none =>
          refine ⟨h2, v2, fun rec => ?_⟩
          simp only [wog, if_pos c, enm, enc]
          simp (disch := omega) only [↓bn_eq, ↓jn_eq, ↓reduceIte, gd_t, bd_some, bn_eq, jn_eq, bi_some, if_pos, if_neg, i10, nI_lt_i, nI_le_i, nI_eq_i, ll_le, ll_lt, ll_eq, lr_le, lr_lt, lr_eq, ix_n, nI_clamp, nI_add, add_l, add_r, nI_mul, mul_l, mul_r, sub_n, sub_r, div_r, ite_some, if_true, if_false, and_self, and_true, true_and, false_and, and_false, Nat.reduceAdd, Nat.reduceMul, not_false_iff, not_true, f_Lab_mostWorth_L7, f_Par_stretches, hh, cmc hX hV ha hi, c, w1, hl1, w2]
        | some j =>
          obtain ⟨hj, -⟩ := hlt j rfl
          have l2 := efn_le (h := hc) (o := o) (a := a) (r := j) (k := 0)
          by_cases d : efn hc o a i 0 ≤ efn hc o a j 0
          · refine ⟨h1, v1, fun rec => ?_⟩
            simp only [wog, if_pos c, enm, enc, if_pos d]
            simp (disch := omega) only [↓bn_eq, ↓jn_eq, ↓reduceIte, gd_t, bd_some, bn_eq, jn_eq, bi_some, if_pos, if_neg, i10, nI_lt_i, nI_le_i, nI_eq_i, ll_le, ll_lt, ll_eq, lr_le, lr_lt, lr_eq, ix_n, nI_clamp, nI_add, add_l, add_r, nI_mul, mul_l, mul_r, sub_n, sub_r, div_r, ite_some, if_true, if_false, and_self, and_true, true_and, false_and, and_false, Nat.reduceAdd, Nat.reduceMul, not_false_iff, not_true, f_Lab_mostWorth_L7, f_Par_stretches, hh, cmc hX hV ha hi, c, w1]
          · refine ⟨h2, v2, fun rec => ?_⟩
            simp only [wog, if_pos c, enm, enc, if_neg d]
            simp (disch := omega) only [↓bn_eq, ↓jn_eq, ↓reduceIte, gd_t, bd_some, bn_eq, jn_eq, bi_some, if_pos, if_neg, i10, nI_lt_i, nI_le_i, nI_eq_i, ll_le, ll_lt, ll_eq, lr_le, lr_lt, lr_eq, ix_n, nI_clamp, nI_add, add_l, add_r, nI_mul, mul_l, mul_r, sub_n, sub_r, div_r, ite_some, if_true, if_false, and_self, and_true, true_and, false_and, and_false, Nat.reduceAdd, Nat.reduceMul, not_false_iff, not_true, f_Lab_mostWorth_L7, f_Par_stretches, hh, cmc hX hV ha hi, c, w1, w2]
      · refine ⟨h, hV, fun rec => ?_⟩
        simp only [wog, if_neg c]
        simp (disch := omega) only [↓bn_eq, ↓jn_eq, ↓reduceIte, gd_t, bd_some, bn_eq, jn_eq, bi_some, if_pos, if_neg, i10, nI_lt_i, nI_le_i, nI_eq_i, ll_le, ll_lt, ll_eq, lr_le, lr_lt, lr_eq, ix_n, nI_clamp, nI_add, add_l, add_r, nI_mul, mul_l, mul_r, sub_n, sub_r, div_r, ite_some, if_true, if_false, and_self, and_true, true_and, false_and, and_false, Nat.reduceAdd, Nat.reduceMul, not_false_iff, not_true, f_Lab_mostWorth_L7, f_Par_stretches, hh, cmc hX hV ha hi, if_neg c]) (by
      intro h hV rec
      have hh : h.1 3 2 = nI s := by rw [hV 3 (by decide)]; exact e3
      simp (disch := omega) only [↓bn_eq, ↓jn_eq, ↓reduceIte, gd_t, bd_some, bn_eq, jn_eq, bi_some, if_pos, if_neg, i10, nI_lt_i, nI_le_i, nI_eq_i, ll_le, ll_lt, ll_eq, lr_le, lr_lt, lr_eq, ix_n, nI_clamp, nI_add, add_l, add_r, nI_mul, mul_l, mul_r, sub_n, sub_r, div_r, ite_some, if_true, if_false, and_self, and_true, true_and, false_and, and_false, Nat.reduceAdd, Nat.reduceMul, not_false_iff, not_true, f_Lab_mostWorth_L7, f_Par_stretches, hh]) N hc VC_refl (by omega)
    have L2 := lp_hx (body := f_Mod_worth_L4 N (nI a)) (VM hm) (fun i h => (enc (fold (wog hc o a) none i), nI i, h)) s (fun h => some (enc (fold (wog hc o a) none s), h)) (by
      intro i hi h hV
      have hh : h.1 51 25 = nI s := by rw [hV.2 25 (by decide)]; exact e5
      have k2 := m_isH (N := N) (h := h) (by rw [hV.2 26 (by decide)]; exact e6) h6 (nI a)
      simp only [q1, q2, and_self, if_true] at k2
      simp only [fold]
      have hlt := wog_lt (h := hc) (o := o) (a := a) i
      generalize fold (wog hc o a) none i = b at hlt
      by_cases c : cme hc a i = true
      · cases b with
        | none =>
          refine ⟨h, hV, fun rec => ?_⟩
          simp only [wog, if_pos c, enc]
          simp (disch := omega) only [↓bn_eq, ↓jn_eq, ↓reduceIte, gd_t, bd_some, bn_eq, jn_eq, bi_some, if_pos, if_neg, i10, nI_lt_i, nI_le_i, nI_eq_i, ll_le, ll_lt, ll_eq, lr_le, lr_lt, lr_eq, ix_n, nI_clamp, nI_add, add_l, add_r, nI_mul, mul_l, mul_r, sub_n, sub_r, div_r, ite_some, if_true, if_false, and_self, and_true, true_and, false_and, and_false, Nat.reduceAdd, Nat.reduceMul, not_false_iff, not_true, f_Mod_worth_L4, hh, k2, h10, cmm hX hV ha hi, c]
        | some j =>
          obtain ⟨hj, cj⟩ := hlt j rfl
          obtain ⟨h1, v1, w1⟩ := emn (N := N) (k := 0) hX hN hV ha hi (by decide) (Or.inr (Or.inr c))
          obtain ⟨h2, v2, w2⟩ := emn (N := N) (k := 0) hX hN v1 ha (show j < s by omega) (by decide) (Or.inr (Or.inr cj))
          rw [show nI 0 = (0 : Int32) from rfl] at w1 w2
          have l1 := efn_le (h := hc) (o := o) (a := a) (r := i) (k := 0)
          have l2 := efn_le (h := hc) (o := o) (a := a) (r := j) (k := 0)
          refine ⟨h2, v2, fun rec => ?_⟩
          simp only [wog, if_pos c]
          by_cases d : efn hc o a i 0 ≤ efn hc o a j 0
          · simp only [if_pos d, enc]
            simp (disch := omega) only [↓bn_eq, ↓jn_eq, ↓reduceIte, gd_t, bd_some, bn_eq, jn_eq, bi_some, if_pos, if_neg, i10, nI_lt_i, nI_le_i, nI_eq_i, ll_le, ll_lt, ll_eq, lr_le, lr_lt, lr_eq, ix_n, nI_clamp, nI_add, add_l, add_r, nI_mul, mul_l, mul_r, sub_n, sub_r, div_r, ite_some, if_true, if_false, and_self, and_true, true_and, false_and, and_false, Nat.reduceAdd, Nat.reduceMul, not_false_iff, not_true, f_Mod_worth_L4, hh, k2, h10, cmm hX hV ha hi, c, neg1, w1, w2]
          · simp only [if_neg d, enc]
            simp (disch := omega) only [↓bn_eq, ↓jn_eq, ↓reduceIte, gd_t, bd_some, bn_eq, jn_eq, bi_some, if_pos, if_neg, i10, nI_lt_i, nI_le_i, nI_eq_i, ll_le, ll_lt, ll_eq, lr_le, lr_lt, lr_eq, ix_n, nI_clamp, nI_add, add_l, add_r, nI_mul, mul_l, mul_r, sub_n, sub_r, div_r, ite_some, if_true, if_false, and_self, and_true, true_and, false_and, and_false, Nat.reduceAdd, Nat.reduceMul, not_false_iff, not_true, f_Mod_worth_L4, hh, k2, h10, cmm hX hV ha hi, c, neg1, w1, w2]
      · refine ⟨h, hV, fun rec => ?_⟩
        simp only [wog, if_neg c]
        simp (disch := omega) only [↓bn_eq, ↓jn_eq, ↓reduceIte, gd_t, bd_some, bn_eq, jn_eq, bi_some, if_pos, if_neg, i10, nI_lt_i, nI_le_i, nI_eq_i, ll_le, ll_lt, ll_eq, lr_le, lr_lt, lr_eq, ix_n, nI_clamp, nI_add, add_l, add_r, nI_mul, mul_l, mul_r, sub_n, sub_r, div_r, ite_some, if_true, if_false, and_self, and_true, true_and, false_and, and_false, Nat.reduceAdd, Nat.reduceMul, not_false_iff, not_true, f_Mod_worth_L4, hh, k2, h10, cmm hX hV ha hi, if_neg c]) (by
      intro h hV rec
      have hh : h.1 51 25 = nI s := by rw [hV.2 25 (by decide)]; exact e5
      simp (disch := omega) only [↓bn_eq, ↓jn_eq, ↓reduceIte, gd_t, bd_some, bn_eq, jn_eq, bi_some, if_pos, if_neg, i10, nI_lt_i, nI_le_i, nI_eq_i, ll_le, ll_lt, ll_eq, lr_le, lr_lt, lr_eq, ix_n, nI_clamp, nI_add, add_l, add_r, nI_mul, mul_l, mul_r, sub_n, sub_r, div_r, ite_some, if_true, if_false, and_self, and_true, true_and, false_and, and_false, Nat.reduceAdd, Nat.reduceMul, not_false_iff, not_true, f_Mod_worth_L4, hh]) N hm VM_refl (by omega)
    obtain ⟨hc', v1, L1⟩ := L1
    obtain ⟨hm', v2, L2⟩ := L2
    refine ⟨enc (fold (wog hc o a) none s), hc', hm', ?_, L2, V_I hI v1 v2⟩
    simp only [f_Owe_worth, k1, q1, q2, and_self, if_true, bd_some, if_neg h10, f_Lab_mostWorth]
    rw [show ((-1 : Int32), (-1 : Int32), (0 : Int32), hc) = (enm hc o a (fold (wog hc o a) none 0), enc (fold (wog hc o a) none 0), nI 0, hc) from rfl, L1]
    rfl
  · refine ⟨-1, hc, hm, ?_, ?_, hno⟩
    · simp only [f_Owe_worth, k1, bd_some, if_neg no1, if_true]
    · obtain ⟨f, rfl⟩ : ∃ f, N = f + 1 := ⟨N - 1, by omega⟩
      have k2 := m_isH (N := f + 1) (h := hm) e6 h6 a1
      show f_Mod_worth_L4 (f + 1) a1 _ (-1, 0, hm) = _
      simp only [f_Mod_worth_L4, e5, k2, if_neg no1, bd_some, if_true]
      split <;> rfl
