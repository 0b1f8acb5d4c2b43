/-! fails: the model's loops, the call -/
section Fails
variable {N s u m : Nat} {h : mu_H}
theorem fl_20 (hN : 300 ≤ N) (h9 : s ≤ 9) (e5 : h.1 51 25 = nI s) (k : mu_H → Option (Int32 × mu_H)) : lp (f_Mod_fails_L20 k) N (0, h) = k (ur h 75 (cpn (h.1 68) (h.1 75) s)) := by
  have key := lp_end (body := f_Mod_fails_L20 k) (fun i => (nI i, ur h 75 (cpn (h.1 68) (h.1 75) i))) s (v := k (ur h 75 (cpn (h.1 68) (h.1 75) s))) ?_ ?_ (f := N) (by omega)
  · simp only [cpn_0, ur_self] at key
    exact key
  · intro i hi rec
    simp (disch := omega) only [↓bn_eq, ↓jn_eq, ↓reduceIte, gd_t, bd_some, bn_eq, jn_eq, bi_some, if_pos, if_neg, i10, nI_lt_i, nI_le_i, nI_eq_i, ll_le, ll_lt, ll_eq, lr_le, lr_lt, lr_eq, ix_n, nI_clamp, nI_add, add_l, add_r, nI_mul, mul_l, mul_r, sub_n, sub_r, div_r, ite_some, if_true, if_false, and_self, and_true, true_and, false_and, and_false, Nat.reduceAdd, Nat.reduceMul, not_false_iff, not_true, f_Mod_fails_L20, ui_ur, ur_g, e5, cpn_s, Nat.zero_add]
  · intro rec
    simp (disch := omega) only [↓bn_eq, ↓jn_eq, ↓reduceIte, gd_t, bd_some, bn_eq, jn_eq, bi_some, if_pos, if_neg, i10, nI_lt_i, nI_le_i, nI_eq_i, ll_le, ll_lt, ll_eq, lr_le, lr_lt, lr_eq, ix_n, nI_clamp, nI_add, add_l, add_r, nI_mul, mul_l, mul_r, sub_n, sub_r, div_r, ite_some, if_true, if_false, and_self, and_true, true_and, false_and, and_false, Nat.reduceAdd, Nat.reduceMul, not_false_iff, not_true, f_Mod_fails_L20, ur_g, e5]
theorem fl_92 (hN : 300 ≤ N) (h9 : s ≤ 9) (e5 : h.1 51 25 = nI s) (k : mu_H → Option (Int32 × mu_H)) : lp (f_Mod_fails_L92 k) N (0, h) = k (ur h 68 (cpn (h.1 75) (h.1 68) s)) := by
  have key := lp_end (body := f_Mod_fails_L92 k) (fun i => (nI i, ur h 68 (cpn (h.1 75) (h.1 68) i))) s (v := k (ur h 68 (cpn (h.1 75) (h.1 68) s))) ?_ ?_ (f := N) (by omega)
  · simp only [cpn_0, ur_self] at key
    exact key
  · intro i hi rec
    simp (disch := omega) only [↓bn_eq, ↓jn_eq, ↓reduceIte, gd_t, bd_some, bn_eq, jn_eq, bi_some, if_pos, if_neg, i10, nI_lt_i, nI_le_i, nI_eq_i, ll_le, ll_lt, ll_eq, lr_le, lr_lt, lr_eq, ix_n, nI_clamp, nI_add, add_l, add_r, nI_mul, mul_l, mul_r, sub_n, sub_r, div_r, ite_some, if_true, if_false, and_self, and_true, true_and, false_and, and_false, Nat.reduceAdd, Nat.reduceMul, not_false_iff, not_true, f_Mod_fails_L92, ui_ur, ur_g, e5, cpn_s, Nat.zero_add]
  · intro rec
    simp (disch := omega) only [↓bn_eq, ↓jn_eq, ↓reduceIte, gd_t, bd_some, bn_eq, jn_eq, bi_some, if_pos, if_neg, i10, nI_lt_i, nI_le_i, nI_eq_i, ll_le, ll_lt, ll_eq, lr_le, lr_lt, lr_eq, ix_n, nI_clamp, nI_add, add_l, add_r, nI_mul, mul_l, mul_r, sub_n, sub_r, div_r, ite_some, if_true, if_false, and_self, and_true, true_and, false_and, and_false, Nat.reduceAdd, Nat.reduceMul, not_false_iff, not_true, f_Mod_fails_L92, ur_g, e5]
theorem wof_M (h9 : s ≤ 9) (hb : ∀ r, r < 9 → bN (h.1 68 r) 99) {n : Nat} (hn : n < 201) : (∀ i, i < wof (Mr h m s n) s → i < s → n < tf h m i) ∧ wof (Mr h m s n) s ≤ s ∧ (wof (Mr h m s n) s < s → tf h m (wof (Mr h m s n) s) ≤ n) := by
  obtain ⟨-, a2, a3, a4⟩ := lst_b (P := fun i => decide (Mr h m s n i = 99)) s 0
  have e : ∀ i, i < s → (Mr h m s n i = 99 ↔ tf h m i ≤ n) := by
    intro i hi
    have hl := Wf_le (m := m) hb (show i < 9 by omega) n
    rw [Mr_k h9 hb n i, if_pos hi, ← tf_iff i hn]
    exact ⟨fun q => nI_inj (b := 99) (by omega) (by decide) q, fun q => by rw [q]; rfl⟩
  rw [Nat.zero_add] at a2 a4
  refine ⟨fun i h1 h2 => ?_, a2, fun q => ?_⟩
  · have := a3 i (Nat.zero_le i) h1
    rw [decide_eq_true_eq, e i h2] at this
    omega
  · have := a4 q
    rw [decide_eq_true_eq] at this
    exact (e _ q).mp this
theorem fl_50 (hN : 3000 ≤ N) (hp : Ipar (mg h h) s u) (hb : Ib s u (h.1 68) (h.1 68)) (hm : h.1 68 32 = nI m) (hm3 : m ≤ 3999) (F : Nat → Int32) (k : (Int32 × mu_H) → Option (Int32 × mu_H)) : ∃ n, n = min (fold (ffg h m) (none, 201) s).2 200 ∧ lp (f_Mod_fails_L50 N k) N (0, ur h 75 F) = k (nI n, ur (ur h 75 F) 68 (Mr h m s n)) := by
  have h9 := hp.1
  have e5 : h.1 51 25 = nI s := hp.2.2.2.2.2.1
  have hbb : ∀ r, r < 9 → bN (h.1 68 r) 99 := fun r hr => (hb.2.1 r hr).1
  obtain ⟨f1, f2, f3, f4⟩ := ff_b (h := h) (m := m) s
  generalize fold (ffg h m) (none, 201) s = b at f1 f2 f3 f4
  refine ⟨min b.2 200, rfl, ?_⟩
  have z32 : (32 : Int32).toNatClampNeg = 32 := rfl
  have i32 : ix 32 214 = true := rfl
  have hpF : Ipar (mg h (ur h 75 F)) s u := Ipar_fr (mg_same (A := []) (B := [75]) (K := []) sc_refl (sM_ur (by decide) (by decide))) (by decide) (by decide) hp
  have key := lp_end (body := f_Mod_fails_L50 N k) (fun i => (nI i, ur (ur h 75 F) 68 (Mr h m s i))) (min b.2 200) (v := k (nI (min b.2 200), ur (ur h 75 F) 68 (Mr h m s (min b.2 200)))) ?_ ?_ (f := N) (by omega)
  · have e0 : ur (ur h 75 F) 68 (Mr h m s 0) = ur h 75 F := by
      have : ur (ur h 75 F) 68 ((ur h 75 F).1 68) = ur h 75 F := ur_self
      rw [ur_n (by decide)] at this
      exact this
    rw [e0] at key
    exact key
  · intro i hi rec
    have hw := wo_m' (N := N) (s := s) (hm := ur (ur h 75 F) 68 (Mr h m s i)) (by omega) h9 (by rw [ur_n (by decide), ur_n (by decide)]; exact e5)
    rw [ur_1] at hw
    obtain ⟨w1, w2, w3⟩ := wof_M (m := m) h9 hbb (show i < 201 by omega)
    have hws : wof (Mr h m s i) s = s := by
      refine Decidable.byContradiction (fun q => ?_)
      have a := w3 (by omega)
      have c := f2 (wof (Mr h m s i) s) (by omega)
      omega
    rw [if_pos hws] at hw
    have hM32 : Mr h m s i 32 = nI m := by rw [Mr_k h9 hbb i 32, if_neg (by omega)]; exact hm
    have hps := ps_m (N := N) (hc := h) (hm := ur h 75 F) (by omega) hpF (Mr_I (m := m) h9 hb i) (n := m + i) (by omega)
    simp (disch := omega) only [↓bn_eq, ↓jn_eq, ↓reduceIte, gd_t, bd_some, bn_eq, jn_eq, bi_some, if_pos, if_neg, i10, nI_lt_i, nI_le_i, nI_eq_i, ll_le, ll_lt, ll_eq, lr_le, lr_lt, lr_eq, ix_n, nI_clamp, nI_add, add_l, add_r, nI_mul, mul_l, mul_r, sub_n, sub_r, div_r, ite_some, if_true, if_false, and_self, and_true, true_and, false_and, and_false, Nat.reduceAdd, Nat.reduceMul, not_false_iff, not_true, f_Mod_fails_L50, hw, i32, z32, ur_g, hM32, hps, Mr]
  · intro rec
    by_cases c : 200 ≤ b.2
    · simp (disch := omega) only [↓bn_eq, ↓jn_eq, ↓reduceIte, gd_t, bd_some, bn_eq, jn_eq, bi_some, if_pos, if_neg, i10, nI_lt_i, nI_le_i, nI_eq_i, ll_le, ll_lt, ll_eq, lr_le, lr_lt, lr_eq, ix_n, nI_clamp, nI_add, add_l, add_r, nI_mul, mul_l, mul_r, sub_n, sub_r, div_r, ite_some, if_true, if_false, and_self, and_true, true_and, false_and, and_false, Nat.reduceAdd, Nat.reduceMul, not_false_iff, not_true, f_Mod_fails_L50, Nat.min_eq_right c]
    · rw [Nat.min_eq_left (by omega)]
      have hw := wo_m' (N := N) (s := s) (hm := ur (ur h 75 F) 68 (Mr h m s b.2)) (by omega) h9 (by rw [ur_n (by decide), ur_n (by decide)]; exact e5)
      rw [ur_1] at hw
      obtain ⟨w1, w2, w3⟩ := wof_M (m := m) h9 hbb (show b.2 < 201 by omega)
      have hws : ¬ wof (Mr h m s b.2) s = s := by
        intro q
        cases hb1 : b.1 with
        | none => have := f3 hb1; omega
        | some j =>
          obtain ⟨g1, g2, g3, g4⟩ := f4 j hb1
          have := w1 j (by omega) g1
          omega
      rw [if_neg hws] at hw
      simp (disch := omega) only [↓bn_eq, ↓jn_eq, ↓reduceIte, gd_t, bd_some, bn_eq, jn_eq, bi_some, if_pos, if_neg, i10, nI_lt_i, nI_le_i, nI_eq_i, ll_le, ll_lt, ll_eq, lr_le, lr_lt, lr_eq, ix_n, nI_clamp, nI_add, add_l, add_r, nI_mul, mul_l, mul_r, sub_n, sub_r, div_r, ite_some, if_true, if_false, and_self, and_true, true_and, false_and, and_false, Nat.reduceAdd, Nat.reduceMul, not_false_iff, not_true, f_Mod_fails_L50, hw, neg1]
theorem op_fails {N : Nat} (hN : 3000 ≤ N) (h : mu_H) (hI : Inv h) (a1 : Int32) : ∃ r h2, f_Owe_fails N h a1 = some r ∧ f_Mod_fails N h a1 = some (r, h2) ∧ Inv h2 := by
  have hI0 := hI
  obtain ⟨s, u, hp, ⟨nse, hsee⟩, hnow, himg, hpas, htap, hlaw, href⟩ := hI
  have h9 := hp.1
  have e3 : h.1 3 2 = nI s := hp.2.2.2.1
  have e5 : h.1 51 25 = nI s := hp.2.2.2.2.2.1
  have hz := nI_z (show s < 2 ^ 31 by omega)
  have h10 : ¬ (1 : Int32) = 0 := by decide
  have hp2 : Ipar (mg h h) s u := by rw [mg_self]; exact hp
  have hnow1 : Ist s u (h.1 15) (h.1 16) (h.1 68) := hnow
  obtain ⟨m, hm3, n31, -, -, -⟩ := hnow1.2.2.2.1
  have n32 : h.1 68 32 = nI m := hnow1.2.2.1.symm.trans n31
  have hb : Ib s u (h.1 68) (h.1 68) := Ib_s (Ib_of hnow1)
  have hbb : ∀ r, r < 9 → bN (h.1 68 r) 99 := fun r hr => (hb.2.1 r hr).1
  have k5 : f_Mod_in N h a1 0 1 = some (if 0 ≤ a1 ∧ a1 < nI 2 then 1 else 0) := m_in (n := 2) (by decide) a1
  by_cases hs : s = 0
  · refine ⟨-1, h, ?_, ?_, hI0⟩
    · simp only [f_Owe_fails, f_Par_isNone, e3, hz.mpr hs, if_true, bd_some, if_neg h10]
    · simp only [f_Mod_fails, e5, hz.mpr hs, if_true]
  have h0 : ¬ nI s = 0 := fun q => hs (hz.mp q)
  rcases in_or a1 2 (by decide) with ⟨w, hw, rfl, q1, q2⟩ | no
  · have q1' : ¬ nI w < 0 := nlt_le.mpr q1
    have q2' : nI w ≤ 1 := nI_le (b := 1) (by omega) (by decide)
    have hff := ff_c (N := N) hN hp2 hnow1 n31 hm3
    obtain ⟨F, hF⟩ : ∃ F, F = cpn (h.1 68) (h.1 75) s := ⟨_, rfl⟩
    obtain ⟨f1, f2, f3, f4⟩ := ff_b (h := h) (m := m) s
    have hx50 := fun k => fl_50 (N := N) hN hp2 hb n32 hm3 F k
    have htc := fun i (hi : i < s) => tf_c (N := N) hN hp2 hnow1 n31 hm3 hi
    generalize fold (ffg h m) (none, 201) s = b at hff f1 f2 f3 f4 hx50
    obtain ⟨n, hn⟩ : ∃ n, n = min b.2 200 := ⟨_, rfl⟩
    have hx : ∀ k, lp (f_Mod_fails_L50 N k) N (0, ur h 75 F) = k (nI n, ur (ur h 75 F) 68 (Mr h m s n)) := fun k => by
      obtain ⟨n', e1, e2⟩ := hx50 k
      rw [hn, ← e1]; exact e2
    have hwo := wo_m' (N := N) (s := s) (hm := ur (ur h 75 F) 68 (Mr h m s n)) (by omega) h9 (by rw [ur_n (by decide), ur_n (by decide)]; exact e5)
    rw [ur_1] at hwo
    obtain ⟨w1, w2, w3⟩ := wof_M (m := m) h9 hbb (show n < 201 by omega)
    have hwv : (if wof (Mr h m s n) s = s then (-1 : Int32) else nI (wof (Mr h m s n) s)) = enc b.1 := by
      cases hb1 : b.1 with
      | none =>
        have := f3 hb1
        have hws : wof (Mr h m s n) s = s := by
          refine Decidable.byContradiction (fun q => ?_)
          have a := w3 (by omega)
          have c := f2 (wof (Mr h m s n) s) (by omega)
          omega
        rw [if_pos hws]; rfl
      | some j =>
        obtain ⟨g1, g2, g3, g4⟩ := f4 j hb1
        have hws : wof (Mr h m s n) s = j := by
          rcases Nat.lt_trichotomy (wof (Mr h m s n) s) j with q | q | q
          · have a := w3 (by omega)
            have c := g4 _ q
            omega
          · exact q
          · have := w1 j q g1
            omega
        rw [hws, if_neg (by omega)]; rfl
    rw [hwv] at hwo
    -- the row comes back
    have hback : ur (ur (ur h 75 F) 68 (Mr h m s n)) 68 (cpn F (Mr h m s n) s) = ur h 75 F := by
      rw [ur_ur]
      have e : cpn F (Mr h m s n) s = h.1 68 := by
        funext k
        rw [cpn]
        by_cases c : k < s
        · rw [if_pos c, hF, cpn_lt c]
        · rw [if_neg c, Mr_k h9 hbb n k, if_neg c]
      rw [e]
      have : ur (ur h 75 F) 68 ((ur h 75 F).1 68) = ur h 75 F := ur_self
      rw [ur_n (by decide)] at this
      exact this
    have hx92 := fun k => fl_92 (N := N) (s := s) (h := ur (ur h 75 F) 68 (Mr h m s n)) (by omega) h9 (by rw [ur_n (by decide), ur_n (by decide)]; exact e5) k
    rw [ur_1, ur_n (show (75 : Nat) ≠ 68 by decide), ur_1] at hx92
    simp only [hback] at hx92
    have hx20 := fun k => fl_20 (N := N) (s := s) (h := h) (by omega) h9 e5 k
    simp only [← hF] at hx20
    have hI2 : Inv (ur h 75 F) := by
      have e : sM [75] [] h (ur h 75 F) := sM_ur (by decide) (by decide)
      exact ⟨s, u, (Ipar_fr e (by decide) (by decide) hp), ⟨_, Isee_fr e (by decide) (by decide) hsee⟩, (Inow_fr e (by decide) hnow), (Iimg_fr e (by decide) (by decide) himg), (Ipas_fr e (by decide) (by decide) hpas), (Itap_fr e (by decide) (by decide) htap), (Ilaw_fr e (by decide) (by decide) hlaw), (Iref_fr e (by decide) href)⟩
    refine ⟨if enc b.1 = -1 then -1 else if nI w = 0 then enc b.1 else nI n, ur h 75 F, ?_, ?_, hI2⟩
    · simp only [f_Owe_fails, f_Par_isNone, e3, if_neg h0, bd_some, if_true, if_neg q1', if_pos q2', hff]
      cases hb1 : b.1 with
      | none => rfl
      | some j =>
        obtain ⟨g1, g2, g3, g4⟩ := f4 j hb1
        have ht := htc j g1
        rw [if_neg (by omega)] at ht
        have n1 : ¬ nI j = -1 := fun q => by rw [neg1 (by omega)] at q; exact q
        simp only [enc, if_neg n1, ht, bd_some]
        rw [hn, Nat.min_eq_left (by omega), ← g2]
        split <;> rfl
    · simp only [f_Mod_fails, e5, if_neg h0, k5, q1, q2, and_self, if_true, bd_some, if_neg h10, jn_eq, hx20, hx, hwo, hx92]
      cases hb1 : b.1 with
      | none => rfl
      | some j =>
        obtain ⟨g1, -⟩ := f4 j hb1
        have n1 : ¬ nI j = -1 := fun q => by rw [neg1 (by omega)] at q; exact q
        rw [show enc (some j) = nI j from rfl, if_neg n1, if_neg n1]
        split <;> rfl
  · refine ⟨-1, h, ?_, ?_, hI0⟩
    · simp only [f_Owe_fails, f_Par_isNone, e3, if_neg h0, bd_some, if_true]
      by_cases c : a1 < 0
      · rw [if_pos c]
      · rw [if_neg c, if_neg (fun q => no ⟨nlt_le.mp c, ?_⟩)]
        rw [Int32.lt_iff_toInt_lt]
        rw [Int32.le_iff_toInt_le] at q
        have z1 : (1 : Int32).toInt = 1 := rfl
        have z2 : (nI 2).toInt = 2 := rfl
        omega
    · simp only [f_Mod_fails, e5, if_neg h0, k5, if_neg no, bd_some, if_true]
end Fails
