/-! fails -/
/-- the least from n on, within d -/
def lst (P : Nat → Bool) : Nat → Nat → Nat
  | 0, n => n
  | d + 1, n => if P n = true then n else lst P d (n + 1)
theorem lst_b {P : Nat → Bool} : ∀ d n, n ≤ lst P d n ∧ lst P d n ≤ n + d ∧ (∀ m, n ≤ m → m < lst P d n → ¬ P m = true) ∧ (lst P d n < n + d → P (lst P d n) = true) := by
  intro d
  induction d with
  | zero => intro n; exact ⟨Nat.le_refl n, Nat.le_refl n, fun m h1 h2 => by rw [lst] at h2; omega, fun h => by rw [lst] at h; omega⟩
  | succ d ih =>
    intro n
    rw [lst]
    by_cases c : P n = true
    · rw [if_pos c]
      exact ⟨Nat.le_refl n, by omega, fun m h1 h2 => by omega, fun _ => c⟩
    · rw [if_neg c]
      obtain ⟨a1, a2, a3, a4⟩ := ih (n + 1)
      refine ⟨by omega, by omega, fun m h1 h2 => ?_, fun h => a4 (by omega)⟩
      by_cases e : m = n
      · rw [e]; exact c
      · exact a3 m (by omega) h2
section Fails
variable {N s u m : Nat} {h : mu_H}
def Wf (h : mu_H) (m i : Nat) : Nat → Nat
  | 0 => tn (h.1 68 i)
  | n + 1 => wn h ((m + n) % 4 = 3) (h.1 68) i (Wf h m i n)
theorem Wf_le (hb : ∀ r, r < 9 → bN (h.1 68 r) 99) {i : Nat} (hi : i < 9) : ∀ n, Wf h m i n ≤ 99 := by
  intro n
  cases n with
  | zero =>
    obtain ⟨w, hw, e⟩ := hb i hi
    rw [Wf, e, tn_n (by omega)]; exact hw
  | succ n => rw [Wf, wn]; omega
theorem Wf_99 {i n : Nat} (e : Wf h m i n = 99) : ∀ k, Wf h m i (n + k) = 99 := by
  intro k
  induction k with
  | zero => exact e
  | succ k ih => rw [← Nat.add_assoc, Wf, ih, wn]; omega
def full (h : mu_H) (m i n : Nat) : Bool := decide (Wf h m i n = 99)
def tf (h : mu_H) (m i : Nat) : Nat := lst (full h m i) 201 0
theorem tf_le (i : Nat) : tf h m i ≤ 201 := by
  have := (lst_b (P := full h m i) 201 0).2.1
  rw [tf]; omega
theorem tf_iff (i : Nat) {n : Nat} (hn : n < 201) : Wf h m i n = 99 ↔ tf h m i ≤ n := by
  obtain ⟨a1, a2, a3, a4⟩ := lst_b (P := full h m i) 201 0
  constructor
  · intro e
    refine Decidable.byContradiction (fun q => a3 n (by omega) (by rw [tf] at q; omega) ?_)
    rw [full, decide_eq_true_eq]; exact e
  · intro e
    have : full h m i (tf h m i) = true := a4 (by rw [tf] at e; omega)
    rw [full, decide_eq_true_eq] at this
    have := Wf_99 this (n - tf h m i)
    rw [show tf h m i + (n - tf h m i) = n by omega] at this
    exact this
theorem tf_c (hN : 3000 ≤ N) (hp : Ipar (mg h h) s u) (hnow : Ist s u (h.1 15) (h.1 16) (h.1 68)) (hm : h.1 15 31 = nI m) (hm3 : m ≤ 3999) {i : Nat} (hi : i < s) : f_Out_seasonsTillFull N h (nI i) = some (if tf h m i = 201 then -1 else nI (tf h m i)) := by
  have h9 := hp.1
  have hb : ∀ r, r < 9 → bN (h.1 68 r) 99 := fun r hr => by rw [← hnow.1 r (by omega)]; exact (hnow.2.2.2.2.1 r hr).1
  have hwe : bN (h.1 15 (9 + i)) 9 := (hnow.2.2.2.2.1 i (by omega)).2.1
  have ewe : h.1 15 (9 + i) = h.1 68 (9 + i) := hnow.1 (9 + i) (by omega)
  have z31 : (31 : Int32).toNatClampNeg = 31 := rfl
  have i31 : ix 31 34 = true := rfl
  have key : ∀ d n f, n + d = 201 → d < f → lp (f_Out_seasonsTillFull_L11 N h (nI i)) f (nI (Wf h m i n), nI n) = some (if lst (full h m i) d n = 201 then -1 else nI (lst (full h m i) d n)) := by
    intro d
    induction d with
    | zero =>
      intro n f hn hf
      obtain ⟨g, rfl⟩ : ∃ g, f = g + 1 := ⟨f - 1, by omega⟩
      have : n = 201 := by omega
      subst this
      rfl
    | succ d ih =>
      intro n f hn hf
      obtain ⟨g, rfl⟩ : ∃ g, f = g + 1 := ⟨f - 1, by omega⟩
      have hW := Wf_le (m := m) hb (show i < 9 by omega) n
      have h4 : m + n - (m + n) / 4 * 4 = (m + n) % 4 := by omega
      show f_Out_seasonsTillFull_L11 N h (nI i) (lp (f_Out_seasonsTillFull_L11 N h (nI i)) g) (nI (Wf h m i n), nI n) = _
      by_cases c : Wf h m i n = 99
      · have el : lst (full h m i) (d + 1) n = n := by rw [lst, if_pos (by rw [full, decide_eq_true_eq]; exact c)]
        rw [el, c, if_neg (by omega)]
        simp (disch := omega) only [↓bn_eq, ↓jn_eq, ↓reduceIte, gd_t, bd_some, bn_eq, jn_eq, bi_some, if_pos, if_neg, i10, nI_lt_i, nI_le_i, nI_eq_i, ll_le, ll_lt, ll_eq, lr_le, lr_lt, lr_eq, ix_n, nI_clamp, nI_add, add_l, add_r, nI_mul, mul_l, mul_r, sub_n, sub_r, div_r, ite_some, if_true, if_false, and_self, and_true, true_and, false_and, and_false, Nat.reduceAdd, Nat.reduceMul, not_false_iff, not_true, f_Out_seasonsTillFull_L11]
      · have el : lst (full h m i) (d + 1) n = lst (full h m i) d (n + 1) := by rw [lst, if_neg (by rw [full, decide_eq_true_eq]; exact c)]
        rw [el, ← ih (n + 1) g (by omega) (by omega)]
        have w1 := wn_c (N := N) (hc := h) (hm := h) (R := h.1 15) (f := if (m + n) % 4 = 3 then 1 else 0) hp hi hW hwe ((m + n) % 4 = 3) rfl rfl
        have w2 : wn h ((m + n) % 4 = 3) (h.1 15) i (Wf h m i n) = Wf h m i (n + 1) := by
          rw [Wf, wn, wn, ewe]
        rw [w2] at w1
        by_cases e : (m + n) % 4 = 3
        · rw [if_pos e, show nI 1 = (1 : Int32) from rfl] at w1
          simp (disch := omega) only [↓bn_eq, ↓jn_eq, ↓reduceIte, gd_t, bd_some, bn_eq, jn_eq, bi_some, if_pos, if_neg, i10, nI_lt_i, nI_le_i, nI_eq_i, ll_le, ll_lt, ll_eq, lr_le, lr_lt, lr_eq, ix_n, nI_clamp, nI_add, add_l, add_r, nI_mul, mul_l, mul_r, sub_n, sub_r, div_r, ite_some, if_true, if_false, and_self, and_true, true_and, false_and, and_false, Nat.reduceAdd, Nat.reduceMul, not_false_iff, not_true, f_Out_seasonsTillFull_L11, f_Sta_season, z31, i31, hm, h4, e, w1]
        · rw [if_neg e, show nI 0 = (0 : Int32) from rfl] at w1
          simp (disch := omega) only [↓bn_eq, ↓jn_eq, ↓reduceIte, gd_t, bd_some, bn_eq, jn_eq, bi_some, if_pos, if_neg, i10, nI_lt_i, nI_le_i, nI_eq_i, ll_le, ll_lt, ll_eq, lr_le, lr_lt, lr_eq, ix_n, nI_clamp, nI_add, add_l, add_r, nI_mul, mul_l, mul_r, sub_n, sub_r, div_r, ite_some, if_true, if_false, and_self, and_true, true_and, false_and, and_false, Nat.reduceAdd, Nat.reduceMul, not_false_iff, not_true, f_Out_seasonsTillFull_L11, f_Sta_season, z31, i31, hm, h4, w1]
  obtain ⟨w, hw, e1⟩ := hb i (by omega)
  rw [f_Out_seasonsTillFull, wearS (o := 14) (show i < 34 by omega), bd_some]
  have := key 201 0 N (by omega) (by omega)
  rw [show Wf h m i 0 = tn (h.1 68 i) from rfl, e1, tn_n (by omega)] at this
  rw [show h.1 (14 + 1) i = nI w from (hnow.1 i (by omega)).trans e1]
  exact this
/-- the first of the least -/
def ffg (h : mu_H) (m i : Nat) (b : Option Nat × Nat) : Option Nat × Nat := if b.2 ≤ tf h m i then b else (some i, tf h m i)
theorem ff_b : ∀ n, (fold (ffg h m) (none, 201) n).2 ≤ 201 ∧ (∀ i, i < n → (fold (ffg h m) (none, 201) n).2 ≤ tf h m i) ∧ ((fold (ffg h m) (none, 201) n).1 = none → (fold (ffg h m) (none, 201) n).2 = 201) ∧ (∀ j, (fold (ffg h m) (none, 201) n).1 = some j → j < n ∧ tf h m j = (fold (ffg h m) (none, 201) n).2 ∧ tf h m j < 201 ∧ ∀ i, i < j → (fold (ffg h m) (none, 201) n).2 < tf h m i) := by
  intro n
  induction n with
  | zero => exact ⟨Nat.le_refl _, fun i hi => by omega, fun _ => rfl, fun j hj => absurd hj (by simp [fold])⟩
  | succ n ih =>
    simp only [fold]
    generalize fold (ffg h m) (none, 201) n = b at ih
    obtain ⟨a1, a2, a3, a4⟩ := ih
    have ht := tf_le (h := h) (m := m) n
    rw [ffg]
    by_cases c : b.2 ≤ tf h m n
    · rw [if_pos c]
      refine ⟨a1, fun i hi => ?_, a3, fun j hj => ?_⟩
      · by_cases e : i = n
        · rw [e]; exact c
        · exact a2 i (by omega)
      · obtain ⟨b1, b2⟩ := a4 j hj
        exact ⟨by omega, b2⟩
    · rw [if_neg c]
      refine ⟨ht, fun i hi => ?_, fun q => absurd q (by simp), fun j hj => ?_⟩
      · by_cases e : i = n
        · rw [e]; exact Nat.le_refl _
        · have := a2 i (by omega)
          show tf h m n ≤ tf h m i
          omega
      · have hj : n = j := by simpa using hj
        subst hj
        refine ⟨by omega, rfl, by omega, fun i hi => ?_⟩
        have := a2 i hi
        show tf h m n < tf h m i
        omega
theorem ff_c (hN : 3000 ≤ N) (hp : Ipar (mg h h) s u) (hnow : Ist s u (h.1 15) (h.1 16) (h.1 68)) (hm : h.1 15 31 = nI m) (hm3 : m ≤ 3999) : f_Out_firstToFail N h = some (enc (fold (ffg h m) (none, 201) s).1) := by
  have h9 := hp.1
  have e3 : h.1 3 2 = nI s := hp.2.2.2.1
  have key := lp_end (body := f_Out_firstToFail_L8 N h) (fun i => (enc (fold (ffg h m) (none, 201) i).1, nI (fold (ffg h m) (none, 201) i).2, nI i)) s (v := some (enc (fold (ffg h m) (none, 201) s).1)) ?_ ?_ (f := N) (by omega)
  · exact key
  · intro i hi rec
    have ht := tf_le (h := h) (m := m) i
    have hb := (ff_b (h := h) (m := m) i).1
    have w := tf_c hN hp hnow hm hm3 hi
    simp only [fold]
    generalize fold (ffg h m) (none, 201) i = b at hb
    rw [ffg]
    by_cases c : tf h m i = 201
    · rw [if_pos c] at w
      rw [if_pos (by omega)]
      simp (disch := omega) only [↓bn_eq, ↓jn_eq, ↓reduceIte, gd_t, bd_some, bn_eq, jn_eq, bi_some, if_pos, if_neg, i10, nI_lt_i, nI_le_i, nI_eq_i, ll_le, ll_lt, ll_eq, lr_le, lr_lt, lr_eq, ix_n, nI_clamp, nI_add, add_l, add_r, nI_mul, mul_l, mul_r, sub_n, sub_r, div_r, ite_some, if_true, if_false, and_self, and_true, true_and, false_and, and_false, Nat.reduceAdd, Nat.reduceMul, not_false_iff, not_true, f_Out_firstToFail_L8, f_Par_stretches, e3, w]
    · rw [if_neg c] at w
      by_cases d : b.2 ≤ tf h m i
      · rw [if_pos d]
        simp (disch := omega) only [↓bn_eq, ↓jn_eq, ↓reduceIte, gd_t, bd_some, bn_eq, jn_eq, bi_some, if_pos, if_neg, i10, nI_lt_i, nI_le_i, nI_eq_i, ll_le, ll_lt, ll_eq, lr_le, lr_lt, lr_eq, ix_n, nI_clamp, nI_add, add_l, add_r, nI_mul, mul_l, mul_r, sub_n, sub_r, div_r, ite_some, if_true, if_false, and_self, and_true, true_and, false_and, and_false, Nat.reduceAdd, Nat.reduceMul, not_false_iff, not_true, f_Out_firstToFail_L8, f_Par_stretches, e3, w, neg1]
      · rw [if_neg d]
        simp (disch := omega) only [↓bn_eq, ↓jn_eq, ↓reduceIte, gd_t, bd_some, bn_eq, jn_eq, bi_some, if_pos, if_neg, i10, nI_lt_i, nI_le_i, nI_eq_i, ll_le, ll_lt, ll_eq, lr_le, lr_lt, lr_eq, ix_n, nI_clamp, nI_add, add_l, add_r, nI_mul, mul_l, mul_r, sub_n, sub_r, div_r, ite_some, if_true, if_false, and_self, and_true, true_and, false_and, and_false, Nat.reduceAdd, Nat.reduceMul, not_false_iff, not_true, f_Out_firstToFail_L8, f_Par_stretches, e3, w, neg1]
        rfl
  · intro rec
    simp (disch := omega) only [↓bn_eq, ↓jn_eq, ↓reduceIte, gd_t, bd_some, bn_eq, jn_eq, bi_some, if_pos, if_neg, i10, nI_lt_i, nI_le_i, nI_eq_i, ll_le, ll_lt, ll_eq, lr_le, lr_lt, lr_eq, ix_n, nI_clamp, nI_add, add_l, add_r, nI_mul, mul_l, mul_r, sub_n, sub_r, div_r, ite_some, if_true, if_false, and_self, and_true, true_and, false_and, and_false, Nat.reduceAdd, Nat.reduceMul, not_false_iff, not_true, f_Out_firstToFail_L8, f_Par_stretches, e3]
/-- the model's rows -/
theorem row_w {c : Prop} [Decidable c] {M : Nat → Int32} : ∀ j, j ≤ 9 → ∀ k, fold (wnS h c) M j k = if k < j then nI (wn h c M k (tn (M k))) else M k := by
  intro j
  induction j with
  | zero => intro _ k; rw [if_neg (by omega)]; rfl
  | succ j ih =>
    intro hj k
    have ih := ih (by omega)
    have e1 := ih j
    have e2 := ih (9 + j)
    rw [if_neg (by omega)] at e1 e2
    simp only [fold, wnS]
    have ew : wn h c (fold (wnS h c) M j) j (tn (fold (wnS h c) M j j)) = wn h c M j (tn (M j)) := by rw [wn, wn, e1, e2]
    rw [ew]
    by_cases d : k = j
    · subst d
      rw [upd_s, if_pos (by omega)]
    · rw [upd_n d, ih k]
      by_cases f : k < j
      · rw [if_pos f, if_pos (by omega)]
      · rw [if_neg f, if_neg (by omega)]
def Mr (h : mu_H) (m s : Nat) : Nat → Nat → Int32
  | 0 => h.1 68
  | n + 1 => fold (wnS h ((m + n) % 4 = 3)) (Mr h m s n) s
theorem Mr_k (h9 : s ≤ 9) (hb : ∀ r, r < 9 → bN (h.1 68 r) 99) : ∀ n k, Mr h m s n k = if k < s then nI (Wf h m k n) else h.1 68 k := by
  intro n
  induction n with
  | zero =>
    intro k
    rw [Mr, Wf]
    by_cases c : k < s
    · obtain ⟨w, hw, e⟩ := hb k (by omega)
      rw [if_pos c, e, tn_n (by omega)]
    · rw [if_neg c]
  | succ n ih =>
    intro k
    rw [Mr, row_w s h9 k]
    by_cases c : k < s
    · have hl := Wf_le (m := m) hb (show k < 9 by omega) n
      have e9 : Mr h m s n (9 + k) = h.1 68 (9 + k) := by rw [ih (9 + k), if_neg (by omega)]
      rw [if_pos c, if_pos c, Wf, ih k, if_pos c, tn_n (by omega), wn, wn, e9]
    · rw [if_neg c, if_neg c, ih k, if_neg c]
theorem Ib_s {R M : Nat → Int32} (hb : Ib s u R M) : Ib s u M M := by
  obtain ⟨q1, q8, q9⟩ := hb
  refine ⟨fun _ _ => rfl, fun r hr => ?_, fun a ha => ?_⟩
  · rw [← q1 r (by omega), ← q1 (9 + r) (by omega)]; exact q8 r hr
  · rw [← q1 (18 + a) (by omega), ← q1 (24 + a) (by omega)]; exact q9 a ha
theorem Mr_I (h9 : s ≤ 9) (hb : Ib s u (h.1 68) (h.1 68)) : ∀ n, Ib s u (Mr h m s n) (Mr h m s n) := by
  intro n
  induction n with
  | zero => exact hb
  | succ n ih => exact (wn_I (h := h) _ ih s (Nat.le_refl s) h9).1
/-- the first that is worn out -/
def wof (M : Nat → Int32) (s : Nat) : Nat := lst (fun i => decide (M i = 99)) s 0
theorem wo_m' {hm : mu_H} (hN : 300 ≤ N) (h9 : s ≤ 9) (e5 : hm.1 51 25 = nI s) : f_Mod_worn N hm = some (if wof (hm.1 68) s = s then -1 else nI (wof (hm.1 68) s)) := by
  have key : ∀ d n f, n + d = s → d < f → lp (f_Mod_worn_L2 hm) f (nI n) = some (if lst (fun i => decide (hm.1 68 i = 99)) d n = s then -1 else nI (lst (fun i => decide (hm.1 68 i = 99)) d n)) := by
    intro d
    induction d with
    | zero =>
      intro n f hn hf
      obtain ⟨g, rfl⟩ : ∃ g, f = g + 1 := ⟨f - 1, by omega⟩
      rw [lst, if_pos (by omega)]
      show f_Mod_worn_L2 hm _ (nI n) = _
      simp (disch := omega) only [↓bn_eq, ↓jn_eq, ↓reduceIte, gd_t, bd_some, bn_eq, jn_eq, bi_some, if_pos, if_neg, i10, nI_lt_i, nI_le_i, nI_eq_i, ll_le, ll_lt, ll_eq, lr_le, lr_lt, lr_eq, ix_n, nI_clamp, nI_add, add_l, add_r, nI_mul, mul_l, mul_r, sub_n, sub_r, div_r, ite_some, if_true, if_false, and_self, and_true, true_and, false_and, and_false, Nat.reduceAdd, Nat.reduceMul, not_false_iff, not_true, f_Mod_worn_L2, e5]
    | succ d ih =>
      intro n f hn hf
      obtain ⟨g, rfl⟩ : ∃ g, f = g + 1 := ⟨f - 1, by omega⟩
      show f_Mod_worn_L2 hm (lp (f_Mod_worn_L2 hm) g) (nI n) = _
      by_cases c : hm.1 68 n = 99
      · have el : lst (fun i => decide (hm.1 68 i = 99)) (d + 1) n = n := by rw [lst, if_pos (by rw [decide_eq_true_eq]; exact c)]
        rw [el, if_neg (by omega)]
        simp (disch := omega) only [↓bn_eq, ↓jn_eq, ↓reduceIte, gd_t, bd_some, bn_eq, jn_eq, bi_some, if_pos, if_neg, i10, nI_lt_i, nI_le_i, nI_eq_i, ll_le, ll_lt, ll_eq, lr_le, lr_lt, lr_eq, ix_n, nI_clamp, nI_add, add_l, add_r, nI_mul, mul_l, mul_r, sub_n, sub_r, div_r, ite_some, if_true, if_false, and_self, and_true, true_and, false_and, and_false, Nat.reduceAdd, Nat.reduceMul, not_false_iff, not_true, f_Mod_worn_L2, e5, Nat.zero_add, c]
      · have el : lst (fun i => decide (hm.1 68 i = 99)) (d + 1) n = lst (fun i => decide (hm.1 68 i = 99)) d (n + 1) := by rw [lst, if_neg (by rw [decide_eq_true_eq]; exact c)]
        rw [el, ← ih (n + 1) g (by omega) (by omega)]
        simp (disch := omega) only [↓bn_eq, ↓jn_eq, ↓reduceIte, gd_t, bd_some, bn_eq, jn_eq, bi_some, if_pos, if_neg, i10, nI_lt_i, nI_le_i, nI_eq_i, ll_le, ll_lt, ll_eq, lr_le, lr_lt, lr_eq, ix_n, nI_clamp, nI_add, add_l, add_r, nI_mul, mul_l, mul_r, sub_n, sub_r, div_r, ite_some, if_true, if_false, and_self, and_true, true_and, false_and, and_false, Nat.reduceAdd, Nat.reduceMul, not_false_iff, not_true, f_Mod_worn_L2, e5, Nat.zero_add, c]
  exact key s 0 N (by omega) (by omega)
end Fails
