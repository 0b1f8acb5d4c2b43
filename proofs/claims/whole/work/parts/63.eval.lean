/-! a law's value, both -/
def stk (S : Nat → Int32) : List Int32 → Prop
  | [] => True
  | v :: r => S r.length = v ∧ stk S r
theorem stk_upd {S : Nat → Int32} {x : Int32} {j : Nat} : ∀ {r : List Int32}, r.length ≤ j → stk S r → stk (upd S j x) r := by
  intro r
  induction r with
  | nil => intro _ _; trivial
  | cons v r ih =>
    intro hj h
    have hj : r.length + 1 ≤ j := hj
    exact ⟨by rw [upd_n (by omega)]; exact h.1, ih (by omega) h.2⟩
theorem stk_push {S : Nat → Int32} {x : Int32} {r : List Int32} (h : stk S r) : stk (upd S r.length x) (x :: r) := ⟨upd_s, stk_upd (Nat.le_refl _) h⟩
theorem jo_0 {N : Nat} {h : mu_H} {x a b : Int32} : f_Law_joined N h x a b = f_Law_joined 0 h_0 x a b := rfl
theorem wk_0 {N : Nat} {h : mu_H} {x : Int32} {a b : Int64} : f_Mod_worked N h x a b = f_Mod_worked 0 h_0 x a b := rfl
theorem op2_s {c : Nat} {a b x : Int32} (h : op2 c a b = some x) : f_Law_joined 0 h_0 (sgI c) a b = some x ∧ f_Mod_worked 0 h_0 (nI c) a.toInt64 b.toInt64 = some x := by
  rw [op2] at h
  by_cases e : f_Law_joined 0 h_0 (sgI c) a b = f_Mod_worked 0 h_0 (nI c) a.toInt64 b.toInt64
  · rw [if_pos e] at h
    exact ⟨h, by rw [← e]; exact h⟩
  · rw [if_neg e] at h
    exact absurd h (by simp)
theorem sg_dec : ∀ c : Fin 12, 2 ≤ c.val → (-(sgI c.val) < -6) ∧ (-1000 < -(sgI c.val)) ∧ ¬ (-(sgI c.val) = -59) ∧ ((-(sgI c.val) = -33) ↔ c.val = 9) ∧ -(-(sgI c.val)) = sgI c.val := by decide
theorem lt_dec : ∀ l : Fin 6, ¬ (-1 - nI l.val < -6) ∧ (-1 - nI l.val < 0) ∧ (-1) - (-1 - nI l.val) = nI l.val := by decide
theorem nI_nlt6 {n : Nat} (hn : n < 2147483648) : ¬ nI n < -6 := fun q => by
  have a := Int32.lt_iff_toInt_lt.mp q
  rw [nI_toInt hn] at a
  have z : (-6 : Int32).toInt = -6 := rfl
  omega
/-- one token of the class -/
theorem tk_c {N o p len : Nat} {h : mu_H} {S : Nat → Int32} {L : Nat → Int32} {t : Tok} {st st' : List Int32} {k1 : (Int32 × mu_H) → Option (Int32 × mu_H)} (ho : o < 34) (hlen : h.1 o 2 = nI len) (hl : len ≤ 240) (hp : p < len) (hC : h.1 (o + 1) p = clT t) (hL : ∀ i, i < 6 → h.1 36 i = L i) (ht : okT t) (hs : stk S st) (h32 : st.length ≤ 32) (he : ev1 L t st = some st') : ∃ S', stk S' st' ∧ st'.length ≤ 32 ∧ ∀ rec, f_Law_valueFor_L4 N o k1 rec (nI st.length, nI p, ur h (o + 2) S) = rec (nI st'.length, nI (p + 1), ur h (o + 2) S') := by
  obtain ⟨c, v⟩ := t
  obtain ⟨h12, hv0, hv1⟩ := ht
  simp only at h12 hv0 hv1
  simp only [ev1] at he
  simp only [clT] at hC
  by_cases c0 : c = 0
  · rw [if_pos c0] at he hC
    have hv := hv0 c0
    by_cases hl32 : st.length < 32
    · rw [if_pos hl32] at he
      cases he
      refine ⟨upd S st.length (nI v), stk_push hs, hl32, fun rec => ?_⟩
      simp (disch := omega) only [↓bn_eq, ↓jn_eq, ↓reduceIte, gd_t, bd_some, bn_eq, jn_eq, bi_some, if_pos, if_neg, i10, nI_lt_i, nI_le_i, nI_eq_i, ll_le, ll_lt, ll_eq, lr_le, lr_lt, lr_eq, ix_n, nI_clamp, nI_add, add_l, add_r, nI_mul, mul_l, mul_r, sub_n, sub_r, div_r, ite_some, if_true, if_false, and_self, and_true, true_and, false_and, and_false, Nat.reduceAdd, Nat.reduceMul, not_false_iff, not_true, f_Law_valueFor_L4, ur_g, hlen, hC, nI_nlt6, ui_ur, List.length_cons]
    · rw [if_neg hl32] at he
      exact absurd he (by simp)
  rw [if_neg c0] at he hC
  by_cases c1 : c = 1
  · rw [if_pos c1] at he hC
    have hv := hv1 c1
    by_cases hl32 : st.length < 32
    · rw [if_pos hl32] at he
      cases he
      obtain ⟨d1, d2, d3⟩ := lt_dec ⟨v, hv⟩
      refine ⟨upd S st.length (L v), stk_push hs, hl32, fun rec => ?_⟩
      simp (disch := omega) only [↓bn_eq, ↓jn_eq, ↓reduceIte, gd_t, bd_some, bn_eq, jn_eq, bi_some, if_pos, if_neg, i10, nI_lt_i, nI_le_i, nI_eq_i, ll_le, ll_lt, ll_eq, lr_le, lr_lt, lr_eq, ix_n, nI_clamp, nI_add, add_l, add_r, nI_mul, mul_l, mul_r, sub_n, sub_r, div_r, ite_some, if_true, if_false, and_self, and_true, true_and, false_and, and_false, Nat.reduceAdd, Nat.reduceMul, not_false_iff, not_true, f_Law_valueFor_L4, ur_g, hlen, hC, d1, d2, d3, ui_ur, List.length_cons, hL]
    · rw [if_neg hl32] at he
      exact absurd he (by simp)
  rw [if_neg c1] at he hC
  obtain ⟨d1, d2, d3, d4, d5⟩ := sg_dec ⟨c, h12⟩ (show 2 ≤ c by omega)
  simp only at d1 d2 d3 d4 d5
  by_cases c9 : c = 9
  · rw [if_pos c9] at he
    cases st with
    | nil => exact absurd he (by simp)
    | cons a r =>
      simp only [Option.some.injEq] at he
      subst he
      have hr : r.length + 1 ≤ 32 := h32
      have ha : S r.length = a := hs.1
      have e33 := d4.mpr c9
      rw [e33] at hC d1 d2 d3
      refine ⟨upd S r.length (1 - a), ⟨upd_s, stk_upd (Nat.le_refl _) hs.2⟩, h32, fun rec => ?_⟩
      simp (disch := omega) only [↓bn_eq, ↓jn_eq, ↓reduceIte, gd_t, bd_some, bn_eq, jn_eq, bi_some, if_pos, if_neg, i10, nI_lt_i, nI_le_i, nI_eq_i, ll_le, ll_lt, ll_eq, lr_le, lr_lt, lr_eq, ix_n, nI_clamp, nI_add, add_l, add_r, nI_mul, mul_l, mul_r, sub_n, sub_r, div_r, ite_some, if_true, if_false, and_self, and_true, true_and, false_and, and_false, Nat.reduceAdd, Nat.reduceMul, not_false_iff, not_true, f_Law_valueFor_L4, ur_g, hlen, hC, d1, d2, d3, e33, ui_ur, List.length_cons, Nat.add_sub_cancel, ha]
  rw [if_neg c9] at he
  have e33 : ¬ (-(sgI c) = -33) := fun q => c9 (d4.mp q)
  match st, hs, h32, he with
  | [], _, _, he => exact absurd he (by simp)
  | [_], _, _, he => exact absurd he (by simp)
  | b :: a :: r, hs, h32, he =>
    simp only at he
    cases ho2 : op2 c a b with
    | none => rw [ho2] at he; exact absurd he (by simp)
    | some x =>
      rw [ho2] at he
      simp only [Option.bind_some, Option.some.injEq] at he
      subst he
      have j1 : ∀ (N : Nat) (h : mu_H), f_Law_joined N h (sgI c) a b = some x := fun _ _ => jo_0.trans (op2_s ho2).1
      have hr : r.length + 1 + 1 ≤ 32 := h32
      have hb : S (r.length + 1) = b := hs.1
      have ha : S r.length = a := hs.2.1
      have m1 : nI (r.length + 1 + 1) + -1 = nI (r.length + 1) := by
        rw [← Int32.sub_eq_add_neg]
        exact sub_r (m := 1) (show 1 ≤ r.length + 1 + 1 by omega) (by omega)
      refine ⟨upd S r.length x, ⟨upd_s, stk_upd (Nat.le_refl _) hs.2.2⟩, by show r.length + 1 ≤ 32; omega, fun rec => ?_⟩
      simp (disch := omega) only [↓bn_eq, ↓jn_eq, ↓reduceIte, gd_t, bd_some, bn_eq, jn_eq, bi_some, if_pos, if_neg, i10, nI_lt_i, nI_le_i, nI_eq_i, ll_le, ll_lt, ll_eq, lr_le, lr_lt, lr_eq, ix_n, nI_clamp, nI_add, add_l, add_r, nI_mul, mul_l, mul_r, sub_n, sub_r, div_r, ite_some, if_true, if_false, and_self, and_true, true_and, false_and, and_false, Nat.reduceAdd, Nat.reduceMul, not_false_iff, not_true, f_Law_valueFor_L4, ur_g, hlen, hC, d1, d2, d3, d5, e33, ui_ur, List.length_cons, m1, Nat.add_sub_cancel, ha, hb, j1]
/-! one token of the model -/
section Tkm
variable {N n p q : Nat} {h : mu_H} {S : Nat → Int32} {L : Nat → Int32} {c v : Nat} {k2 : mu_H → Option (Int32 × mu_H)}
theorem tk_m0 {st : List Int32} (hp : p < q) (hq : 520 * n + q ≤ 2600) (hC : h.1 53 (520 * n + p) = nI c) (hV : h.1 54 (520 * n + p) = nI v) (c0 : c = 0) (hl32 : st.length < 32) (rec : (Int32 × Int32 × mu_H) → Option (Int32 × mu_H)) : f_Mod_workOut_L12 N (nI n) (nI q) k2 rec (nI st.length, nI (520 * n + p), ur h 61 S) = rec (nI (st.length + 1), nI (520 * n + (p + 1)), ur h 61 (upd S st.length (nI v))) := by
  subst c0
  have hpq : ¬ 520 * n + q ≤ 520 * n + p := by omega
  have e1 : 520 * n + p + 1 = 520 * n + (p + 1) := by omega
  simp (disch := omega) only [↓bn_eq, ↓jn_eq, ↓reduceIte, gd_t, bd_some, bn_eq, jn_eq, bi_some, if_pos, if_neg, i10, nI_lt_i, nI_le_i, nI_eq_i, ll_le, ll_lt, ll_eq, lr_le, lr_lt, lr_eq, ix_n, nI_clamp, nI_add, add_l, add_r, nI_mul, mul_l, mul_r, sub_n, sub_r, div_r, ite_some, if_true, if_false, and_self, and_true, true_and, false_and, and_false, Nat.reduceAdd, Nat.reduceMul, not_false_iff, not_true, f_Mod_workOut_L12, ur_g, hC, hV, ui_ur, e1]
theorem tk_m1 {st : List Int32} (hp : p < q) (hq : 520 * n + q ≤ 2600) (hC : h.1 53 (520 * n + p) = nI c) (hV : h.1 54 (520 * n + p) = nI v) (hL : ∀ i, i < 6 → h.1 60 i = L i) (c1 : c = 1) (hv : v < 6) (hl32 : st.length < 32) (rec : (Int32 × Int32 × mu_H) → Option (Int32 × mu_H)) : f_Mod_workOut_L12 N (nI n) (nI q) k2 rec (nI st.length, nI (520 * n + p), ur h 61 S) = rec (nI (st.length + 1), nI (520 * n + (p + 1)), ur h 61 (upd S st.length (L v))) := by
  subst c1
  have hpq : ¬ 520 * n + q ≤ 520 * n + p := by omega
  have e1 : 520 * n + p + 1 = 520 * n + (p + 1) := by omega
  simp (disch := omega) only [↓bn_eq, ↓jn_eq, ↓reduceIte, gd_t, bd_some, bn_eq, jn_eq, bi_some, if_pos, if_neg, i10, nI_lt_i, nI_le_i, nI_eq_i, ll_le, ll_lt, ll_eq, lr_le, lr_lt, lr_eq, ix_n, nI_clamp, nI_add, add_l, add_r, nI_mul, mul_l, mul_r, sub_n, sub_r, div_r, ite_some, if_true, if_false, and_self, and_true, true_and, false_and, and_false, Nat.reduceAdd, Nat.reduceMul, not_false_iff, not_true, f_Mod_workOut_L12, ur_g, hC, hV, ui_ur, e1, hL]
theorem tk_m9 {a : Int32} {r : List Int32} (hp : p < q) (hq : 520 * n + q ≤ 2600) (hC : h.1 53 (520 * n + p) = nI c) (c9 : c = 9) (hr : r.length + 1 ≤ 32) (ha : S r.length = a) (rec : (Int32 × Int32 × mu_H) → Option (Int32 × mu_H)) : f_Mod_workOut_L12 N (nI n) (nI q) k2 rec (nI (r.length + 1), nI (520 * n + p), ur h 61 S) = rec (nI (r.length + 1), nI (520 * n + (p + 1)), ur h 61 (upd S r.length (1 - a))) := by
  subst c9
  have hpq : ¬ 520 * n + q ≤ 520 * n + p := by omega
  have e1 : 520 * n + p + 1 = 520 * n + (p + 1) := by omega
  simp (disch := omega) only [↓bn_eq, ↓jn_eq, ↓reduceIte, gd_t, bd_some, bn_eq, jn_eq, bi_some, if_pos, if_neg, i10, nI_lt_i, nI_le_i, nI_eq_i, ll_le, ll_lt, ll_eq, lr_le, lr_lt, lr_eq, ix_n, nI_clamp, nI_add, add_l, add_r, nI_mul, mul_l, mul_r, sub_n, sub_r, div_r, ite_some, if_true, if_false, and_self, and_true, true_and, false_and, and_false, Nat.reduceAdd, Nat.reduceMul, not_false_iff, not_true, f_Mod_workOut_L12, ur_g, hC, ui_ur, Nat.add_sub_cancel, ha, e1]
theorem tk_m2 {a b x : Int32} {r : List Int32} (hp : p < q) (hq : 520 * n + q ≤ 2600) (hC : h.1 53 (520 * n + p) = nI c) (c0 : ¬ c = 0) (c1 : ¬ c = 1) (c9 : ¬ c = 9) (h12 : c < 12) (hr : r.length + 1 + 1 ≤ 32) (hb : S (r.length + 1) = b) (ha : S r.length = a) (j1 : ∀ (N : Nat) (h : mu_H), f_Mod_worked N h (nI c) a.toInt64 b.toInt64 = some x) (rec : (Int32 × Int32 × mu_H) → Option (Int32 × mu_H)) : f_Mod_workOut_L12 N (nI n) (nI q) k2 rec (nI (r.length + 1 + 1), nI (520 * n + p), ur h 61 S) = rec (nI (r.length + 1), nI (520 * n + (p + 1)), ur h 61 (upd S r.length x)) := by
  have hpq : ¬ 520 * n + q ≤ 520 * n + p := by omega
  have e1 : 520 * n + p + 1 = 520 * n + (p + 1) := by omega
  have m1 : nI (r.length + 1 + 1) + -1 = nI (r.length + 1) := by
    rw [← Int32.sub_eq_add_neg]
    exact sub_r (m := 1) (show 1 ≤ r.length + 1 + 1 by omega) (by omega)
  simp (disch := omega) only [↓bn_eq, ↓jn_eq, ↓reduceIte, gd_t, bd_some, bn_eq, jn_eq, bi_some, if_pos, if_neg, i10, nI_lt_i, nI_le_i, nI_eq_i, ll_le, ll_lt, ll_eq, lr_le, lr_lt, lr_eq, ix_n, nI_clamp, nI_add, add_l, add_r, nI_mul, mul_l, mul_r, sub_n, sub_r, div_r, ite_some, if_true, if_false, and_self, and_true, true_and, false_and, and_false, Nat.reduceAdd, Nat.reduceMul, not_false_iff, not_true, f_Mod_workOut_L12, ur_g, hC, ui_ur, m1, Nat.add_sub_cancel, ha, hb, j1, e1]
theorem tk_m {t : Tok} {st st' : List Int32} (hp : p < q) (hq : 520 * n + q ≤ 2600) (hC : h.1 53 (520 * n + p) = nI t.1) (hV : h.1 54 (520 * n + p) = nI t.2) (hL : ∀ i, i < 6 → h.1 60 i = L i) (ht : okT t) (hs : stk S st) (h32 : st.length ≤ 32) (he : ev1 L t st = some st') : ∃ S', stk S' st' ∧ st'.length ≤ 32 ∧ ∀ rec, f_Mod_workOut_L12 N (nI n) (nI q) k2 rec (nI st.length, nI (520 * n + p), ur h 61 S) = rec (nI st'.length, nI (520 * n + (p + 1)), ur h 61 S') := by
  obtain ⟨c, v⟩ := t
  obtain ⟨h12, hv0, hv1⟩ := ht
  simp only at h12 hv0 hv1 hC hV
  simp only [ev1] at he
  by_cases c0 : c = 0
  · rw [if_pos c0] at he
    by_cases hl32 : st.length < 32
    · rw [if_pos hl32] at he
      cases he
      exact ⟨upd S st.length (nI v), stk_push hs, hl32, tk_m0 hp hq hC hV c0 hl32⟩
    · rw [if_neg hl32] at he
      exact absurd he (by simp)
  rw [if_neg c0] at he
  by_cases c1 : c = 1
  · rw [if_pos c1] at he
    by_cases hl32 : st.length < 32
    · rw [if_pos hl32] at he
      cases he
      exact ⟨upd S st.length (L v), stk_push hs, hl32, tk_m1 hp hq hC hV hL c1 (hv1 c1) hl32⟩
    · rw [if_neg hl32] at he
      exact absurd he (by simp)
  rw [if_neg c1] at he
  by_cases c9 : c = 9
  · rw [if_pos c9] at he
    cases st with
    | nil => exact absurd he (by simp)
    | cons a r =>
      simp only [Option.some.injEq] at he
      subst he
      exact ⟨upd S r.length (1 - a), ⟨upd_s, stk_upd (Nat.le_refl _) hs.2⟩, h32, tk_m9 hp hq hC c9 h32 hs.1⟩
  rw [if_neg c9] at he
  match st, hs, h32, he with
  | [], _, _, he => exact absurd he (by simp)
  | [_], _, _, he => exact absurd he (by simp)
  | b :: a :: r, hs, h32, he =>
    simp only at he
    cases ho2 : op2 c a b with
    | none => rw [ho2] at he; exact absurd he (by simp)
    | some x =>
      rw [ho2] at he
      simp only [Option.bind_some, Option.some.injEq] at he
      subst he
      have hr : r.length + 1 + 1 ≤ 32 := h32
      exact ⟨upd S r.length x, ⟨upd_s, stk_upd (Nat.le_refl _) hs.2.2⟩, by show r.length + 1 ≤ 32; omega, tk_m2 hp hq hC c0 c1 c9 h12 hr hs.1 hs.2.1 (fun _ _ => wk_0.trans (op2_s ho2).2)⟩
end Tkm
