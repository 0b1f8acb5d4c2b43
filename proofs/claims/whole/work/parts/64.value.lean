/-! rows of tokens, clauses, laws -/
theorem At_cons {C : Nat → Int32} {p : Nat} {x : Int32} {l : List Int32} : At C p (x :: l) ↔ C p = x ∧ At C (p + 1) l := by
  constructor
  · intro h
    refine ⟨h 0 (Nat.zero_lt_succ _), fun i hi => ?_⟩
    have := h (i + 1) (Nat.succ_lt_succ hi)
    rw [show p + (i + 1) = p + 1 + i by omega] at this
    exact this
  · rintro ⟨h1, h2⟩ i hi
    cases i with
    | zero => exact h1
    | succ i =>
      have := h2 i (Nat.lt_of_succ_lt_succ hi)
      rw [show p + (i + 1) = p + 1 + i by omega]
      exact this
theorem At_app {C : Nat → Int32} : ∀ {a b : List Int32} {p : Nat}, At C p (a ++ b) ↔ At C p a ∧ At C (p + a.length) b := by
  intro a
  induction a with
  | nil => intro b p; exact ⟨fun h => ⟨fun i hi => absurd hi (Nat.not_lt_zero i), h⟩, fun h => h.2⟩
  | cons x a ih =>
    intro b p
    rw [List.cons_append, At_cons, ih, At_cons, List.length_cons, show p + (a.length + 1) = p + 1 + a.length by omega]
    exact ⟨fun h => ⟨⟨h.1, h.2.1⟩, h.2.2⟩, fun h => ⟨h.1.1, h.1.2, h.2⟩⟩
theorem tk_cons {C V : Nat → Int32} {p : Nat} {x : Tok} {l : List Tok} : toks C V p (x :: l) ↔ (C p = nI x.1 ∧ V p = nI x.2) ∧ toks C V (p + 1) l := by
  constructor
  · intro h
    refine ⟨h 0 (Nat.zero_lt_succ _), fun i hi => ?_⟩
    have := h (i + 1) (Nat.succ_lt_succ hi)
    rw [show p + (i + 1) = p + 1 + i by omega] at this
    exact this
  · rintro ⟨h1, h2⟩ i hi
    cases i with
    | zero => exact h1
    | succ i =>
      have := h2 i (Nat.lt_of_succ_lt_succ hi)
      rw [show p + (i + 1) = p + 1 + i by omega]
      exact this
theorem tk_app {C V : Nat → Int32} : ∀ {a b : List Tok} {p : Nat}, toks C V p (a ++ b) ↔ toks C V p a ∧ toks C V (p + a.length) b := by
  intro a
  induction a with
  | nil => intro b p; exact ⟨fun h => ⟨fun i hi => absurd hi (Nat.not_lt_zero i), h⟩, fun h => h.2⟩
  | cons x a ih =>
    intro b p
    rw [List.cons_append, tk_cons, ih, tk_cons, List.length_cons, show p + (a.length + 1) = p + 1 + a.length by omega]
    exact ⟨fun h => ⟨⟨h.1, h.2.1⟩, h.2.2⟩, fun h => ⟨h.1.1, h.1.2, h.2⟩⟩
theorem seg_c {N o len : Nat} {h : mu_H} {L : Nat → Int32} {k1 : (Int32 × mu_H) → Option (Int32 × mu_H)} (ho : o < 34) (hlen : h.1 o 2 = nI len) (hl : len ≤ 240) (hL : ∀ i, i < 6 → h.1 36 i = L i) : ∀ (ts : List Tok) (p : Nat) (S : Nat → Int32) (st st' : List Int32), At (h.1 (o + 1)) p (ts.map clT) → p + ts.length ≤ len → (∀ t ∈ ts, okT t) → stk S st → st.length ≤ 32 → evs L ts st = some st' → ∃ S', stk S' st' ∧ st'.length ≤ 32 ∧ ∀ f, lp (f_Law_valueFor_L4 N o k1) (f + ts.length) (nI st.length, nI p, ur h (o + 2) S) = lp (f_Law_valueFor_L4 N o k1) f (nI st'.length, nI (p + ts.length), ur h (o + 2) S') := by
  intro ts
  induction ts with
  | nil =>
    intro p S st st' _ _ _ hs h32 he
    cases he
    exact ⟨S, hs, h32, fun f => rfl⟩
  | cons t ts ih =>
    intro p S st st' hA hp hok hs h32 he
    have hp : p + (ts.length + 1) ≤ len := hp
    rw [List.map_cons, At_cons] at hA
    cases e1 : ev1 L t st with
    | none =>
      rw [evs, e1] at he
      exact absurd he (by simp)
    | some s1 =>
      rw [evs, e1] at he
      obtain ⟨S1, w1, w2, w3⟩ := tk_c (N := N) (k1 := k1) ho hlen hl (show p < len by omega) hA.1 hL (hok t (List.mem_cons_self ..)) hs h32 e1
      obtain ⟨S2, v1, v2, v3⟩ := ih (p + 1) S1 s1 st' hA.2 (by omega) (fun t' ht' => hok t' (List.mem_cons_of_mem _ ht')) w1 w2 he
      refine ⟨S2, v1, v2, fun f => ?_⟩
      rw [List.length_cons, show p + (ts.length + 1) = p + 1 + ts.length by omega, ← v3 f]
      exact w3 (lp (f_Law_valueFor_L4 N o k1) (f + ts.length))
theorem seg_m {N n q : Nat} {h : mu_H} {L : Nat → Int32} {k2 : mu_H → Option (Int32 × mu_H)} (hq : 520 * n + q ≤ 2600) (hL : ∀ i, i < 6 → h.1 60 i = L i) : ∀ (ts : List Tok) (p : Nat) (S : Nat → Int32) (st st' : List Int32), toks (h.1 53) (h.1 54) (520 * n + p) ts → p + ts.length ≤ q → (∀ t ∈ ts, okT t) → stk S st → st.length ≤ 32 → evs L ts st = some st' → ∃ S', stk S' st' ∧ st'.length ≤ 32 ∧ ∀ f, lp (f_Mod_workOut_L12 N (nI n) (nI q) k2) (f + ts.length) (nI st.length, nI (520 * n + p), ur h 61 S) = lp (f_Mod_workOut_L12 N (nI n) (nI q) k2) f (nI st'.length, nI (520 * n + (p + ts.length)), ur h 61 S') := by
  intro ts
  induction ts with
  | nil =>
    intro p S st st' _ _ _ hs h32 he
    cases he
    exact ⟨S, hs, h32, fun f => rfl⟩
  | cons t ts ih =>
    intro p S st st' hA hp hok hs h32 he
    have hp : p + (ts.length + 1) ≤ q := hp
    rw [tk_cons] at hA
    cases e1 : ev1 L t st with
    | none =>
      rw [evs, e1] at he
      exact absurd he (by simp)
    | some s1 =>
      rw [evs, e1] at he
      obtain ⟨S1, w1, w2, w3⟩ := tk_m (N := N) (k2 := k2) (show p < q by omega) hq hA.1.1 hA.1.2 hL (hok t (List.mem_cons_self ..)) hs h32 e1
      obtain ⟨S2, v1, v2, v3⟩ := ih (p + 1) S1 s1 st' (by rw [show 520 * n + (p + 1) = 520 * n + p + 1 by omega]; exact hA.2) (by omega) (fun t' ht' => hok t' (List.mem_cons_of_mem _ ht')) w1 w2 he
      refine ⟨S2, v1, v2, fun f => ?_⟩
      rw [List.length_cons, show p + (ts.length + 1) = p + 1 + ts.length by omega, ← v3 f]
      exact w3 (lp (f_Mod_workOut_L12 N (nI n) (nI q) k2) (f + ts.length))
/-- a row worked out by the model -/
theorem wo_m {N n a : Nat} {h : mu_H} {L S : Nat → Int32} {ts : List Tok} {v : Int32} (hN : 3000 ≤ N) (hn : 520 * n + (a + ts.length) ≤ 2600) (hL : ∀ i, i < 6 → h.1 60 i = L i) (hT : toks (h.1 53) (h.1 54) (520 * n + a) ts) (hok : ∀ t ∈ ts, okT t) (he : evs L ts [] = some [v]) : ∃ S', f_Mod_workOut N (ur h 61 S) (nI n) (nI a) (nI (a + ts.length)) = some (v, ur h 61 S') := by
  have i0 : ix 0 80 = true := rfl
  have z0 : (0 : Int32).toNatClampNeg = 0 := rfl
  obtain ⟨S', s1, -, s3⟩ := seg_m (N := N) (h := h) (k2 := fun h3 => gd (ix 0 80) <| some (h3.1 61 (0 : Int32).toNatClampNeg, h3)) hn hL ts a S [] [v] hT (Nat.le_refl _) hok trivial (Nat.zero_le 32) he
  refine ⟨S', ?_⟩
  have e := s3 (N - ts.length)
  rw [show N - ts.length + ts.length = N by omega] at e
  obtain ⟨g, hg⟩ : ∃ g, N - ts.length = g + 1 := ⟨N - ts.length - 1, by omega⟩
  rw [hg] at e
  have e2 : 520 * nI n + nI a = nI (520 * n + a) := by
    rw [show (520 : Int32) = nI 520 from rfl, pk_mul, nI_add]
  have hv : S' 0 = v := s1.1
  simp only [f_Mod_workOut, bn_eq, jn_eq, e2]
  rw [show ((0 : Int32), nI (520 * n + a), ur h 61 S) = (nI ([] : List Int32).length, nI (520 * n + a), ur h 61 S) from rfl, e]
  show f_Mod_workOut_L12 N (nI n) (nI (a + ts.length)) _ _ (nI [v].length, nI (520 * n + (a + ts.length)), ur h 61 S') = _
  simp (disch := omega) only [↓bn_eq, ↓jn_eq, ↓reduceIte, gd_t, bd_some, bn_eq, jn_eq, bi_some, if_pos, if_neg, i10, nI_lt_i, nI_le_i, nI_eq_i, ll_le, ll_lt, ll_eq, lr_le, lr_lt, lr_eq, ix_n, nI_clamp, nI_add, add_l, add_r, nI_mul, mul_l, mul_r, sub_n, sub_r, div_r, ite_some, if_true, if_false, and_self, and_true, true_and, false_and, and_false, Nat.reduceAdd, Nat.reduceMul, not_false_iff, not_true, f_Mod_workOut_L12, i0, z0, ur_g, hv]
/-- what a law is worth -/
def hd0 : Option (List Int32) → Int32
  | some (v :: _) => v
  | _ => 0
def lvs (L : Nat → Int32) : List Cla → Int32
  | [] => 0
  | c :: r => if c.1 = [] then hd0 (evs L c.2 []) else if hd0 (evs L c.1 []) = 0 then lvs L r else hd0 (evs L c.2 [])
theorem lvs_N {L : Nat → Int32} (hL : ∀ i, i < 6 → isN (L i)) : ∀ cs : List Cla, (∀ c ∈ cs, okC c) → isN (lvs L cs) := by
  intro cs
  induction cs with
  | nil => intro _; exact (show isN 0 from ⟨by decide, by decide⟩)
  | cons c r ih =>
    intro h
    obtain ⟨-, hs, -⟩ := h c (List.mem_cons_self ..)
    obtain ⟨v, hv, e⟩ := hs L hL [] (by decide)
    have ih := ih (fun c' hc' => h c' (List.mem_cons_of_mem _ hc'))
    rw [lvs, e, hd0]
    by_cases c1 : c.1 = []
    · rw [if_pos c1]; exact hv
    · rw [if_neg c1]
      by_cases c2 : hd0 (evs L c.1 []) = 0
      · rw [if_pos c2]; exact ih
      · rw [if_neg c2]; exact hv
set_option maxRecDepth 100000 in
theorem leap_dec : ∀ e : Fin 512, (-1000 - nI e.val < -6) ∧ ¬ (-1000 < -1000 - nI e.val) ∧ (-1000) - (-1000 - nI e.val) = nI e.val := by decide
theorem ofC_0 {p : Nat} {c : Cla} (h : c.1 = []) : ofC p c = c.2.map clT ++ [-59] := if_pos h
theorem ofC_1 {p : Nat} {c : Cla} (h : ¬ c.1 = []) : ofC p c = c.1.map clT ++ [-1000 - nI (p + c.1.length + c.2.length + 2)] ++ c.2.map clT ++ [-59] := if_neg h
theorem val_c {N o len : Nat} {h : mu_H} {L : Nat → Int32} {k1 : (Int32 × mu_H) → Option (Int32 × mu_H)} (ho : o < 34) (hlen : h.1 o 2 = nI len) (hl : len ≤ 240) (hL : ∀ i, i < 6 → h.1 36 i = L i) (hLN : ∀ i, i < 6 → isN (L i)) (hk : ∀ S : Nat → Int32, k1 (nI 1, ur h (o + 2) S) = some (S 0, ur h (o + 2) S)) : ∀ (cs : List Cla) (p : Nat) (S : Nat → Int32), At (h.1 (o + 1)) p (lay p cs) → p + (lay p cs).length = len → (∀ c ∈ cs, okC c) → ∃ S', ∀ f, (lay p cs).length < f → lp (f_Law_valueFor_L4 N o k1) f (0, nI p, ur h (o + 2) S) = some (lvs L cs, ur h (o + 2) S') := by
  intro cs
  induction cs with
  | nil =>
    intro p S _ hp _
    have hp : p + 0 = len := hp
    refine ⟨S, fun f hf => ?_⟩
    obtain ⟨g, rfl⟩ : ∃ g, f = g + 1 := ⟨f - 1, by have : 0 < f := hf; omega⟩
    show f_Law_valueFor_L4 N o k1 _ (0, nI p, ur h (o + 2) S) = _
    simp (disch := omega) only [↓bn_eq, ↓jn_eq, ↓reduceIte, gd_t, bd_some, bn_eq, jn_eq, bi_some, if_pos, if_neg, i10, nI_lt_i, nI_le_i, nI_eq_i, ll_le, ll_lt, ll_eq, lr_le, lr_lt, lr_eq, ix_n, nI_clamp, nI_add, add_l, add_r, nI_mul, mul_l, mul_r, sub_n, sub_r, div_r, ite_some, if_true, if_false, and_self, and_true, true_and, false_and, and_false, Nat.reduceAdd, Nat.reduceMul, not_false_iff, not_true, f_Law_valueFor_L4, ur_g, hlen, lvs]
  | cons c r ih =>
    intro p S hA hp hok
    obtain ⟨hc1, hc2, hc3⟩ := hok c (List.mem_cons_self ..)
    have hokr := fun c' hc' => hok c' (List.mem_cons_of_mem _ hc')
    obtain ⟨v, -, ev⟩ := hc2 L hLN [] (by decide)
    have h59 : ∀ (pos : Nat) (S1 : Nat → Int32) (rec : (Int32 × Int32 × mu_H) → Option (Int32 × mu_H)), pos < len → h.1 (o + 1) pos = -59 → f_Law_valueFor_L4 N o k1 rec (nI 1, nI pos, ur h (o + 2) S1) = some (S1 0, ur h (o + 2) S1) := by
      intro pos S1 rec hpos hC
      simp (disch := omega) only [↓bn_eq, ↓jn_eq, ↓reduceIte, gd_t, bd_some, bn_eq, jn_eq, bi_some, if_pos, if_neg, i10, nI_lt_i, nI_le_i, nI_eq_i, ll_le, ll_lt, ll_eq, lr_le, lr_lt, lr_eq, ix_n, nI_clamp, nI_add, add_l, add_r, nI_mul, mul_l, mul_r, sub_n, sub_r, div_r, ite_some, if_true, if_false, and_self, and_true, true_and, false_and, and_false, Nat.reduceAdd, Nat.reduceMul, not_false_iff, not_true, f_Law_valueFor_L4, ur_g, hlen, hC, show ((-59 : Int32) < -6) = True from eq_true (by decide), show ((-1000 : Int32) < -59) = True from eq_true (by decide), hk]
    by_cases e : c.1 = []
    · rw [lay, ofC_0 e] at hA hp
      rw [lay, ofC_0 e]
      rw [At_app, At_app, At_cons] at hA
      simp only [List.length_append, List.length_map, List.length_cons, List.length_nil] at hA hp ⊢
      obtain ⟨S1, s1, -, s3⟩ := seg_c (N := N) (k1 := k1) ho hlen hl hL c.2 p S [] [v] hA.1.1 (by omega) (fun t ht => hc3 t (List.mem_append_right _ ht)) trivial (by decide) ev
      refine ⟨S1, fun f hf => ?_⟩
      obtain ⟨g, rfl⟩ : ∃ g, f = g + 1 + c.2.length := ⟨f - 1 - c.2.length, by omega⟩
      have e1 := s3 (g + 1)
      rw [show ((0 : Int32), nI p, ur h (o + 2) S) = (nI ([] : List Int32).length, nI p, ur h (o + 2) S) from rfl, e1]
      have hv : S1 0 = v := s1.1
      rw [lvs, if_pos e, ev, hd0, ← hv]
      exact h59 (p + c.2.length) S1 _ (by omega) hA.1.2.1
    · rcases hc1 with hc1 | hc1
      · exact absurd hc1 e
      obtain ⟨b, hb, eb⟩ := hc1 L hLN [] (by decide)
      obtain ⟨en, hen⟩ : ∃ en, en = p + c.1.length + c.2.length + 2 := ⟨_, rfl⟩
      rw [lay, ofC_1 e, ← hen] at hA hp
      rw [lay, ofC_1 e, ← hen]
      rw [At_app, At_app, At_app, At_app, At_cons, At_cons] at hA
      simp only [List.length_append, List.length_map, List.length_cons, List.length_nil] at hA hp ⊢
      have eq1 : p + (c.1.length + (0 + 1) + c.2.length + (0 + 1)) = en := by omega
      rw [eq1] at hA hp ⊢
      obtain ⟨⟨⟨⟨a1, a2, -⟩, a3⟩, a4, -⟩, a5⟩ := hA
      obtain ⟨S1, s1, -, s3⟩ := seg_c (N := N) (k1 := k1) ho hlen hl hL c.1 p S [] [b] a1 (by omega) (fun t ht => hc3 t (List.mem_append_left _ ht)) trivial (by decide) eb
      have hv1 : S1 0 = b := s1.1
      obtain ⟨d1, d2, d3⟩ := leap_dec ⟨en, by omega⟩
      simp only at d1 d2 d3
      have m1 : nI 1 + -1 = (0 : Int32) := by decide
      have m0 : (0 : Int32).toNatClampNeg = 0 := rfl
      have i0 : ix 0 32 = true := rfl
      by_cases b0 : b = 0
      · obtain ⟨S', hS'⟩ := ih en S1 a5 (by omega) hokr
        refine ⟨S', fun f hf => ?_⟩
        obtain ⟨g, rfl⟩ : ∃ g, f = g + 1 + c.1.length := ⟨f - 1 - c.1.length, by omega⟩
        have e1 := s3 (g + 1)
        rw [show ((0 : Int32), nI p, ur h (o + 2) S) = (nI ([] : List Int32).length, nI p, ur h (o + 2) S) from rfl, e1]
        show f_Law_valueFor_L4 N o k1 (lp (f_Law_valueFor_L4 N o k1) g) (nI 1, nI (p + c.1.length), ur h (o + 2) S1) = _
        rw [lvs, if_neg e, eb, hd0, if_pos b0, ← hS' g (by omega)]
        have e9 : nI en - 1 + 1 = nI en := Int32.sub_add_cancel _ _
        simp (disch := omega) only [↓bn_eq, ↓jn_eq, ↓reduceIte, gd_t, bd_some, bn_eq, jn_eq, bi_some, if_pos, if_neg, i10, nI_lt_i, nI_le_i, nI_eq_i, ll_le, ll_lt, ll_eq, lr_le, lr_lt, lr_eq, ix_n, nI_clamp, nI_add, add_l, add_r, nI_mul, mul_l, mul_r, sub_n, sub_r, div_r, ite_some, if_true, if_false, and_self, and_true, true_and, false_and, and_false, Nat.reduceAdd, Nat.reduceMul, not_false_iff, not_true, f_Law_valueFor_L4, ur_g, hlen, a2, d1, d2, d3, m1, m0, i0, hv1, b0, show ¬ en ≤ p + c.1.length by omega, e9]
        rw [show en - 1 + 1 = en by omega]
      · obtain ⟨S2, t1, -, t3⟩ := seg_c (N := N) (k1 := k1) ho hlen hl hL c.2 (p + c.1.length + 1) S1 [] [v] (by
          rw [show p + c.1.length + 1 = p + (c.1.length + (0 + 1)) by omega]; exact a3) (by omega) (fun t ht => hc3 t (List.mem_append_right _ ht)) trivial (by decide) ev
        refine ⟨S2, fun f hf => ?_⟩
        obtain ⟨g, rfl⟩ : ∃ g, f = g + 1 + c.2.length + 1 + c.1.length := ⟨f - 1 - c.2.length - 1 - c.1.length, by omega⟩
        have e1 := s3 (g + 1 + c.2.length + 1)
        rw [show ((0 : Int32), nI p, ur h (o + 2) S) = (nI ([] : List Int32).length, nI p, ur h (o + 2) S) from rfl, e1]
        show f_Law_valueFor_L4 N o k1 (lp (f_Law_valueFor_L4 N o k1) (g + 1 + c.2.length)) (nI 1, nI (p + c.1.length), ur h (o + 2) S1) = _
        have e2 := t3 (g + 1)
        have hv : S2 0 = v := t1.1
        have e3 := h59 (p + c.1.length + 1 + c.2.length) S2 (lp (f_Law_valueFor_L4 N o k1) g) (by omega) (by
          rw [show p + c.1.length + 1 + c.2.length = p + (c.1.length + (0 + 1) + c.2.length) by omega]; exact a4)
        have s0 : ∀ rec : (Int32 × Int32 × mu_H) → Option (Int32 × mu_H), f_Law_valueFor_L4 N o k1 rec (nI 1, nI (p + c.1.length), ur h (o + 2) S1) = rec (0, nI (p + c.1.length + 1), ur h (o + 2) S1) := by
          intro rec
          simp (disch := omega) only [↓bn_eq, ↓jn_eq, ↓reduceIte, gd_t, bd_some, bn_eq, jn_eq, bi_some, if_pos, if_neg, i10, nI_lt_i, nI_le_i, nI_eq_i, ll_le, ll_lt, ll_eq, lr_le, lr_lt, lr_eq, ix_n, nI_clamp, nI_add, add_l, add_r, nI_mul, mul_l, mul_r, sub_n, sub_r, div_r, ite_some, if_true, if_false, and_self, and_true, true_and, false_and, and_false, Nat.reduceAdd, Nat.reduceMul, not_false_iff, not_true, f_Law_valueFor_L4, ur_g, hlen, a2, d1, d2, d3, m1, m0, i0, hv1, b0]
        rw [lvs, if_neg e, eb, hd0, if_neg b0, ev, hd0, ← hv, s0]
        exact e2.trans e3
