/-! the model's clauses; what a day does -/
def tl : List Cla → Nat
  | [] => 0
  | c :: r => c.1.length + c.2.length + tl r
theorem lay_len : ∀ (cs : List Cla) (p : Nat), tl cs + cs.length ≤ (lay p cs).length := by
  intro cs
  induction cs with
  | nil => intro p; exact Nat.le_refl 0
  | cons c r ih =>
    intro p
    have := ih (p + (ofC p c).length)
    rw [lay, List.length_append, tl, List.length_cons]
    by_cases e : c.1 = []
    · have e1 : (ofC p c).length = c.2.length + 1 := by rw [ofC_0 e]; simp
      have e2 : c.1.length = 0 := by rw [e]; rfl
      omega
    · have e1 : (ofC p c).length = c.1.length + 1 + c.2.length + 1 := by rw [ofC_1 e]; simp; omega
      omega
theorem val_m {N n K : Nat} {h : mu_H} {L : Nat → Int32} (hN : 3000 ≤ N) (hn : n ≤ 3) (hL : ∀ i, i < 6 → h.1 60 i = L i) (hLN : ∀ i, i < 6 → isN (L i)) (hK : h.1 56 n = nI K) (hK2 : K ≤ 240) : ∀ (cs : List Cla) (q i : Nat) (S : Nat → Int32), mlay n (h.1 53) (h.1 54) (h.1 57) (h.1 58) (h.1 59) q i cs → i + cs.length = K → q + tl cs ≤ 520 → (∀ c ∈ cs, okC c) → ∃ S', ∀ f, cs.length < f → lp (f_Mod_worthOf_L6 N (nI n) (fun ((x3, h4) : Int32 × mu_H) =>
    gd (ix x3 700) <|
    gd (ix x3 700) <|
    bi (f_Mod_workOut N h4 (nI n) (h4.1 58 x3.toNatClampNeg) (h4.1 59 x3.toNatClampNeg)) fun x5 h6 =>
    some (x5, h6))) f (nI (140 * n + i), ur h 61 S) = some (lvs L cs, ur h 61 S') := by
  intro cs
  induction cs with
  | nil =>
    intro q i S _ hi _ _
    have hi : i + 0 = K := hi
    refine ⟨S, fun f hf => ?_⟩
    obtain ⟨g, rfl⟩ : ∃ g, f = g + 1 := ⟨f - 1, by have : 0 < f := hf; omega⟩
    show f_Mod_worthOf_L6 N (nI n) _ _ (nI (140 * n + i), ur h 61 S) = _
    simp (disch := omega) only [↓bn_eq, ↓jn_eq, ↓reduceIte, gd_t, bd_some, bn_eq, jn_eq, bi_some, if_pos, if_neg, i10, nI_lt_i, nI_le_i, nI_eq_i, ll_le, ll_lt, ll_eq, lr_le, lr_lt, lr_eq, ix_n, nI_clamp, nI_add, add_l, add_r, nI_mul, mul_l, mul_r, sub_n, sub_r, div_r, ite_some, if_true, if_false, and_self, and_true, true_and, false_and, and_false, Nat.reduceAdd, Nat.reduceMul, not_false_iff, not_true, f_Mod_worthOf_L6, ur_g, hK, lvs]
  | cons c r ih =>
    intro q i S hM hi hq hok
    obtain ⟨m1, m2, m3, m4, m5⟩ := hM
    rw [tl] at hq
    rw [List.length_cons] at hi
    obtain ⟨hc1, hc2, hc3⟩ := hok c (List.mem_cons_self ..)
    have hokr := fun c' hc' => hok c' (List.mem_cons_of_mem _ hc')
    obtain ⟨v, -, ev⟩ := hc2 L hLN [] (by decide)
    rw [tk_app] at m4
    have hsum : ∀ S1 : Nat → Int32, ∃ S2, f_Mod_workOut N (ur h 61 S1) (nI n) (nI (q + c.1.length)) (nI (q + c.1.length + c.2.length)) = some (v, ur h 61 S2) := fun S1 => wo_m (S := S1) hN (by omega) hL (by rw [← Nat.add_assoc]; exact m4.2) (fun t ht => hc3 t (List.mem_append_right _ ht)) ev
    by_cases e : c.1 = []
    · have e0 : c.1.length = 0 := by rw [e]; rfl
      obtain ⟨S2, hS2⟩ := hsum S
      refine ⟨S2, fun f hf => ?_⟩
      obtain ⟨g, rfl⟩ : ∃ g, f = g + 1 := ⟨f - 1, by omega⟩
      show f_Mod_worthOf_L6 N (nI n) _ _ (nI (140 * n + i), ur h 61 S) = _
      rw [lvs, if_pos e, ev, hd0]
      have m12 : nI q = nI (q + c.1.length) := by rw [e0]; rfl
      simp (disch := omega) only [↓bn_eq, ↓jn_eq, ↓reduceIte, gd_t, bd_some, bn_eq, jn_eq, bi_some, if_pos, if_neg, i10, nI_lt_i, nI_le_i, nI_eq_i, ll_le, ll_lt, ll_eq, lr_le, lr_lt, lr_eq, ix_n, nI_clamp, nI_add, add_l, add_r, nI_mul, mul_l, mul_r, sub_n, sub_r, div_r, ite_some, if_true, if_false, and_self, and_true, true_and, false_and, and_false, Nat.reduceAdd, Nat.reduceMul, not_false_iff, not_true, f_Mod_worthOf_L6, ur_g, hK, m1, m2, m3, hS2, e0, Nat.add_zero]
      rw [e0, Nat.add_zero] at hS2
      rw [hS2]
      rfl
    · rcases hc1 with hc1 | hc1
      · exact absurd hc1 e
      obtain ⟨b, hb, eb⟩ := hc1 L hLN [] (by decide)
      have e0 : c.1.length ≠ 0 := fun q => e (List.length_eq_zero_iff.mp q)
      obtain ⟨S1, hS1⟩ := wo_m (S := S) hN (show 520 * n + (q + c.1.length) ≤ 2600 by omega) hL m4.1 (fun t ht => hc3 t (List.mem_append_left _ ht)) eb
      by_cases b0 : b = 0
      · obtain ⟨S', hS'⟩ := ih (q + c.1.length + c.2.length) (i + 1) S1 m5 (by omega) (by omega) hokr
        refine ⟨S', fun f hf => ?_⟩
        rw [List.length_cons] at hf
        obtain ⟨g, rfl⟩ : ∃ g, f = g + 1 := ⟨f - 1, by omega⟩
        rw [lvs, if_neg e, eb, hd0, if_pos b0, ← hS' g (by omega)]
        show f_Mod_worthOf_L6 N (nI n) _ _ (nI (140 * n + i), ur h 61 S) = _
        have e9 : 140 * n + i + 1 = 140 * n + (i + 1) := by omega
        simp (disch := omega) only [↓bn_eq, ↓jn_eq, ↓reduceIte, gd_t, bd_some, bn_eq, jn_eq, bi_some, if_pos, if_neg, i10, nI_lt_i, nI_le_i, nI_eq_i, ll_le, ll_lt, ll_eq, lr_le, lr_lt, lr_eq, ix_n, nI_clamp, nI_add, add_l, add_r, nI_mul, mul_l, mul_r, sub_n, sub_r, div_r, ite_some, if_true, if_false, and_self, and_true, true_and, false_and, and_false, Nat.reduceAdd, Nat.reduceMul, not_false_iff, not_true, f_Mod_worthOf_L6, ur_g, hK, m1, m2, m3, hS1, b0, e9]
      · obtain ⟨S2, hS2⟩ := hsum S1
        refine ⟨S2, fun f hf => ?_⟩
        rw [List.length_cons] at hf
        obtain ⟨g, rfl⟩ : ∃ g, f = g + 1 := ⟨f - 1, by omega⟩
        rw [lvs, if_neg e, eb, hd0, if_neg b0, ev, hd0]
        show f_Mod_worthOf_L6 N (nI n) _ _ (nI (140 * n + i), ur h 61 S) = _
        simp (disch := omega) only [↓bn_eq, ↓jn_eq, ↓reduceIte, gd_t, bd_some, bn_eq, jn_eq, bi_some, if_pos, if_neg, i10, nI_lt_i, nI_le_i, nI_eq_i, ll_le, ll_lt, ll_eq, lr_le, lr_lt, lr_eq, ix_n, nI_clamp, nI_add, add_l, add_r, nI_mul, mul_l, mul_r, sub_n, sub_r, div_r, ite_some, if_true, if_false, and_self, and_true, true_and, false_and, and_false, Nat.reduceAdd, Nat.reduceMul, not_false_iff, not_true, f_Mod_worthOf_L6, ur_g, hK, m1, m2, m3, hS1, b0, hS2]
theorem worth_c {N o len : Nat} {h : mu_H} {L C : Nat → Int32} {cs : List Cla} (hN : 3000 ≤ N) (ho : o < 34) (hlen : h.1 o 2 = nI (lay 0 cs).length) (hl : (lay 0 cs).length ≤ 240) (hL : ∀ i, i < 6 → h.1 36 i = L i) (hLN : ∀ i, i < 6 → isN (L i)) (hA : At (h.1 (o + 1)) 0 (lay 0 cs)) (hok : ∀ c ∈ cs, okC c) : ∃ S', f_Law_valueFor N h o = some (lvs L cs, ur h (o + 2) S') := by
  have z0 : (0 : Int32).toNatClampNeg = 0 := rfl
  obtain ⟨S', hS'⟩ := val_c (N := N) (h := h) (L := L) (k1 := fun ((x2, h3) : Int32 × mu_H) =>
    gd (ix (x2 - 1) 32) <|
    some (h3.1 (o + 2) (x2 - 1).toNatClampNeg, h3)) ho hlen hl hL hLN (fun S => by
      show gd (ix (nI 1 - 1) 32) (some ((ur h (o + 2) S).1 (o + 2) (nI 1 - 1).toNatClampNeg, ur h (o + 2) S)) = _
      rw [ur_1, show nI 1 - 1 = (0 : Int32) from by decide, show ix 0 32 = true from rfl, gd_t, z0]) cs 0 (h.1 (o + 2)) hA (Nat.zero_add _) hok
  refine ⟨S', ?_⟩
  have := hS' N (by omega)
  rw [ur_self] at this
  exact this
theorem worth_m {N n : Nat} {h : mu_H} {L : Nat → Int32} {cs : List Cla} (hN : 3000 ≤ N) (hn : n ≤ 3) (hl : (lay 0 cs).length ≤ 240) (hL : ∀ i, i < 6 → h.1 60 i = L i) (hLN : ∀ i, i < 6 → isN (L i)) (hK : h.1 56 n = nI cs.length) (hM : mlay n (h.1 53) (h.1 54) (h.1 57) (h.1 58) (h.1 59) 0 0 cs) (hok : ∀ c ∈ cs, okC c) : ∃ S', f_Mod_worthOf N h (nI n) = some (lvs L cs, ur h 61 S') := by
  have hll := lay_len cs 0
  obtain ⟨S', hS'⟩ := val_m hN hn hL hLN hK (by omega) cs 0 0 (h.1 61) hM (Nat.zero_add _) (by omega) hok
  refine ⟨S', ?_⟩
  have := hS' N (by omega)
  rw [ur_self] at this
  have e : 140 * nI n = nI (140 * n + 0) := by
    rw [show (140 : Int32) = nI 140 from rfl, pk_mul]
    rfl
  simp only [f_Mod_worthOf, bn_eq, jn_eq, e]
  exact this
