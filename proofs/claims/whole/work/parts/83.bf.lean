/-! the class's ways: Bellman and Ford -/
section Bf
variable {s : Nat} {ea eb ln : Nat → Nat}
def uN (f : Nat → Nat) (k x : Nat) : Nat → Nat := fun j => if j = k then x else f j
def rlx (ea eb ln : Nat → Nat) (r : Nat) (D : Nat → Nat) : Nat → Nat :=
  uN (uN D (ea r) (min (D (ea r)) (D (eb r) + ln r))) (eb r) (min (uN D (ea r) (min (D (ea r)) (D (eb r) + ln r)) (eb r)) (uN D (ea r) (min (D (ea r)) (D (eb r) + ln r)) (ea r) + ln r))
theorem uN_s {f : Nat → Nat} {k x : Nat} : uN f k x k = x := if_pos rfl
theorem uN_n {f : Nat → Nat} {k j x : Nat} (h : ¬ j = k) : uN f k x j = f j := if_neg h
theorem rlx_le {r : Nat} {D : Nat → Nat} (p : Nat) : rlx ea eb ln r D p ≤ D p := by
  have h1 : ∀ j, uN D (ea r) (min (D (ea r)) (D (eb r) + ln r)) j ≤ D j := by
    intro j
    by_cases c : j = ea r
    · rw [c, uN_s]; omega
    · rw [uN_n c]; exact Nat.le_refl _
  rw [rlx]
  generalize uN D (ea r) (min (D (ea r)) (D (eb r) + ln r)) = D1 at h1
  by_cases c : p = eb r
  · rw [c, uN_s]; have := h1 (eb r); omega
  · rw [uN_n c]; exact h1 p
theorem rlx_e {r p q : Nat} {D : Nat → Nat} (e : Eg s ea eb r p q) (hne : ¬ ea r = eb r) : rlx ea eb ln r D q ≤ D p + ln r := by
  rw [rlx]
  obtain ⟨-, ⟨h1, h2⟩ | ⟨h1, h2⟩⟩ := e
  · rw [← h2, ← h1, uN_s, uN_s]; omega
  · rw [← h2, ← h1, uN_n hne, uN_s]; omega
def Snd (s : Nat) (ea eb ln : Nat → Nat) (src : Nat) (D : Nat → Nat) : Prop := ∀ p, D p < 1000000000 → ∃ n, Wb s ea eb ln no n src p (D p)
theorem rlx_S {r src : Nat} {D : Nat → Nat} (hr : r < s) (h : Snd s ea eb ln src D) : Snd s ea eb ln src (rlx ea eb ln r D) := by
  have h1 : Snd s ea eb ln src (uN D (ea r) (min (D (ea r)) (D (eb r) + ln r))) := by
    intro p hp
    by_cases c : p = ea r
    · rw [c, uN_s] at hp ⊢
      by_cases d : D (ea r) ≤ D (eb r) + ln r
      · rw [Nat.min_eq_left d] at hp ⊢; exact h _ hp
      · rw [Nat.min_eq_right (by omega)] at hp ⊢
        obtain ⟨n, w⟩ := h (eb r) (by omega)
        exact ⟨n + 1, Wb_snoc ⟨hr, Or.inr ⟨rfl, rfl⟩⟩ n src _ w⟩
    · rw [uN_n c] at hp ⊢; exact h p hp
  rw [rlx]
  generalize uN D (ea r) (min (D (ea r)) (D (eb r) + ln r)) = D1 at h1
  intro p hp
  by_cases c : p = eb r
  · rw [c, uN_s] at hp ⊢
    by_cases d : D1 (eb r) ≤ D1 (ea r) + ln r
    · rw [Nat.min_eq_left d] at hp ⊢; exact h1 _ hp
    · rw [Nat.min_eq_right (by omega)] at hp ⊢
      obtain ⟨n, w⟩ := h1 (ea r) (by omega)
      exact ⟨n + 1, Wb_snoc ⟨hr, Or.inl ⟨rfl, rfl⟩⟩ n src _ w⟩
  · rw [uN_n c] at hp ⊢; exact h1 p hp
def rnw (s : Nat) (ea eb ln : Nat → Nat) (D : Nat → Nat) : Nat → Nat := fold (rlx ea eb ln) D s
theorem rnw_le {D : Nat → Nat} (p : Nat) : ∀ n, fold (rlx ea eb ln) D n p ≤ D p := by
  intro n
  induction n with
  | zero => exact Nat.le_refl _
  | succ n ih => exact Nat.le_trans (rlx_le p) ih
theorem rnw_ge {D : Nat → Nat} (p : Nat) {n : Nat} : ∀ m, n ≤ m → fold (rlx ea eb ln) D m p ≤ fold (rlx ea eb ln) D n p := by
  intro m
  induction m with
  | zero => intro h; rw [show n = 0 by omega]; exact Nat.le_refl _
  | succ m ih =>
    intro h
    by_cases c : n = m + 1
    · rw [c]; exact Nat.le_refl _
    · exact Nat.le_trans (rlx_le p) (ih (by omega))
theorem rnw_S {src : Nat} {D : Nat → Nat} (h : Snd s ea eb ln src D) : ∀ n, n ≤ s → Snd s ea eb ln src (fold (rlx ea eb ln) D n) := by
  intro n
  induction n with
  | zero => intro _; exact h
  | succ n ih => intro hn; exact rlx_S (by omega) (ih (by omega))
theorem rnw_C {src k : Nat} {D : Nat → Nat} (hne : ∀ r, r < s → ¬ ea r = eb r) (h : ∀ n p l, n ≤ k → Wb s ea eb ln no n src p l → D p ≤ l) : ∀ n p l, n ≤ k + 1 → Wb s ea eb ln no n src p l → rnw s ea eb ln D p ≤ l := by
  intro n p l hn w
  by_cases c : n ≤ k
  · exact Nat.le_trans (rnw_le p s) (h n p l c w)
  · cases n with
    | zero => omega
    | succ n =>
      obtain ⟨r, q, l', e, w', rfl⟩ := Wb_last n src p l w
      have h1 := h n q l' (by omega) w'
      have h2 : fold (rlx ea eb ln) D (r + 1) p ≤ fold (rlx ea eb ln) D r q + ln r := rlx_e e (hne r e.1)
      have h3 := rnw_le (ea := ea) (eb := eb) (ln := ln) (D := D) q r
      have h4 := rnw_ge (ea := ea) (eb := eb) (ln := ln) (D := D) p (n := r + 1) s e.1
      show fold (rlx ea eb ln) D s p ≤ _
      omega
def D0 (src : Nat) : Nat → Nat := fun p => if p = src then 0 else 1000000000
theorem D7 (hne : ∀ r, r < s → ¬ ea r = eb r) (src : Nat) : ∀ k, Snd s ea eb ln src (Nat.repeat (rnw s ea eb ln) k (D0 src)) ∧ (∀ n p l, n ≤ k → Wb s ea eb ln no n src p l → Nat.repeat (rnw s ea eb ln) k (D0 src) p ≤ l) ∧ ∀ p, Nat.repeat (rnw s ea eb ln) k (D0 src) p ≤ 1000000000 := by
  intro k
  induction k with
  | zero =>
    refine ⟨fun p hp => ?_, fun n p l hn w => ?_, fun p => ?_⟩
    · have hp : D0 src p < 1000000000 := hp
      rw [D0] at hp
      by_cases c : p = src
      · refine ⟨0, c.symm, ?_⟩
        show D0 src p = 0
        rw [D0, if_pos c]
      · rw [if_neg c] at hp; omega
    · have : n = 0 := by omega
      subst this
      obtain ⟨rfl, rfl⟩ := w
      show D0 src src ≤ 0
      rw [D0, if_pos rfl]
      exact Nat.le_refl 0
    · show D0 src p ≤ _
      rw [D0]; split <;> omega
  | succ k ih =>
    obtain ⟨a, b, c⟩ := ih
    exact ⟨rnw_S a s (Nat.le_refl s), rnw_C hne b, fun p => Nat.le_trans (rnw_le p s) (c p)⟩
/-- bounds of a way without return -/
theorem Sp_b {wr : Nat → Nat} {g : Nat} (hs : s ≤ 9) (hw : ∀ r, r < s → wr r ≤ 99) : ∀ n been p w b, Sp s ea eb wr g n been p w b → w ≤ 99 * n ∧ b ≤ 256 * n := by
  intro n
  induction n with
  | zero => rintro been p w b ⟨-, rfl, rfl⟩; exact ⟨by omega, by omega⟩
  | succ n ih =>
    rintro been p w b ⟨-, r, p', w', b', e, -, h, rfl, rfl⟩
    have h1 := ih _ _ _ _ h
    have h2 := hw r e.1
    have h3 : 2 ^ r ≤ 2 ^ 8 := Nat.pow_le_pow_right (by decide) (by have := e.1; omega)
    have h4 : 2 ^ 8 = 256 := rfl
    omega
theorem cnt_2 {p : Nat} (hp : p < 8) : cnt (2 ^ p).testBit 8 = 1 := by
  have : ∀ v : Fin 8, cnt (2 ^ v.val).testBit 8 = 1 := by decide
  exact this ⟨p, hp⟩
/-- what the class finds is the least way without return -/
theorem D_min {wr : Nat → Nat} {src g : Nat} (hs : s ≤ 9) (he : ∀ r, r < s → ea r < 8 ∧ eb r < 8) (hne : ∀ r, r < s → ¬ ea r = eb r) (hw : ∀ r, r < s → wr r ≤ 99) (hl : ∀ r, ln r = 512 * wr r + 2 ^ r) (hsrc : src < 8) {σ : Option Nat} (h1 : ∀ v, σ = some v → ∃ m w b, Sp s ea eb wr g m (2 ^ src) src w b ∧ v = 512 * w + b) (h2 : ∀ m w b, Sp s ea eb wr g m (2 ^ src) src w b → ∃ v, σ = some v ∧ v ≤ 512 * w + b) : (σ = none ∧ Nat.repeat (rnw s ea eb ln) 7 (D0 src) g = 1000000000) ∨ (∃ v, σ = some v ∧ v < 1000000 ∧ Nat.repeat (rnw s ea eb ln) 7 (D0 src) g = v) := by
  obtain ⟨d1, d2, d3⟩ := D7 (s := s) (ln := ln) hne src 7
  generalize Nat.repeat (rnw s ea eb ln) 7 (D0 src) = D at d1 d2 d3
  have hle : ∀ m w b, Sp s ea eb wr g m (2 ^ src) src w b → D g ≤ 512 * w + b ∧ 512 * w + b < 1000000 := by
    intro m w b h
    have hm := Sp_n he m _ _ _ _ h
    rw [cnt_2 hsrc] at hm
    have hb := Sp_b hs hw m _ _ _ _ h
    exact ⟨d2 m g _ (by omega) (Sp_W hl _ _ _ _ _ h), by omega⟩
  cases hσ : σ with
  | none =>
    refine Or.inl ⟨rfl, ?_⟩
    have := d3 g
    refine Nat.le_antisymm this ?_
    refine Decidable.byContradiction (fun q => ?_)
    obtain ⟨n, w⟩ := d1 g (by omega)
    obtain ⟨m, w, b, h, -⟩ := W_S0 (wr := wr) hl w
    obtain ⟨v, hv, -⟩ := h2 m w b h
    rw [hσ] at hv
    exact absurd hv (by simp)
  | some v =>
    obtain ⟨m, w, b, h, e⟩ := h1 v hσ
    obtain ⟨e1, e2⟩ := hle m w b h
    refine Or.inr ⟨v, rfl, by omega, ?_⟩
    obtain ⟨n, wk⟩ := d1 g (by omega)
    obtain ⟨m2, w2, b2, h3, h4⟩ := W_S0 (wr := wr) hl wk
    obtain ⟨v2, hv2, h5⟩ := h2 m2 w2 b2 h3
    rw [hσ] at hv2
    cases hv2
    omega
end Bf
