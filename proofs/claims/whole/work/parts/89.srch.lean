/-! least: the search, told plainly -/
section Srch
variable {u goal : Nat} {fx : Nat → Nat → Nat}
/-- the rows of d days, in order; K: the days left -/
def srch (u goal : Nat) (fx : Nat → Nat → Nat) : Nat → (Nat → Nat) → Nat → Nat → Option Nat
  | 0, _, w, row => if w ≤ goal then some row else none
  | d + 1, K, w, row => fold (fun a acc => match acc with
    | some x => some x
    | none => if 0 < K a then srch u goal fx d (uN K a (K a - 1)) (fx a w) (10 * row + a) else none) none u
def sstep (u goal : Nat) (fx : Nat → Nat → Nat) (d : Nat) (K : Nat → Nat) (w row : Nat) : Nat → Option Nat → Option Nat := fun a acc => match acc with
    | some x => some x
    | none => if 0 < K a then srch u goal fx d (uN K a (K a - 1)) (fx a w) (10 * row + a) else none
theorem srch_s {d : Nat} {K : Nat → Nat} {w row : Nat} : srch u goal fx (d + 1) K w row = fold (sstep u goal fx d K w row) none u := rfl
theorem sst_some {d : Nat} {K : Nat → Nat} {w row x : Nat} : ∀ {n m : Nat}, n ≤ m → fold (sstep u goal fx d K w row) none n = some x → fold (sstep u goal fx d K w row) none m = some x := by
  intro n m
  induction m with
  | zero => intro h1 h2; rw [show n = 0 by omega] at h2; exact h2
  | succ m ih =>
    intro h1 h2
    by_cases c : n = m + 1
    · rw [← c]; exact h2
    · simp only [fold, ih (by omega) h2, sstep]
/-- the lowest that d days could come to -/
def lwr (u : Nat) (K0 : Nat → Nat) (fx : Nat → Nat → Nat) : Nat → Nat → Nat
  | 0, w => w
  | d + 1, w => fold (fun a x => if 0 < K0 a then min x (lwr u K0 fx d (fx a w)) else x) w u
theorem fold_min {f : Nat → Nat} {P : Nat → Prop} [DecidablePred P] {w : Nat} : ∀ n a, a < n → P a → fold (fun a x => if P a then min x (f a) else x) w n ≤ f a := by
  intro n
  induction n with
  | zero => intro a ha; omega
  | succ n ih =>
    intro a ha hP
    simp only [fold]
    by_cases c : a = n
    · subst c
      rw [if_pos hP]; omega
    · have := ih a (by omega) hP
      split <;> omega
theorem low_s {K0 : Nat → Nat} : ∀ d K w row x, (∀ a, 0 < K a → 0 < K0 a) → srch u goal fx d K w row = some x → lwr u K0 fx d w ≤ goal := by
  intro d
  induction d with
  | zero =>
    intro K w row x _ h
    rw [srch] at h
    by_cases c : w ≤ goal
    · exact c
    · rw [if_neg c] at h; exact absurd h (by simp)
  | succ d ih =>
    intro K w row x hK h
    rw [srch_s] at h
    -- some house found it
    have : ∀ n, n ≤ u → fold (sstep u goal fx d K w row) none n = some x → ∃ a y, a < n ∧ 0 < K a ∧ srch u goal fx d (uN K a (K a - 1)) (fx a w) (10 * row + a) = some y := by
      intro n
      induction n with
      | zero => intro _ h; exact absurd h (by simp [fold])
      | succ n ihn =>
        intro hn h
        simp only [fold] at h
        cases e : fold (sstep u goal fx d K w row) none n with
        | some y =>
          rw [e] at h
          simp only [sstep, Option.some.injEq] at h
          subst h
          obtain ⟨a, y2, h1, h2, h3⟩ := ihn (by omega) e
          exact ⟨a, y2, by omega, h2, h3⟩
        | none =>
          rw [e] at h
          simp only [sstep] at h
          by_cases c : 0 < K n
          · rw [if_pos c] at h
            exact ⟨n, x, by omega, c, h⟩
          · rw [if_neg c] at h; exact absurd h (by simp)
    obtain ⟨a, y, h1, h2, h3⟩ := this u (Nat.le_refl u) h
    have h4 := ih (uN K a (K a - 1)) (fx a w) (10 * row + a) y (fun b hb => by
      by_cases c : b = a
      · rw [c]; exact hK a h2
      · rw [uN_n c] at hb; exact hK b hb) h3
    rw [lwr]
    exact Nat.le_trans (fold_min (f := fun a => lwr u K0 fx d (fx a w)) (P := fun a => 0 < K0 a) u a h1 (hK a h2)) h4
theorem srch_b (hu : u ≤ 6) : ∀ d K w row x, srch u goal fx d K w row = some x → x < (row + 1) * 10 ^ d := by
  intro d
  induction d with
  | zero =>
    intro K w row x h
    rw [srch] at h
    by_cases c : w ≤ goal
    · rw [if_pos c] at h; cases h; omega
    · rw [if_neg c] at h; exact absurd h (by simp)
  | succ d ih =>
    intro K w row x h
    rw [srch_s] at h
    have : ∀ n, n ≤ u → fold (sstep u goal fx d K w row) none n = some x → x < (row + 1) * 10 ^ (d + 1) := by
      intro n
      induction n with
      | zero => intro _ h; exact absurd h (by simp [fold])
      | succ n ihn =>
        intro hn h
        simp only [fold] at h
        cases e : fold (sstep u goal fx d K w row) none n with
        | some y =>
          rw [e] at h
          simp only [sstep, Option.some.injEq] at h
          subst h
          exact ihn (by omega) e
        | none =>
          rw [e] at h
          simp only [sstep] at h
          by_cases c : 0 < K n
          · rw [if_pos c] at h
            have h1 := ih _ _ _ _ h
            have h2 : (10 * row + n + 1) * 10 ^ d ≤ (10 * (row + 1)) * 10 ^ d := Nat.mul_le_mul_right _ (by omega)
            have h3 : (10 * (row + 1)) * 10 ^ d = (row + 1) * 10 ^ (d + 1) := by rw [Nat.pow_succ, Nat.mul_comm 10 (row + 1), Nat.mul_assoc, Nat.mul_comm 10 (10 ^ d)]
            omega
          · rw [if_neg c] at h; exact absurd h (by simp)
    exact this u (Nat.le_refl u) h
end Srch
/-! the class's search -/
section Lrow
variable {N u goal : Nat} {fx : Nat → Nat → Nat} {K0 ri : Nat → Nat} {W : Nat}
/-- the class's tables hold -/
def Tab (h : mu_H) (u W : Nat) (K0 ri : Nat → Nat) (fx : Nat → Nat → Nat) : Prop := h.1 3 3 = nI u ∧ u ≤ 6 ∧ W ≤ 99 ∧ (∀ a w, fx a w ≤ w) ∧ (∀ a w, a < u → 0 < K0 a → w ≤ W → ri w < 6 → h.1 44 (100 * a + w) = nI (fx a w) ∧ ri (fx a w) ≤ ri w + 1) ∧ (∀ d w, d ≤ 6 → w ≤ W → ri w + d ≤ 6 → h.1 46 (100 * d + w) = nI (lwr u K0 fx d w)) ∧ ∀ d w, lwr u K0 fx d w ≤ w
theorem lr_c (hN : 300 ≤ N) : ∀ d f h (K : Nat → Nat) w row, Tab h u W K0 ri fx → (∀ a, a < u → h.1 43 a = nI (K a)) → (∀ a, K a ≤ 9) → (∀ a, 0 < K a → 0 < K0 a) → (∀ a, u ≤ a → K a = 0) → d < f → d ≤ 6 → w ≤ W → ri w + d ≤ 6 → goal ≤ 99 → (row + 1) * 10 ^ d ≤ 1000000 → lp (f_Out_leastRow_R N) f (h, nI d, nI w, nI goal, nI row) = some (enc (srch u goal fx d K w row), h) := by
  intro d
  induction d with
  | zero =>
    intro f h K w row hT hK hK9 hK0 hKu hf hd hw hri hg hrow
    obtain ⟨e4, hu, hW, hfx, t1, t2, t3⟩ := hT
    obtain ⟨f, rfl⟩ : ∃ g, f = g + 1 := ⟨f - 1, by omega⟩
    have e := t2 0 w (by omega) hw (by omega)
    rw [lwr] at e
    have e : h.1 46 (100 * 0 + w) = nI w := e
    rw [show 100 * 0 + w = w by omega] at e
    have hix : nI 0 * 100 + nI w = nI w := by
      rw [show nI 0 * 100 = nI 0 from by decide, nI_add, Nat.zero_add]
    show f_Out_leastRow_B N _ h (nI 0) (nI w) (nI goal) (nI row) = _
    rw [f_Out_leastRow_B, hix, ix_nI (by omega) (by decide), gd_t, nI_clamp (by omega), e, srch]
    by_cases c : w ≤ goal
    · rw [if_pos ((nI_leI (by omega) (by omega)).mpr c), if_pos (show nI 0 = (0 : Int32) from rfl), if_pos c]; rfl
    · rw [if_neg (fun q => c ((nI_leI (by omega) (by omega)).mp q)), if_neg c]; rfl
  | succ d ih =>
    intro f h K w row hT hK hK9 hK0 hKu hf hd hw hri hg hrow
    have hT0 := hT
    obtain ⟨e4, hu, hW, hfx, t1, t2, t3⟩ := hT
    obtain ⟨f, rfl⟩ : ∃ g, f = g + 1 := ⟨f - 1, by omega⟩
    have e := t2 (d + 1) w (by omega) hw (by omega)
    have lw := t3 (d + 1) w
    have hix : nI (d + 1) * 100 + nI w = nI (100 * (d + 1) + w) := by
      rw [show (100 : Int32) = nI 100 from rfl, pk_mul, nI_add, Nat.mul_comm]
    show f_Out_leastRow_B N (fun h a1 a2 a3 a4 => lp (f_Out_leastRow_R N) f (h, a1, a2, a3, a4)) h (nI (d + 1)) (nI w) (nI goal) (nI row) = _
    rw [f_Out_leastRow_B, hix, ix_nI (by omega) (by decide), gd_t, nI_clamp (by omega), e]
    by_cases c : lwr u K0 fx (d + 1) w ≤ goal
    · rw [if_pos ((nI_leI (by omega) (by omega)).mpr c), if_neg (nI_ne0 (by omega) (by omega)), srch_s]
      have hbnd : ∀ a, a < u → ((10 * row + a) + 1) * 10 ^ d ≤ 1000000 := by
        intro a ha
        have h2 : (10 * row + a + 1) * 10 ^ d ≤ (10 * (row + 1)) * 10 ^ d := Nat.mul_le_mul_right _ (by omega)
        have h3 : (10 * (row + 1)) * 10 ^ d = (row + 1) * 10 ^ (d + 1) := by rw [Nat.pow_succ, Nat.mul_comm 10 (row + 1), Nat.mul_assoc, Nat.mul_comm 10 (10 ^ d)]
        omega
      -- the houses, from i on
      have key : ∀ e i g, i + e = u → e < g → fold (sstep u goal fx d K w row) none i = none → lp (f_Out_leastRow_L27 N (fun h a1 a2 a3 a4 => lp (f_Out_leastRow_R N) f (h, a1, a2, a3, a4)) (nI (d + 1)) (nI w) (nI goal) (nI row)) g (nI i, h) = some (enc (fold (sstep u goal fx d K w row) none u), h) := by
        intro e
        induction e with
        | zero =>
          intro i g hi hg2 hn
          obtain ⟨g, rfl⟩ : ∃ q, g = q + 1 := ⟨g - 1, by omega⟩
          have : i = u := by omega
          subst this
          rw [hn]
          show f_Out_leastRow_L27 N _ _ _ _ _ _ (nI i, h) = _
          simp (disch := omega) only [↓bn_eq, ↓jn_eq, ↓reduceIte, gd_t, bd_some, bn_eq, jn_eq, bi_some, if_pos, if_neg, i10, nI_lt_i, nI_le_i, nI_eq_i, ll_le, ll_lt, ll_eq, lr_le, lr_lt, lr_eq, ix_n, nI_clamp, nI_add, add_l, add_r, nI_mul, mul_l, mul_r, sub_n, sub_r, div_r, ite_some, if_true, if_false, and_self, and_true, true_and, false_and, and_false, Nat.reduceAdd, Nat.reduceMul, not_false_iff, not_true, f_Out_leastRow_L27, f_Par_houses, e4]
          rfl
        | succ e ihe =>
          intro i g hi hg2 hn
          obtain ⟨g, rfl⟩ : ∃ q, g = q + 1 := ⟨g - 1, by omega⟩
          have hiu : i < u := by omega
          have k9 := hK9 i
          have hs : fold (sstep u goal fx d K w row) none (i + 1) = if 0 < K i then srch u goal fx d (uN K i (K i - 1)) (fx i w) (10 * row + i) else none := by
            simp only [fold, hn, sstep]
          show f_Out_leastRow_L27 N _ _ _ _ _ (lp _ g) (nI i, h) = _
          by_cases c0 : K i = 0
          · rw [← ihe (i + 1) g (by omega) (by omega) (by rw [hs, if_neg (by omega)])]
            have hki := hK i hiu
            rw [c0] at hki
            have hz : nI 0 ≤ (0 : Int32) := by decide
            simp (disch := omega) only [↓bn_eq, ↓jn_eq, ↓reduceIte, gd_t, bd_some, bn_eq, jn_eq, bi_some, if_pos, if_neg, i10, nI_lt_i, nI_le_i, nI_eq_i, ll_le, ll_lt, ll_eq, lr_le, lr_lt, lr_eq, ix_n, nI_clamp, nI_add, add_l, add_r, nI_mul, mul_l, mul_r, sub_n, sub_r, div_r, ite_some, if_true, if_false, and_self, and_true, true_and, false_and, and_false, Nat.reduceAdd, Nat.reduceMul, not_false_iff, not_true, f_Out_leastRow_L27, f_Par_houses, e4, hki, hz]
          · have hki := hK i hiu
            have hpos : 0 < K i := by omega
            obtain ⟨b1, b2⟩ := t1 i w hiu (hK0 i hpos) hw (by omega)
            have hfxw := hfx i w
            obtain ⟨H, hH⟩ : ∃ H, H = ui h 43 i (nI (K i - 1)) := ⟨_, rfl⟩
            have hH43 : ∀ a, a < u → H.1 43 a = nI (uN K i (K i - 1) a) := by
              intro a ha
              rw [hH, ui_s]
              by_cases c1 : a = i
              · subst c1; rw [upd_s, uN_s]
              · rw [upd_n c1, uN_n c1]; exact hK a ha
            have hTH : Tab H u W K0 ri fx := by
              rw [hH]
              refine ⟨by rw [ui_n (by decide)]; exact e4, hu, hW, hfx, fun a w h1 h2 h3 h4 => ?_, fun d w h1 h2 h3 => ?_, t3⟩
              · rw [ui_n (by decide)]; exact t1 a w h1 h2 h3 h4
              · rw [ui_n (by decide)]; exact t2 d w h1 h2 h3
            have hr := ih f H (uN K i (K i - 1)) (fx i w) (10 * row + i) hTH hH43 (fun a => by
              by_cases c1 : a = i
              · rw [c1, uN_s]; omega
              · rw [uN_n c1]; exact hK9 a) (fun a ha => by
              by_cases c1 : a = i
              · rw [c1]; exact hK0 i hpos
              · rw [uN_n c1] at ha; exact hK0 a ha) (fun a ha => by
              rw [uN_n (by omega)]; exact hKu a ha) (by omega) (by omega) (by omega) (by omega) hg (hbnd i hiu)
            have hback : ui H 43 i (nI (K i - 1) + 1) = h := by
              rw [hH, ui, ui_s, ui, ur_ur, nI_1, show K i - 1 + 1 = K i by omega]
              have : upd (upd (h.1 43) i (nI (K i - 1))) i (nI (K i)) = h.1 43 := by
                funext j
                by_cases c1 : j = i
                · subst c1; rw [upd_s, hki]
                · rw [upd_n c1, upd_n c1]
              rw [this, ur_self]
            have hH43i : H.1 43 i = nI (K i - 1) := by rw [hH, ui_s, upd_s]
            have hH44 : H.1 44 (100 * i + w) = nI (fx i w) := by rw [hH, ui_n (by decide)]; exact b1
            have s1 : nI (K i) - 1 = nI (K i - 1) := sub_r (m := 1) (show 1 ≤ K i by omega) (by omega)
            have s2 : nI (d + 1) - 1 = nI d := by
              have := sub_r (a := d + 1) (m := 1) (show 1 ≤ d + 1 by omega) (by omega)
              rw [this]; rfl
            have s3 : nI row * 10 + nI i = nI (10 * row + i) := by
              rw [show (10 : Int32) = nI 10 from rfl, pk_mul, nI_add, Nat.mul_comm]
            have s4 : nI i * 100 + nI w = nI (100 * i + w) := by
              rw [show (100 : Int32) = nI 100 from rfl, pk_mul, nI_add, Nat.mul_comm]
            have nle : ¬ nI (K i) ≤ 0 := fun q => c0 ((nI_le0 (by omega)).mp q)
            have body : ∀ rec, f_Out_leastRow_L27 N (fun h a1 a2 a3 a4 => lp (f_Out_leastRow_R N) f (h, a1, a2, a3, a4)) (nI (d + 1)) (nI w) (nI goal) (nI row) rec (nI i, h) = if enc (srch u goal fx d (uN K i (K i - 1)) (fx i w) (10 * row + i)) = -1 then rec (nI (i + 1), h) else some (enc (srch u goal fx d (uN K i (K i - 1)) (fx i w) (10 * row + i)), h) := by
              intro rec
              rw [f_Out_leastRow_L27, f_Par_houses, e4, bd_some, if_neg (fun q => by have := (nI_leI (by omega) (by omega)).mp q; omega), ix_nI (show i < 6 by omega) (by decide), gd_t, jn_eq, nI_clamp (by omega), hki, if_neg nle, gd_t, gd_t, bn_eq, s1, ← hH, s4, ix_nI (show 100 * i + w < 600 by omega) (by decide), gd_t, nI_clamp (by omega), hH44, s2, s3, hr, bi_some, gd_t, gd_t, bn_eq, hH43i, hback, nI_1]
            rw [body]
            cases hsr : srch u goal fx d (uN K i (K i - 1)) (fx i w) (10 * row + i) with
            | none =>
              rw [show enc none = (-1 : Int32) from rfl, if_pos rfl]
              exact ihe (i + 1) g (by omega) (by omega) (by rw [hs, if_pos hpos, hsr])
            | some x =>
              have hx := srch_b hu _ _ _ _ _ hsr
              have hxb := hbnd i hiu
              rw [show enc (some x) = nI x from rfl, if_neg (fun q => by rw [neg1 (by omega)] at q; exact q), sst_some (show i + 1 ≤ u by omega) (by rw [hs, if_pos hpos, hsr])]
              rfl
      exact key u 0 N (by omega) (by omega) rfl
    · rw [if_neg (fun q => c ((nI_leI (by omega) (by omega)).mp q))]
      cases hsr : srch u goal fx (d + 1) K w row with
      | none => rfl
      | some x => exact absurd (low_s (K0 := K0) _ _ _ _ _ hK0 hsr) c
end Lrow
