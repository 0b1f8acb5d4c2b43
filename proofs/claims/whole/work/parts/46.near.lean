/-! loops that count up; neighbours, ends, worst -/
section Fold
variable {α ρ : Type}
def fold (g : Nat → α → α) (a : α) : Nat → α
  | 0 => a
  | i + 1 => g i (fold g a i)
theorem lp_fold {body : ((α × Int32) → Option ρ) → (α × Int32) → Option ρ} {k : α → Option ρ} (P : Nat → α → Prop) (g : Nat → α → α) (n : Nat) (hs : ∀ i, i < n → ∀ a, P i a → (∀ rec : (α × Int32) → Option ρ, body rec (a, nI i) = rec (g i a, nI (i + 1))) ∧ P (i + 1) (g i a)) (he : ∀ a, P n a → ∀ rec : (α × Int32) → Option ρ, body rec (a, nI n) = k a) (a0 : α) (h0 : P 0 a0) {f : Nat} (hf : n < f) : lp body f (a0, 0) = k (fold g a0 n) := by
  have hP : ∀ i, i ≤ n → P i (fold g a0 i) := by
    intro i
    induction i with
    | zero => intro _; exact h0
    | succ i ih => intro hi; exact (hs i (by omega) _ (ih (by omega))).2
  have := lp_end (body := body) (fun i => (fold g a0 i, nI i)) n (v := k (fold g a0 n)) (fun i hi rec => (hs i hi _ (hP i (by omega))).1 rec) (fun rec => he _ (hP n (by omega)) rec) hf
  exact this
theorem lp_fold' {body : ((α × Int32) → Option ρ) → (α × Int32) → Option ρ} {k : α → Option ρ} (g : Nat → α → α) (n : Nat) (hs : ∀ i, i < n → ∀ a, ∀ rec : (α × Int32) → Option ρ, body rec (a, nI i) = rec (g i a, nI (i + 1))) (he : ∀ a, ∀ rec : (α × Int32) → Option ρ, body rec (a, nI n) = k a) (a0 : α) {f : Nat} (hf : n < f) : lp body f (a0, 0) = k (fold g a0 n) :=
  lp_fold (fun _ _ => True) g n (fun i hi a _ => ⟨hs i hi a, trivial⟩) (fun a _ => he a) a0 trivial hf
theorem fold_eq {g g' : Nat → α → α} {a : α} {n : Nat} (h : ∀ i, i < n → ∀ x, g i x = g' i x) : fold g a n = fold g' a n := by
  induction n with
  | zero => rfl
  | succ n ih => simp only [fold]; rw [ih (fun i hi => h i (by omega)), h n (by omega)]
end Fold
theorem i10 {c : Prop} {d : Decidable c} : ((@ite Int32 c d 1 0) = 0) = ¬ c := by
  by_cases h : c <;> simp [h]
def pA (h : mu_H) (r : Nat) : Int32 := h.1 4 (5 * (1 + r) + 0)
def pB (h : mu_H) (r : Nat) : Int32 := h.1 4 (5 * (1 + r) + 1)
def pU (h : mu_H) (r : Nat) : Int32 := h.1 4 (5 * (1 + r) + 4)
def tch (h : mu_H) (r : Nat) (p : Int32) : Bool := decide (pA h r = p) || decide (pB h r = p)
theorem ofS0 {N : Nat} {h : mu_H} {r : Nat} (hr : r < 9) : f_Par_ofStretch N h 3 (nI r) 0 = some (pA h r) := ofS (k := 0) (by omega) (by decide)
theorem ofS1 {N : Nat} {h : mu_H} {r : Nat} (hr : r < 9) : f_Par_ofStretch N h 3 (nI r) 1 = some (pB h r) := ofS (k := 1) (by omega) (by decide)
theorem ofS4 {N : Nat} {h : mu_H} {r : Nat} (hr : r < 9) : f_Par_ofStretch N h 3 (nI r) 4 = some (pU h r) := ofS (k := 4) (by omega) (by decide)
theorem mof0 {N : Nat} {h : mu_H} {r s u : Nat} (hp : Ipar h s u) (hr : r < s) : f_Mod_of N h (nI r) 0 = some (pA h r) := by
  obtain ⟨h9, -, -, -, -, -, -, -, hs, -⟩ := hp
  rw [pA, ← (hs r hr).1 0 (by decide)]
  exact mofS (k := 0) (by omega) (by decide)
theorem mof1 {N : Nat} {h : mu_H} {r s u : Nat} (hp : Ipar h s u) (hr : r < s) : f_Mod_of N h (nI r) 1 = some (pB h r) := by
  obtain ⟨h9, -, -, -, -, -, -, -, hs, -⟩ := hp
  rw [pB, ← (hs r hr).1 1 (by decide)]
  exact mofS (k := 1) (by omega) (by decide)
theorem mof4 {N : Nat} {h : mu_H} {r s u : Nat} (hp : Ipar h s u) (hr : r < s) : f_Mod_of N h (nI r) 4 = some (pU h r) := by
  obtain ⟨h9, -, -, -, -, -, -, -, hs, -⟩ := hp
  rw [pU, ← (hs r hr).1 4 (by decide)]
  exact mofS (k := 4) (by omega) (by decide)
theorem tch_c {N : Nat} {h : mu_H} {r : Nat} (hr : r < 9) (p : Int32) : f_Par_touches N h 3 (nI r) p = some (if tch h r p = true then 1 else 0) := by
  simp only [f_Par_touches, ofS0 hr, ofS1 hr, bd_some, tch, Bool.or_eq_true, decide_eq_true_eq]
  by_cases c : pA h r = p
  · simp [c]
  · by_cases d : pB h r = p <;> simp [c, d]
theorem tch_m {N : Nat} {h : mu_H} {r s u : Nat} (hp : Ipar h s u) (hr : r < s) (p : Int32) : f_Mod_isAt N h (nI r) p = some (if tch h r p = true then 1 else 0) := by
  simp only [f_Mod_isAt, mof0 hp hr, mof1 hp hr, bd_some, tch, Bool.or_eq_true, decide_eq_true_eq]
  by_cases c : pA h r = p
  · simp [c]
  · by_cases d : pB h r = p <;> simp [c, d]
theorem or0 (x : Int32) : x ||| 0 = x := by simp
/-- neighbours -/
def ngb (h : mu_H) (r i : Nat) (x : Int32) : Int32 := if i = r then x else if tch h i (pA h r) = true ∨ tch h i (pB h r) = true then x ||| ((1 : Int32) <<< (nI i &&& 31)) else x
theorem pp_neighbours {h : mu_H} {s u : Nat} (hp : Ipar h s u) {N : Nat} (hN : 100 ≤ N) (a1 : Int32) : ∃ r, f_Owe_neighbours N h a1 = some r ∧ f_Mod_neighbours N h a1 = some r := by
  have hp0 := hp
  obtain ⟨h9, -, -, e3, -, e5, -⟩ := hp
  have k1 := c_isS (N := N) (o := 3) e3 a1
  have k2 := m_isS (N := N) e5 h9 a1
  rcases in_or a1 s (by omega) with ⟨r, hr, rfl, q1, q2⟩ | hno
  · have hr9 : r < 9 := by omega
    refine ⟨fold (ngb h r) 0 s, ?_, ?_⟩
    · simp only [f_Owe_neighbours, k1, bd_some, i10, q1, q2, and_self, not_true, if_false, f_Roa_touching, ofS0 hr9, ofS1 hr9]
      rw [lp_fold' (k := some) (ngb h r) s ?_ ?_ 0 (by omega)]
      · rfl
      · intro i hi a rec
        simp only [f_Roa_touching_L26, f_Par_stretches, e3, bd_some, nI_le_i (show s < 2 ^ 31 by omega) (show i < 2 ^ 31 by omega), if_neg (show ¬ s ≤ i by omega), jn_eq, bn_eq, nI_eq_i (show i < 2 ^ 31 by omega) (show r < 2 ^ 31 by omega), tch_c (show i < 9 by omega), i10, nI_1, ngb]
        by_cases c : i = r
        · simp only [if_pos c]
        · simp only [if_neg c]
          by_cases d1 : tch h i (pA h r) = true <;> by_cases d2 : tch h i (pB h r) = true <;> simp [d1, d2]
      · intro a rec
        simp only [f_Roa_touching_L26, f_Par_stretches, e3, bd_some, nI_le_i (show s < 2 ^ 31 by omega) (show s < 2 ^ 31 by omega), Nat.le_refl, if_true]
    · simp only [f_Mod_neighbours, k2, bd_some, i10, q1, q2, and_self, not_true, if_false]
      refine lp_fold' (k := some) (ngb h r) s ?_ ?_ 0 (by omega)
      · intro i hi a rec
        simp only [f_Mod_neighbours_L14, e5, bd_some, nI_le_i (show s < 2 ^ 31 by omega) (show i < 2 ^ 31 by omega), if_neg (show ¬ s ≤ i by omega), jn_eq, bn_eq, nI_eq_i (show i < 2 ^ 31 by omega) (show r < 2 ^ 31 by omega), tch_m hp0 hi, mof0 hp0 hr, mof1 hp0 hr, i10, nI_1, ngb, or0]
        by_cases c : i = r
        · simp only [if_pos c]
        · simp only [if_neg c]
          by_cases d1 : tch h i (pA h r) = true <;> by_cases d2 : tch h i (pB h r) = true <;> simp [d1, d2]
      · intro a rec
        simp only [f_Mod_neighbours_L14, e5, nI_le_i (show s < 2 ^ 31 by omega) (show s < 2 ^ 31 by omega), Nat.le_refl, if_true]
  · exact ⟨-1, by simp [f_Owe_neighbours, k1, hno], by simp [f_Mod_neighbours, k2, hno]⟩
/-- ends -/
def eds (h : mu_H) (s p : Nat) (x : Int32) : Int32 := if fold (fun i (y : Int32) => if tch h i (nI p) = true then y + 1 else y) 0 s = 1 then x ||| ((1 : Int32) <<< (nI p &&& 31)) else x
theorem pp_ends {h : mu_H} {s u : Nat} (hp : Ipar h s u) {N : Nat} (hN : 100 ≤ N) : ∃ r, f_Owe_ends N h = some r ∧ f_Mod_ends N h = some r := by
  have hn := c_none (N := N) hp
  have hp0 := hp
  obtain ⟨h9, -, -, e3, -, e5, -⟩ := hp
  have hz := nI_z (show s < 2 ^ 31 by omega)
  by_cases hs : s = 0
  · exact ⟨-1, by simp [f_Owe_ends, hn, hs], by rw [f_Mod_ends, e5, if_pos (hz.mpr hs)]⟩
  have hz2 : ¬ nI s = 0 := fun q => hs (hz.mp q)
  refine ⟨fold (eds h s) 0 8, ?_, ?_⟩
  · simp only [f_Owe_ends, hn, bd_some, i10, hs, not_false_iff, if_true, f_Roa_deadEnds]
    rw [lp_fold' (k := some) (eds h s) 8 ?_ ?_ 0 (by omega)]
    · rfl
    · intro p hpl a rec
      simp only [f_Roa_deadEnds_L4, show (8 : Int32) = nI 8 from rfl, nI_le_i (show 8 < 2 ^ 31 by omega) (show p < 2 ^ 31 by omega), if_neg (show ¬ 8 ≤ p by omega), jn_eq, bn_eq]
      rw [lp_fold' (fun i (y : Int32) => if tch h i (nI p) = true then y + 1 else y) s ?_ ?_ 0 (by omega)]
      rotate_left 2
      · intro i hi a rec
        simp only [f_Roa_deadEnds_L15, f_Par_stretches, e3, bd_some, nI_le_i (show s < 2 ^ 31 by omega) (show i < 2 ^ 31 by omega), if_neg (show ¬ s ≤ i by omega), jn_eq, bn_eq, tch_c (show i < 9 by omega), i10, nI_1]
        by_cases d1 : tch h i (nI p) = true <;> simp [d1]
      · intro a rec
        simp only [f_Roa_deadEnds_L15, f_Par_stretches, e3, bd_some, nI_le_i (show s < 2 ^ 31 by omega) (show s < 2 ^ 31 by omega), Nat.le_refl, if_true]
        rfl
      · simp only [eds, nI_1]
        by_cases c : fold (fun i (y : Int32) => if tch h i (nI p) = true then y + 1 else y) 0 s = 1
        · rw [if_pos c, if_pos c]
        · rw [if_neg c, if_neg c]
    · intro a rec
      simp [f_Roa_deadEnds_L4, show (8 : Int32) = nI 8 from rfl]
  · simp only [f_Mod_ends, e5, if_neg hz2]
    refine lp_fold' (k := some) (eds h s) 8 ?_ ?_ 0 (by omega)
    · intro p hpl a rec
      simp only [f_Mod_ends_L13, show (8 : Int32) = nI 8 from rfl, nI_le_i (show 8 < 2 ^ 31 by omega) (show p < 2 ^ 31 by omega), if_neg (show ¬ 8 ≤ p by omega), jn_eq, bn_eq]
      rw [lp_fold' (fun i (y : Int32) => if tch h i (nI p) = true then y + 1 else y) s ?_ ?_ 0 (by omega)]
      rotate_left 2
      · intro i hi a rec
        simp only [f_Mod_ends_L24, e5, bd_some, nI_le_i (show s < 2 ^ 31 by omega) (show i < 2 ^ 31 by omega), if_neg (show ¬ s ≤ i by omega), jn_eq, bn_eq, tch_m hp0 hi, i10, nI_1]
        by_cases d1 : tch h i (nI p) = true <;> simp [d1]
      · intro a rec
        simp only [f_Mod_ends_L24, e5, nI_le_i (show s < 2 ^ 31 by omega) (show s < 2 ^ 31 by omega), Nat.le_refl, if_true]
        rfl
      · simp only [eds, nI_1, or0]
        by_cases c : fold (fun i (y : Int32) => if tch h i (nI p) = true then y + 1 else y) 0 s = 1
        · rw [if_pos c, if_pos c]
        · rw [if_neg c, if_neg c]
    · intro a rec
      simp [f_Mod_ends_L13, show (8 : Int32) = nI 8 from rfl]
/-- worst -/
def wst (h : mu_H) (x i : Nat) : Nat := if h.1 15 i ≤ h.1 15 x then x else i
theorem pp_worst {h : mu_H} {s u : Nat} (hp : Ipar h s u) (hw : ∀ k, k ≤ 30 → h.1 15 k = h.1 68 k) {N : Nat} (hN : 100 ≤ N) : ∃ r, f_Owe_worst N h = some r ∧ f_Mod_worst N h = some r := by
  have hn := c_none (N := N) hp
  have hp0 := hp
  obtain ⟨h9, -, -, e3, -, e5, -⟩ := hp
  have hz := nI_z (show s < 2 ^ 31 by omega)
  have zz : ∀ i : Nat, (0 : Int32) + nI i = nI i := fun i => add0 _
  by_cases hs : s = 0
  · subst hs
    refine ⟨-1, by simp [f_Owe_worst, hn], ?_⟩
    obtain ⟨f, rfl⟩ : ∃ f, N = f + 1 := ⟨N - 1, by omega⟩
    show f_Mod_worst_L4 h (lp (f_Mod_worst_L4 h) f) (-1, 0) = _
    simp only [f_Mod_worst_L4, e5]
    rfl
  obtain ⟨g, hg⟩ : ∃ g : Nat → Nat, g = fun i => fold (fun i x => wst h x (i + 1)) 0 i := ⟨_, rfl⟩
  have g0 : g 0 = 0 := by rw [hg]; rfl
  have g1 : ∀ i, g (i + 1) = wst h (g i) (i + 1) := by intro i; rw [hg]; rfl
  have gl : ∀ i, g i ≤ i := by
    intro i
    induction i with
    | zero => rw [g0]; exact Nat.le_refl 0
    | succ i ih =>
      rw [g1, wst]
      split <;> omega
  refine ⟨nI (g (s - 1)), ?_, ?_⟩
  · simp only [f_Owe_worst, hn, bd_some, i10, hs, not_false_iff, if_true, f_Roa_mostWorn]
    rw [show lp (f_Roa_mostWorn_L4 N h) N ((0 : Int32), (1 : Int32)) = some (nI (g (s - 1))) from ?_]
    · rfl
    refine lp_end (fun i => (nI (g i), nI (i + 1))) (s - 1) ?_ ?_ (show s - 1 < N by omega) |> fun q => by rw [show ((0 : Int32), (1 : Int32)) = (nI (g 0), nI (0 + 1)) from by rw [g0]; rfl]; exact q
    · intro i hi rec
      have := gl i
      simp only [f_Roa_mostWorn_L4, f_Par_stretches, e3, bd_some, nI_le_i (show s < 2 ^ 31 by omega) (show i + 1 < 2 ^ 31 by omega), if_neg (show ¬ s ≤ i + 1 by omega), jn_eq, wearS (o := 14) (show i + 1 < 34 by omega), wearS (o := 14) (show g i < 34 by omega), nI_1, g1, wst]
      by_cases c : h.1 15 (i + 1) ≤ h.1 15 (g i)
      · rw [if_pos c, if_pos c]
      · rw [if_neg c, if_neg c]
    · intro rec
      simp only [f_Roa_mostWorn_L4, f_Par_stretches, e3, bd_some, nI_le_i (show s < 2 ^ 31 by omega) (show s - 1 + 1 < 2 ^ 31 by omega), if_pos (show s ≤ s - 1 + 1 by omega)]
  · obtain ⟨f, rfl⟩ : ∃ f, N = f + 1 := ⟨N - 1, by omega⟩
    rw [f_Mod_worst, show lp (f_Mod_worst_L4 h) (f + 1) ((-1 : Int32), (0 : Int32)) = lp (f_Mod_worst_L4 h) f ((0 : Int32), (1 : Int32)) from by
      show f_Mod_worst_L4 h (lp (f_Mod_worst_L4 h) f) (-1, 0) = _
      simp only [f_Mod_worst_L4, e5, jn_eq]
      rw [if_neg (fun q => hs ((nI_le0 (show s < 2 ^ 31 by omega)).mp q)), if_pos trivial]
      rfl]
    refine lp_end (fun i => (nI (g i), nI (i + 1))) (s - 1) ?_ ?_ (show s - 1 < f by omega) |> fun q => by rw [show ((0 : Int32), (1 : Int32)) = (nI (g 0), nI (0 + 1)) from by rw [g0]; rfl]; exact q
    · intro i hi rec
      have := gl i
      have cne : ¬ nI (g i) = -1 := fun q => by
        have := congrArg Int32.toInt q
        rw [nI_toInt (by omega)] at this
        have e : (-1 : Int32).toInt = -1 := rfl
        omega
      simp only [f_Mod_worst_L4, e5, nI_le_i (show s < 2 ^ 31 by omega) (show i + 1 < 2 ^ 31 by omega), if_neg (show ¬ s ≤ i + 1 by omega), jn_eq, if_neg cne, zz, ix_nI (show i + 1 < 214 by omega) (by decide), ix_nI (show g i < 214 by omega) (by decide), gd_t, nI_clamp (show i + 1 < 2 ^ 31 by omega), nI_clamp (show g i < 2 ^ 31 by omega), ← hw (i + 1) (by omega), ← hw (g i) (by omega), nI_1, g1, wst]
      by_cases c : h.1 15 (i + 1) ≤ h.1 15 (g i)
      · rw [if_pos c, if_pos c]
      · rw [if_neg c, if_neg c]
    · intro rec
      simp only [f_Mod_worst_L4, e5, nI_le_i (show s < 2 ^ 31 by omega) (show s - 1 + 1 < 2 ^ 31 by omega), if_pos (show s ≤ s - 1 + 1 by omega)]
