/-! the parish's readers: letters, bounds, bits -/
section Plet
variable {N : Nat} {h : mu_H}
def fL (t : Nat) : Nat := if t = 0 then 0 else if t = 1 then 3 else if t = 2 then 8 else 11
def nkL (t : Nat) : Nat := if t = 1 then 5 else 3
def chL (t : Nat) : Nat := if t = 0 then 115 else if t = 1 then 114 else 104
def loL (t k : Nat) : Nat := [1, 0, 0, 0, 0, 0, 0, 0, 0, 1, 0].getD (fL t + k) 0
def hiL (t k : Nat) : Nat := [9, 9, 9, 7, 7, 99, 9, 9, 7, 9, 9].getD (fL t + k) 0
def wiL (t k : Nat) : Nat := [6, 2, 3, 0, 1, 20, 2, 3, 0, 3, 5].getD (fL t + k) 0
def itL (t c : Nat) : Nat := if t = 0 then (if c = 100 then 0 else if c = 102 then 1 else if c = 112 then 2 else 9) else if t = 1 then (if c = 97 then 0 else if c = 98 then 1 else if c = 119 then 2 else if c = 101 then 3 else if c = 117 then 4 else 9) else (if c = 99 then 0 else if c = 113 then 1 else if c = 122 then 2 else 9)
def jI (f k : Nat) : Int32 := if k = 9 then -1 else nI (f + k)
theorem tk3 {t k : Nat} {P : Nat → Nat → Prop} (ht : t < 3) (hk : k < nkL t) (h00 : P 0 0) (h01 : P 0 1) (h02 : P 0 2) (h10 : P 1 0) (h11 : P 1 1) (h12 : P 1 2) (h13 : P 1 3) (h14 : P 1 4) (h20 : P 2 0) (h21 : P 2 1) (h22 : P 2 2) : P t k := by
  rcases (show t = 0 ∨ t = 1 ∨ t = 2 by omega) with rfl | rfl | rfl
  · have hk : k < 3 := hk
    rcases (show k = 0 ∨ k = 1 ∨ k = 2 by omega) with rfl | rfl | rfl
    · exact h00
    · exact h01
    · exact h02
  · have hk : k < 5 := hk
    rcases (show k = 0 ∨ k = 1 ∨ k = 2 ∨ k = 3 ∨ k = 4 by omega) with rfl | rfl | rfl | rfl | rfl
    · exact h10
    · exact h11
    · exact h12
    · exact h13
    · exact h14
  · have hk : k < 3 := hk
    rcases (show k = 0 ∨ k = 1 ∨ k = 2 by omega) with rfl | rfl | rfl
    · exact h20
    · exact h21
    · exact h22
theorem usual_m {t k : Nat} (ht : t < 3) (hk : k < nkL t) : f_Mod_usual N h (nI (chL t)) (nI k) = some (nI (wiL t k)) := tk3 (P := fun t k => f_Mod_usual N h (nI (chL t)) (nI k) = some (nI (wiL t k))) ht hk rfl rfl rfl rfl rfl rfl rfl rfl rfl rfl rfl
theorem lowest_m {t k : Nat} (ht : t < 3) (hk : k < nkL t) : f_Mod_lowest N h (nI (chL t)) (nI k) = some (nI (loL t k)) := tk3 (P := fun t k => f_Mod_lowest N h (nI (chL t)) (nI k) = some (nI (loL t k))) ht hk rfl rfl rfl rfl rfl rfl rfl rfl rfl rfl rfl
theorem highest_m {t k : Nat} (ht : t < 3) (hk : k < nkL t) : f_Mod_highest N h (nI (chL t)) (nI k) = some (nI (hiL t k)) := tk3 (P := fun t k => f_Mod_highest N h (nI (chL t)) (nI k) = some (nI (hiL t k))) ht hk rfl rfl rfl rfl rfl rfl rfl rfl rfl rfl rfl
theorem tab_c {t k : Nat} (ht : t < 3) (hk : k < nkL t) : sv_3.getD (fL t + k) 0 = nI (loL t k) ∧ sv_4.getD (fL t + k) 0 = nI (hiL t k) ∧ sv_1.getD (fL t + k) 0 = nI (wiL t k) ∧ loL t k ≤ wiL t k ∧ wiL t k ≤ hiL t k ∧ hiL t k ≤ 99 ∧ fL t + k < 11 := tk3 (P := fun t k => sv_3.getD (fL t + k) 0 = nI (loL t k) ∧ sv_4.getD (fL t + k) 0 = nI (hiL t k) ∧ sv_1.getD (fL t + k) 0 = nI (wiL t k) ∧ loL t k ≤ wiL t k ∧ wiL t k ≤ hiL t k ∧ hiL t k ≤ 99 ∧ fL t + k < 11) ht hk (by decide) (by decide) (by decide) (by decide) (by decide) (by decide) (by decide) (by decide) (by decide) (by decide) (by decide)
theorem sv0_t {t : Nat} (ht : t < 3) : sv_0.getD t 0 = nI (fL t) ∧ sv_0.getD (t + 1) 0 = nI (fL t + nkL t) ∧ fL t + nkL t ≤ 11 := by
  rcases (show t = 0 ∨ t = 1 ∨ t = 2 by omega) with rfl | rfl | rfl <;> decide
theorem bit_dec : ∀ t : Fin 3, ∀ G : Fin 32, ∀ k : Fin 5, (((nI (G.val * 2 ^ fL t.val) >>> (nI (fL t.val + k.val) &&& 31)) &&& 1 = 0) ↔ ¬ (G.val / 2 ^ k.val % 2 = 1)) ∧ (((nI G.val >>> (nI k.val &&& 31)) &&& 1 = 1) ↔ G.val / 2 ^ k.val % 2 = 1) ∧ (nI (G.val * 2 ^ fL t.val) ||| ((1 : Int32) <<< (nI (fL t.val + k.val) &&& 31)) = nI ((G.val ||| 2 ^ k.val) * 2 ^ fL t.val)) ∧ (nI G.val ||| ((1 : Int32) <<< (nI k.val &&& 31)) = nI (G.val ||| 2 ^ k.val)) ∧ (G.val ||| 2 ^ k.val) < 32 := by decide
theorem itL_k {t c : Nat} (ht : t < 3) : itL t c = 9 ∨ (itL t c < nkL t ∧ 0 < c) := by
  rcases (show t = 0 ∨ t = 1 ∨ t = 2 by omega) with rfl | rfl | rfl
  · rw [itL]
    by_cases c0 : c = 100
    · subst c0; exact Or.inr (by decide)
    by_cases c1 : c = 102
    · subst c1; exact Or.inr (by decide)
    by_cases c2 : c = 112
    · subst c2; exact Or.inr (by decide)
    exact Or.inl (by simp [c0, c1, c2])
  · rw [itL]
    by_cases c0 : c = 97
    · subst c0; exact Or.inr (by decide)
    by_cases c1 : c = 98
    · subst c1; exact Or.inr (by decide)
    by_cases c2 : c = 119
    · subst c2; exact Or.inr (by decide)
    by_cases c3 : c = 101
    · subst c3; exact Or.inr (by decide)
    by_cases c4 : c = 117
    · subst c4; exact Or.inr (by decide)
    exact Or.inl (by simp [c0, c1, c2, c3, c4])
  · rw [itL]
    by_cases c0 : c = 99
    · subst c0; exact Or.inr (by decide)
    by_cases c1 : c = 113
    · subst c1; exact Or.inr (by decide)
    by_cases c2 : c = 122
    · subst c2; exact Or.inr (by decide)
    exact Or.inl (by simp [c0, c1, c2])
theorem item_m {t c : Nat} (ht : t < 3) (hc : c < 256) : f_Mod_itemOf N h (nI (chL t)) (mJ c) = some (jI 0 (itL t c)) := by
  have e0 : ∀ k : Nat, 0 < k → k < 1000 → (mJ c = nI k) = (c = k) := fun k h1 h2 => mJ_eq hc h2 h1
  have m97 : (mJ c = 97) = (c = 97) := e0 97 (by decide) (by decide)
  have m98 : (mJ c = 98) = (c = 98) := e0 98 (by decide) (by decide)
  have m99 : (mJ c = 99) = (c = 99) := e0 99 (by decide) (by decide)
  have m100 : (mJ c = 100) = (c = 100) := e0 100 (by decide) (by decide)
  have m101 : (mJ c = 101) = (c = 101) := e0 101 (by decide) (by decide)
  have m102 : (mJ c = 102) = (c = 102) := e0 102 (by decide) (by decide)
  have m112 : (mJ c = 112) = (c = 112) := e0 112 (by decide) (by decide)
  have m113 : (mJ c = 113) = (c = 113) := e0 113 (by decide) (by decide)
  have m117 : (mJ c = 117) = (c = 117) := e0 117 (by decide) (by decide)
  have m119 : (mJ c = 119) = (c = 119) := e0 119 (by decide) (by decide)
  have m122 : (mJ c = 122) = (c = 122) := e0 122 (by decide) (by decide)
  rcases (show t = 0 ∨ t = 1 ∨ t = 2 by omega) with rfl | rfl | rfl
  · simp only [f_Mod_itemOf, show (nI (chL 0) = 114) = False by decide, show (nI (chL 0) = 115) = True by decide, ↓reduceIte, itL, jI, m100, m102, m112]
    by_cases c0 : c = 100
    · subst c0; rfl
    by_cases c1 : c = 102
    · subst c1; rfl
    by_cases c2 : c = 112
    · subst c2; rfl
    simp [c0, c1, c2]
  · simp only [f_Mod_itemOf, show (nI (chL 1) = 114) = True by decide, ↓reduceIte, itL, jI, m97, m98, m119, m101, m117]
    by_cases c0 : c = 97
    · subst c0; rfl
    by_cases c1 : c = 98
    · subst c1; rfl
    by_cases c2 : c = 119
    · subst c2; rfl
    by_cases c3 : c = 101
    · subst c3; rfl
    by_cases c4 : c = 117
    · subst c4; rfl
    simp [c0, c1, c2, c3, c4]
  · simp only [f_Mod_itemOf, show (nI (chL 2) = 114) = False by decide, show (nI (chL 2) = 115) = False by decide, ↓reduceIte, itL, jI, m99, m113, m122]
    by_cases c0 : c = 99
    · subst c0; rfl
    by_cases c1 : c = 113
    · subst c1; rfl
    by_cases c2 : c = 122
    · subst c2; rfl
    simp [c0, c1, c2]
theorem letter_c {t c : Nat} (ht : t < 3) (hc : c < 256) (hN : 3000 ≤ N) : f_PRd_letterOf N h (nI t) (nI c) = some (jI (fL t) (itL t c)) := by
  have f0 : ∀ k : Nat, k < 1000 → (nI k = nI c) = (k = c) := fun k h2 => nI_eq_i (by omega) (by omega)
  have g97 : ((97 : Int32) = nI c) = (97 = c) := f0 97 (by decide)
  have g98 : ((98 : Int32) = nI c) = (98 = c) := f0 98 (by decide)
  have g99 : ((99 : Int32) = nI c) = (99 = c) := f0 99 (by decide)
  have g100 : ((100 : Int32) = nI c) = (100 = c) := f0 100 (by decide)
  have g101 : ((101 : Int32) = nI c) = (101 = c) := f0 101 (by decide)
  have g102 : ((102 : Int32) = nI c) = (102 = c) := f0 102 (by decide)
  have g112 : ((112 : Int32) = nI c) = (112 = c) := f0 112 (by decide)
  have g113 : ((113 : Int32) = nI c) = (113 = c) := f0 113 (by decide)
  have g117 : ((117 : Int32) = nI c) = (117 = c) := f0 117 (by decide)
  have g119 : ((119 : Int32) = nI c) = (119 = c) := f0 119 (by decide)
  have g122 : ((122 : Int32) = nI c) = (122 = c) := f0 122 (by decide)
  have st : ∀ (i : Nat) (rec : Int32 → Option Int32) (x : Int32), i < fL t + nkL t → sv_2.getD i 0 = x → f_PRd_letterOf_L6 (nI t) (nI c) rec (nI i) = if x = nI c then some (nI i) else rec (nI (i + 1)) := by
    intro i rec x hi hx
    obtain ⟨-, s2, s3⟩ := sv0_t ht
    rw [f_PRd_letterOf_L6, nI_1, ix_nI (by omega) (by decide), gd_t, nI_clamp (by omega), s2, if_neg (fun q => by have := (nI_leI (by omega) (by omega)).mp q; omega), ix_nI (by omega) (by decide), gd_t, nI_clamp (by omega), hx, nI_1]
  have en : ∀ rec : Int32 → Option Int32, f_PRd_letterOf_L6 (nI t) (nI c) rec (nI (fL t + nkL t)) = some (-1) := by
    intro rec
    obtain ⟨-, s2, s3⟩ := sv0_t ht
    rw [f_PRd_letterOf_L6, nI_1, ix_nI (by omega) (by decide), gd_t, nI_clamp (by omega), s2, if_pos ((nI_leI (by omega) (by omega)).mpr (Nat.le_refl _))]
  rw [f_PRd_letterOf, ix_nI (by omega) (by decide), gd_t, bn_eq, nI_clamp (by omega), (sv0_t ht).1]
  obtain ⟨M, rfl⟩ : ∃ q, N = q + 8 := ⟨N - 8, by omega⟩
  rcases (show t = 0 ∨ t = 1 ∨ t = 2 by omega) with rfl | rfl | rfl
  · show lp _ (M + 8) (nI 0) = _
    have en : ∀ rec : Int32 → Option Int32, f_PRd_letterOf_L6 (nI 0) (nI c) rec (nI 3) = some (-1) := en
    rw [lp_1, st 0 _ 100 (by decide) rfl, lp_1, st 1 _ 102 (by decide) rfl, lp_1, st 2 _ 112 (by decide) rfl, lp_1, en]
    simp only [itL, jI, g100, g102, g112, ↓reduceIte]
    by_cases c0 : c = 100
    · subst c0; rfl
    by_cases c1 : c = 102
    · subst c1; rfl
    by_cases c2 : c = 112
    · subst c2; rfl
    rw [if_neg (Ne.symm c0), if_neg (Ne.symm c1), if_neg (Ne.symm c2)]
    simp [c0, c1, c2]
  · show lp _ (M + 8) (nI 3) = _
    have en : ∀ rec : Int32 → Option Int32, f_PRd_letterOf_L6 (nI 1) (nI c) rec (nI 8) = some (-1) := en
    rw [lp_1, st 3 _ 97 (by decide) rfl, lp_1, st 4 _ 98 (by decide) rfl, lp_1, st 5 _ 119 (by decide) rfl, lp_1, st 6 _ 101 (by decide) rfl, lp_1, st 7 _ 117 (by decide) rfl, lp_1, en]
    simp only [itL, jI, g97, g98, g119, g101, g117, ↓reduceIte]
    by_cases c0 : c = 97
    · subst c0; rfl
    by_cases c1 : c = 98
    · subst c1; rfl
    by_cases c2 : c = 119
    · subst c2; rfl
    by_cases c3 : c = 101
    · subst c3; rfl
    by_cases c4 : c = 117
    · subst c4; rfl
    rw [if_neg (Ne.symm c0), if_neg (Ne.symm c1), if_neg (Ne.symm c2), if_neg (Ne.symm c3), if_neg (Ne.symm c4)]
    simp [c0, c1, c2, c3, c4]
  · show lp _ (M + 8) (nI 8) = _
    have en : ∀ rec : Int32 → Option Int32, f_PRd_letterOf_L6 (nI 2) (nI c) rec (nI 11) = some (-1) := en
    rw [lp_1, st 8 _ 99 (by decide) rfl, lp_1, st 9 _ 113 (by decide) rfl, lp_1, st 10 _ 122 (by decide) rfl, lp_1, en]
    simp only [itL, jI, g99, g113, g122, ↓reduceIte]
    by_cases c0 : c = 99
    · subst c0; rfl
    by_cases c1 : c = 113
    · subst c1; rfl
    by_cases c2 : c = 122
    · subst c2; rfl
    rw [if_neg (Ne.symm c0), if_neg (Ne.symm c1), if_neg (Ne.symm c2)]
    simp [c0, c1, c2]
end Plet
