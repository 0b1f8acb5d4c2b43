/-! two loops in step; what both read of the parish -/
section Sim
variable {ρ ρ' σ τ : Type}
theorem lp_sim {A : (σ → Option ρ) → σ → Option ρ} {B : (τ → Option ρ) → τ → Option ρ} (R : σ → τ → Prop) (hs : ∀ ra rb, (∀ s t, R s t → ra s = rb t) → ∀ s t, R s t → A ra s = B rb t) : ∀ n s t, R s t → lp A n s = lp B n t := by
  intro n
  induction n with
  | zero => intro s t _; rfl
  | succ n ih => intro s t h; exact hs _ _ ih s t h
/-- both answer, and the answers are related -/
def Sm (e : Option ρ) (e' : Option ρ') (Q : ρ → ρ' → Prop) : Prop := ∃ r r', e = some r ∧ e' = some r' ∧ Q r r'
theorem Sm_lp {Q : ρ → ρ' → Prop} {A : (σ → Option ρ) → σ → Option ρ} {B : (τ → Option ρ') → τ → Option ρ'} (R : σ → τ → Prop) (μ : σ → Nat) (hs : ∀ ra rb s t, R s t → (∀ s' t', R s' t' → μ s' < μ s → Sm (ra s') (rb t') Q) → Sm (A ra s) (B rb t) Q) : ∀ n s t, R s t → μ s < n → Sm (lp A n s) (lp B n t) Q := by
  intro n
  induction n with
  | zero => intro s t _ h; omega
  | succ n ih => intro s t h hm; exact hs _ _ s t h (fun s' t' h' hm' => ih s' t' h' (by omega))
end Sim
/-- a small natural number as an int -/
def bN (x : Int32) (n : Nat) : Prop := ∃ k, k ≤ n ∧ x = nI k
/-- the parish, as both hold it -/
def Ipar (h : mu_H) (s u : Nat) : Prop :=
  s ≤ 9 ∧ u ≤ 6 ∧ (s = 0 ↔ u = 0) ∧ h.1 3 2 = nI s ∧ h.1 3 3 = nI u ∧ h.1 51 25 = nI s ∧ h.1 51 26 = nI u ∧
  (0 < s → (∀ k, k < 3 → h.1 65 k = h.1 4 k ∧ bN (h.1 4 k) 9) ∧ ¬ h.1 4 0 = 0) ∧
  (∀ r, r < s → (∀ k, k < 5 → h.1 66 (5 * r + k) = h.1 4 (5 * (1 + r) + k)) ∧ bN (h.1 4 (5 * (1 + r) + 0)) 7 ∧ bN (h.1 4 (5 * (1 + r) + 1)) 7 ∧ ¬ h.1 4 (5 * (1 + r) + 0) = h.1 4 (5 * (1 + r) + 1) ∧ bN (h.1 4 (5 * (1 + r) + 4)) 9) ∧
  (∀ a, a < u → (∀ k, k < 3 → h.1 67 (3 * a + k) = h.1 4 (5 * (10 + a) + k)) ∧ bN (h.1 4 (5 * (10 + a) + 0)) 7 ∧ bN (h.1 4 (5 * (10 + a) + 1)) 9 ∧ bN (h.1 4 (5 * (10 + a) + 2)) 9) ∧
  (0 < s → ∀ i, i < 64 → (∃ d, d < 8 ∧ h.1 5 i = nI d ∧ h.1 70 i = nI d) ∨ (h.1 5 i = nI 1000 ∧ h.1 70 i = nI 1000000))
theorem ofS {N : Nat} {h : mu_H} {o r k : Nat} (hr : r < 15) (hk : k < 5) : f_Par_ofStretch N h o (nI r) (nI k) = some (h.1 (o + 1) (5 * (1 + r) + k)) := by
  have e : (1 + nI r) * 5 + nI k = nI (5 * (1 + r) + k) := by
    rw [show (1 : Int32) = nI 1 from rfl, show (5 : Int32) = nI 5 from rfl, nI_add, pk_mul, nI_add]
    congr 1; omega
  simp only [f_Par_ofStretch, e, ix_nI (show 5 * (1 + r) + k < 80 by omega) (by decide), gd_t, nI_clamp (show 5 * (1 + r) + k < 2 ^ 31 by omega)]
theorem ofH {N : Nat} {h : mu_H} {o r k : Nat} (hr : r < 6) (hk : k < 5) : f_Par_ofHouse N h o (nI r) (nI k) = some (h.1 (o + 1) (5 * (10 + r) + k)) := by
  have e : (10 + nI r) * 5 + nI k = nI (5 * (10 + r) + k) := by
    rw [show (10 : Int32) = nI 10 from rfl, show (5 : Int32) = nI 5 from rfl, nI_add, pk_mul, nI_add]
    congr 1; omega
  simp only [f_Par_ofHouse, e, ix_nI (show 5 * (10 + r) + k < 80 by omega) (by decide), gd_t, nI_clamp (show 5 * (10 + r) + k < 2 ^ 31 by omega)]
theorem mofS {N : Nat} {h : mu_H} {r k : Nat} (hr : r < 9) (hk : k < 5) : f_Mod_of N h (nI r) (nI k) = some (h.1 66 (5 * r + k)) := by
  have e : 5 * nI r + nI k = nI (5 * r + k) := by
    rw [show (5 : Int32) = nI 5 from rfl, pk_mul, nI_add]
  simp only [f_Mod_of, e, ix_nI (show 5 * r + k < 45 by omega) (by decide), gd_t, nI_clamp (show 5 * r + k < 2 ^ 31 by omega)]
theorem mofH {N : Nat} {h : mu_H} {r k : Nat} (hr : r < 6) (hk : k < 3) : f_Mod_ofHouse N h (nI r) (nI k) = some (h.1 67 (3 * r + k)) := by
  have e : 3 * nI r + nI k = nI (3 * r + k) := by
    rw [show (3 : Int32) = nI 3 from rfl, pk_mul, nI_add]
  simp only [f_Mod_ofHouse, e, ix_nI (show 3 * r + k < 18 by omega) (by decide), gd_t, nI_clamp (show 3 * r + k < 2 ^ 31 by omega)]
theorem wearS {N : Nat} {h : mu_H} {o r : Nat} (hr : r < 34) : f_Sta_wear N h o (nI r) = some (h.1 (o + 1) r) := by
  have e : 0 + nI r = nI r := by rw [show (0 : Int32) = nI 0 from rfl, nI_add]; congr 1; omega
  simp only [f_Sta_wear, e, ix_nI hr (by decide), gd_t, nI_clamp (show r < 2 ^ 31 by omega)]
theorem wetS {N : Nat} {h : mu_H} {o r : Nat} (hr : r < 9) : f_Sta_wet N h o (nI r) = some (h.1 (o + 1) (9 + r)) := by
  have e : 9 + nI r = nI (9 + r) := by rw [show (9 : Int32) = nI 9 from rfl, nI_add]
  simp only [f_Sta_wet, e, ix_nI (show 9 + r < 34 by omega) (by decide), gd_t, nI_clamp (show 9 + r < 2 ^ 31 by omega)]
/-- in(v, 0, n - 1): the model's bounds -/
theorem m_in {N : Nat} {h : mu_H} {n : Nat} (hn : n < 2 ^ 30) (x : Int32) : f_Mod_in N h x 0 (nI n - 1) = some (if 0 ≤ x ∧ x < nI n then 1 else 0) := by
  have hs : (nI n - 1).toInt = (n : Int) - 1 := pk_sub_toInt (a := n) (b := 1) hn (by decide)
  have hi : (nI n).toInt = (n : Int) := nI_toInt (by omega)
  have z : (0 : Int32).toInt = 0 := rfl
  simp only [f_Mod_in]
  by_cases h0 : x < 0
  · have h1 : ¬ (0 ≤ x ∧ x < nI n) := fun q => by
      have a := Int32.lt_iff_toInt_lt.mp h0
      have b := Int32.le_iff_toInt_le.mp q.1
      omega
    simp [h0, h1]
  · by_cases h2 : nI n - 1 < x
    · have h1 : ¬ (0 ≤ x ∧ x < nI n) := fun q => by
        have a := Int32.lt_iff_toInt_lt.mp h2
        have b := Int32.lt_iff_toInt_lt.mp q.2
        omega
      simp [h0, h1, h2]
    · have h1 : 0 ≤ x ∧ x < nI n := by
        have a : ¬ (nI n - 1).toInt < x.toInt := fun q => h2 (Int32.lt_iff_toInt_lt.mpr q)
        have b : ¬ x.toInt < 0 := fun q => h0 (Int32.lt_iff_toInt_lt.mpr (by rw [z]; exact q))
        exact ⟨Int32.le_iff_toInt_le.mpr (by omega), Int32.lt_iff_toInt_lt.mpr (by omega)⟩
      simp [h0, h1, h2]
theorem zb_i {c : Prop} {d : Decidable c} : zb (@ite _ c d 1 0) = true := by
  by_cases hc : c <;> simp [hc, zb]
theorem m_isS {N s : Nat} {h : mu_H} (hs : h.1 51 25 = nI s) (h9 : s ≤ 9) (x : Int32) : f_Mod_isStretch N h x = some (if 0 ≤ x ∧ x < nI s then 1 else 0) := by
  simp only [f_Mod_isStretch, hs, m_in (show s < 2 ^ 30 by omega), bd_some, zb_i, gd_t]
theorem m_isH {N u : Nat} {h : mu_H} (hu : h.1 51 26 = nI u) (h6 : u ≤ 6) (x : Int32) : f_Mod_isHouse N h x = some (if 0 ≤ x ∧ x < nI u then 1 else 0) := by
  simp only [f_Mod_isHouse, hu, m_in (show u < 2 ^ 30 by omega), bd_some, zb_i, gd_t]
theorem nlt_le {x y : Int32} : ¬ x < y ↔ y ≤ x := by
  rw [Int32.lt_iff_toInt_lt, Int32.le_iff_toInt_le]; omega
theorem nle_lt {x y : Int32} : ¬ x ≤ y ↔ y < x := by
  rw [Int32.lt_iff_toInt_lt, Int32.le_iff_toInt_le]; omega
theorem c_isS {N s o : Nat} {h : mu_H} (hs : h.1 o 2 = nI s) (x : Int32) : f_Par_hasStretch N h o x = some (if 0 ≤ x ∧ x < nI s then 1 else 0) := by
  simp only [f_Par_hasStretch, hs]
  by_cases h0 : x < 0
  · simp [h0, show ¬ 0 ≤ x from fun q => (nlt_le.mpr q) h0]
  · by_cases h1 : nI s ≤ x
    · simp [h0, h1, show ¬ x < nI s from nlt_le.mpr h1]
    · simp [h0, h1, nlt_le.mp h0, nle_lt.mp h1]
theorem c_isH {N s o : Nat} {h : mu_H} (hs : h.1 o 3 = nI s) (x : Int32) : f_Par_hasHouse N h o x = some (if 0 ≤ x ∧ x < nI s then 1 else 0) := by
  simp only [f_Par_hasHouse, hs]
  by_cases h0 : x < 0
  · simp [h0, show ¬ 0 ≤ x from fun q => (nlt_le.mpr q) h0]
  · by_cases h1 : nI s ≤ x
    · simp [h0, h1, show ¬ x < nI s from nlt_le.mpr h1]
    · simp [h0, h1, nlt_le.mp h0, nle_lt.mp h1]
/-- a place within n, or not -/
theorem in_or (x : Int32) (n : Nat) (hn : n < 2 ^ 31) : (∃ j, j < n ∧ x = nI j ∧ 0 ≤ x ∧ x < nI n) ∨ ¬ (0 ≤ x ∧ x < nI n) := by
  rcases i_in x n hn with ⟨h1, h2⟩ | ⟨j, hj, e⟩ | ⟨h1, h2, h3⟩
  · exact Or.inr (fun q => h2 q.1)
  · exact Or.inl ⟨j, hj, e, by rw [e]; exact nI_pos' (by omega), by rw [e]; exact nI_lt hj hn⟩
  · exact Or.inr (fun q => h3 q.2)
