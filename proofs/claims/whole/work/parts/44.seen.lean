/-! what was seen: who fits, both alike -/
def Isee (h : mu_H) (n : Nat) : Prop := n ≤ 10 ∧ h.1 39 3 = nI n ∧ h.1 51 40 = nI n ∧ ∀ i, i < n → h.1 73 i = h.1 40 i ∧ h.1 74 i = h.1 41 i
def okS (h : mu_H) (set : Int32) (i : Nat) : Prop := (if (h.1 40 i) &&& (set ^^^ (-1)) = 0 then (0 : Int32) else 1) = h.1 41 i
theorem fit_c {h : mu_H} {n : Nat} {set : Int32} (hs : Isee h n) : ∀ m j, j ≤ n → n - j < m → ((∀ i, j ≤ i → i < n → okS h set i) → lp (f_Sig_fits_L12 h set) m (nI j) = some 1) ∧ (¬ (∀ i, j ≤ i → i < n → okS h set i) → lp (f_Sig_fits_L12 h set) m (nI j) = some 0) := by
  obtain ⟨hn, e, -, -⟩ := hs
  intro m
  induction m with
  | zero => intro j _ h; omega
  | succ m ih =>
    intro j hj hm
    have hb : lp (f_Sig_fits_L12 h set) (m + 1) (nI j) = f_Sig_fits_L12 h set (lp (f_Sig_fits_L12 h set) m) (nI j) := rfl
    rw [hb]
    simp only [f_Sig_fits_L12, e, nI_le_i (show n < 2 ^ 31 by omega) (show j < 2 ^ 31 by omega)]
    by_cases c : n ≤ j
    · rw [if_pos c]
      exact ⟨fun _ => rfl, fun q => absurd (fun i h1 h2 => by omega) q⟩
    · rw [if_neg c]
      have nx : nI j + 1 = nI (j + 1) := nI_1 j
      obtain ⟨i1, i2⟩ := ih (j + 1) (by omega) (by omega)
      simp only [ix_nI (show j < 10 by omega) (by decide), gd_t, jn_eq, nI_clamp (show j < 2 ^ 31 by omega), nx]
      have key : (if (h.1 40 j) &&& (set ^^^ (-1)) = 0 then (if (0 : Int32) = h.1 41 j then lp (f_Sig_fits_L12 h set) m (nI (j + 1)) else some 0) else (if (1 : Int32) = h.1 41 j then lp (f_Sig_fits_L12 h set) m (nI (j + 1)) else some 0)) = if (if (h.1 40 j) &&& (set ^^^ (-1)) = 0 then (0 : Int32) else 1) = h.1 41 j then lp (f_Sig_fits_L12 h set) m (nI (j + 1)) else some 0 := by
        by_cases d : (h.1 40 j) &&& (set ^^^ (-1)) = 0
        · rw [if_pos d, if_pos d]
        · rw [if_neg d, if_neg d]
      rw [key]
      by_cases d : okS h set j
      · have d' : (if (h.1 40 j) &&& (set ^^^ (-1)) = 0 then (0 : Int32) else 1) = h.1 41 j := d
        rw [if_pos d']
        refine ⟨fun q => i1 (fun i h1 h2 => q i (by omega) h2), fun q => i2 (fun q2 => q (fun i h1 h2 => ?_))⟩
        by_cases hij : i = j
        · rw [hij]; exact d
        · exact q2 i (by omega) h2
      · have d' : ¬ (if (h.1 40 j) &&& (set ^^^ (-1)) = 0 then (0 : Int32) else 1) = h.1 41 j := d
        rw [if_neg d']
        exact ⟨fun q => absurd (q j (Nat.le_refl _) (by omega)) d, fun _ => rfl⟩
theorem fit_m {h : mu_H} {n : Nat} {set : Int32} (hs : Isee h n) : ∀ m j, j ≤ n → (0 < m → lp (f_Mod_isFeigned_L17 h set) m (0, nI j) = some 0) ∧ (n - j + 1 < m → ((∀ i, j ≤ i → i < n → okS h set i) → lp (f_Mod_isFeigned_L17 h set) m (1, nI j) = some 1) ∧ (¬ (∀ i, j ≤ i → i < n → okS h set i) → lp (f_Mod_isFeigned_L17 h set) m (1, nI j) = some 0)) := by
  obtain ⟨hn, -, e, hq⟩ := hs
  intro m
  induction m with
  | zero => intro j _; exact ⟨fun h => by omega, fun h => by omega⟩
  | succ m ih =>
    intro j hj
    have hb : ∀ x : Int32, lp (f_Mod_isFeigned_L17 h set) (m + 1) (x, nI j) = f_Mod_isFeigned_L17 h set (lp (f_Mod_isFeigned_L17 h set) m) (x, nI j) := fun _ => rfl
    have hz : zb 0 = true := rfl
    have ho : zb 1 = true := rfl
    have h10 : ¬ (1 : Int32) = 0 := by decide
    have h00 : ((0 : Int32) = 0) = True := eq_self 0
    rw [hb, hb]
    simp only [f_Mod_isFeigned_L17, e, nI_le_i (show n < 2 ^ 31 by omega) (show j < 2 ^ 31 by omega), h00, hz, ho, gd_t, if_true, if_neg h10]
    by_cases c : n ≤ j
    · simp only [if_pos c]
      exact ⟨fun _ => trivial, fun _ => ⟨fun _ => trivial, fun q => absurd (fun i h1 h2 => by omega) q⟩⟩
    · simp only [if_neg c]
      refine ⟨fun _ => trivial, fun hm => ?_⟩
      have nx : nI j + 1 = nI (j + 1) := nI_1 j
      obtain ⟨i0, i12⟩ := ih (j + 1) (by omega)
      obtain ⟨i1, i2⟩ := i12 (by omega)
      have i0 := i0 (by omega)
      simp only [ix_nI (show j < 10 by omega) (by decide), gd_t, jn_eq, nI_clamp (show j < 2 ^ 31 by omega), nx, (hq j (by omega)).1, (hq j (by omega)).2]
      have key : ∀ u v : Option Int32, (if (h.1 40 j) &&& (set ^^^ (-1)) = 0 then (if (0 : Int32) = h.1 41 j then u else v) else (if (1 : Int32) = h.1 41 j then u else v)) = if (if (h.1 40 j) &&& (set ^^^ (-1)) = 0 then (0 : Int32) else 1) = h.1 41 j then u else v := by
        intro u v
        by_cases d : (h.1 40 j) &&& (set ^^^ (-1)) = 0
        · rw [if_pos d, if_pos d]
        · rw [if_neg d, if_neg d]
      rw [key]
      by_cases d : okS h set j
      · have d' : (if (h.1 40 j) &&& (set ^^^ (-1)) = 0 then (0 : Int32) else 1) = h.1 41 j := d
        rw [if_pos d']
        refine ⟨fun q => i1 (fun i h1 h2 => q i (by omega) h2), fun q => i2 (fun q2 => q (fun i h1 h2 => ?_))⟩
        by_cases hij : i = j
        · rw [hij]; exact d
        · exact q2 i (by omega) h2
      · have d' : ¬ (if (h.1 40 j) &&& (set ^^^ (-1)) = 0 then (0 : Int32) else 1) = h.1 41 j := d
        rw [if_neg d']
        exact ⟨fun q => absurd (q j (Nat.le_refl _) (by omega)) d, fun _ => i0⟩
/-- both say the same of a set: it fits, or not -/
theorem fits_b {h : mu_H} {n : Nat} (hs : Isee h n) {N : Nat} (hN : 20 ≤ N) (set k : Int32) : (f_Sig_fits N h set k = some 1 ∧ f_Mod_isFeigned N h k set = some 1) ∨ (f_Sig_fits N h set k = some 0 ∧ f_Mod_isFeigned N h k set = some 0) := by
  have hn := hs.1
  obtain ⟨bc, hbc⟩ : ∃ z, f_Int_bitCount N h set = some z := ⟨_, rfl⟩
  obtain ⟨c1, c0⟩ := fit_c (set := set) hs N 0 (by omega) (by omega)
  obtain ⟨m0, m12⟩ := fit_m (set := set) hs N 0 (by omega)
  obtain ⟨m1, m2⟩ := m12 (by omega)
  rw [show nI 0 = (0 : Int32) from rfl] at c1 c0 m0 m1 m2
  simp only [f_Sig_fits, f_Mod_isFeigned, hbc, bd_some, jn_eq]
  by_cases c : bc = k
  · simp only [if_pos c]
    by_cases a : ∀ i, 0 ≤ i → i < n → okS h set i
    · exact Or.inl ⟨c1 a, m1 a⟩
    · exact Or.inr ⟨c0 a, m2 a⟩
  · simp only [if_neg c]
    exact Or.inr ⟨trivial, m0 (by omega)⟩
