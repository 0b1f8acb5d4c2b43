/-! feigned -/
theorem sh_u {u : Nat} (hu : u ≤ 6) : (1 : Int32) <<< (nI u &&& 31) = nI (2 ^ u) := by
  have h : ∀ v : Fin 7, (1 : Int32) <<< (nI v.val &&& 31) = nI (2 ^ v.val) := by decide
  exact h ⟨u, by omega⟩
theorem pw_u {u : Nat} (hu : u ≤ 6) : 2 ^ u ≤ 64 := by
  have h : ∀ v : Fin 7, 2 ^ v.val ≤ 64 := by decide
  exact h ⟨u, by omega⟩
theorem allS {N s u : Nat} {h : mu_H} (hp : Ipar h s u) : f_Sig_allSets N h = some (nI (2 ^ u)) := by
  obtain ⟨-, h6, -, -, e4, -⟩ := hp
  simp only [f_Sig_allSets, f_Par_houses, e4, bd_some, sh_u h6]
theorem ask_b {N s u : Nat} {h : mu_H} (hp : Ipar h s u) (k : Int32) : (f_Sig_canAsk N h k = some 1 ∧ f_Mod_areFeigning N h k = some 1) ∨ (f_Sig_canAsk N h k = some 0 ∧ f_Mod_areFeigning N h k = some 0) := by
  have hn := c_none (N := N) hp
  obtain ⟨h9, -, -, -, -, e5, -⟩ := hp
  have hz := nI_le0 (show s < 2 ^ 31 by omega)
  by_cases hs : s = 0
  · exact Or.inr ⟨by simp [f_Sig_canAsk, hn, hs], by rw [f_Mod_areFeigning, e5, if_pos (hz.mpr hs)]⟩
  · have hz2 : ¬ nI s ≤ 0 := fun q => hs (hz.mp q)
    by_cases c0 : k < 0
    · exact Or.inr ⟨by simp [f_Sig_canAsk, hn, hs, c0], by simp [f_Mod_areFeigning, e5, hz2, f_Mod_in, c0]⟩
    · by_cases c3 : 3 < k
      · exact Or.inr ⟨by simp [f_Sig_canAsk, hn, hs, c0, c3], by simp [f_Mod_areFeigning, e5, hz2, f_Mod_in, c0, c3]⟩
      · exact Or.inl ⟨by simp [f_Sig_canAsk, hn, hs, c0, c3], by simp [f_Mod_areFeigning, e5, hz2, f_Mod_in, c0, c3]⟩
theorem Sm_same {ρ : Type} {r : ρ} {e e' : Option ρ} (h1 : e = some r) (h2 : e' = some r) : Sm e e' Eq := ⟨r, r, h1, h2, rfl⟩
theorem pp_feigned {h : mu_H} {s u n : Nat} (hp : Ipar h s u) (hs : Isee h n) {N : Nat} (hN : 100 ≤ N) (a1 a2 : Int32) : ∃ r, f_Owe_feigned N h a1 a2 = some r ∧ f_Mod_feigned N h a1 a2 = some r := by
  have hall := allS (N := N) hp
  have hask := ask_b (N := N) hp a1
  have hfit := fun set => fits_b hs (show 20 ≤ N by omega) set a1
  obtain ⟨-, h6, -, -, -, -, e6, -⟩ := hp
  have hw := pw_u h6
  have hsh : (1 : Int32) <<< (h.1 51 26 &&& 31) = nI (2 ^ u) := by rw [e6]; exact sh_u h6
  generalize 2 ^ u = w at hall hw hsh
  have h10 : ¬ (1 : Int32) = 0 := by decide
  rcases hask.symm with ⟨k1, k2⟩ | ⟨k1, k2⟩
  · exact ⟨-1, by simp [f_Owe_feigned, k1], by simp [f_Mod_feigned, k2]⟩
  by_cases cm0 : ¬ (-1 : Int32) ≤ a2
  · exact ⟨-1, by simp [f_Owe_feigned, k1, cm0], by simp [f_Mod_feigned, k2, cm0]⟩
  have cm : (-1 : Int32) ≤ a2 := Decidable.not_not.mp cm0
  by_cases c1 : a2 = -1
  · subst c1
    have key : Sm (lp (f_Sig_fitting_L4 N h a1) N (0, 0)) (lp (f_Mod_feigned_L20 N h a1 (-1) (fun x3 => if (-1 : Int32) = -1 then some x3 else some (-1))) N (0, 0)) Eq := by
      refine Sm_lp (R := fun x y => x = y ∧ ∃ c t : Nat, x = (nI c, nI t) ∧ c ≤ t ∧ t ≤ w) (fun x => w - x.2.toNatClampNeg) ?_ N _ _ ⟨rfl, 0, 0, rfl, by omega, by omega⟩ (by omega)
      rintro ra rb x y ⟨rfl, c, t, rfl, hc, ht⟩ ih
      have ct := nI_clamp (show t < 2 ^ 31 by omega)
      simp only [f_Sig_fitting_L4, f_Mod_feigned_L20, hall, bd_some, hsh, nI_le_i (show w < 2 ^ 31 by omega) (show t < 2 ^ 31 by omega), jn_eq]
      by_cases cw : w ≤ t
      · simp only [if_pos cw]
        exact Sm_same rfl (by simp)
      · simp only [if_neg cw]
        have cne : ¬ nI c = -1 := fun q => by
          have := congrArg Int32.toInt q
          rw [nI_toInt (by omega)] at this
          have e : (-1 : Int32).toInt = -1 := rfl
          omega
        rcases hfit (nI t) with ⟨f1, f2⟩ | ⟨f1, f2⟩
        · simp only [f1, f2, bd_some, if_neg h10, if_neg cne]
          refine ih _ _ ⟨rfl, c + 1, t + 1, by rw [nI_1, nI_1], by omega, by omega⟩ ?_
          simp only [nI_1, nI_clamp (show t + 1 < 2 ^ 31 by omega), ct]
          omega
        · simp only [f1, f2, bd_some, if_true]
          refine ih _ _ ⟨rfl, c, t + 1, by rw [nI_1], by omega, by omega⟩ ?_
          simp only [nI_1, nI_clamp (show t + 1 < 2 ^ 31 by omega), ct]
          omega
    obtain ⟨r, r', g1, g2, rfl⟩ := key
    exact ⟨r, by simp [f_Owe_feigned, k1, f_Sig_fitting, g1], by simp only [f_Mod_feigned, k2, bd_some, if_neg h10, if_pos cm, jn_eq]; exact g2⟩
  · have c0 : ¬ a2 < 0 := fun q => by
      have b := Int32.le_iff_toInt_le.mp cm
      have a := Int32.lt_iff_toInt_lt.mp q
      have e : (-1 : Int32).toInt = -1 := rfl
      have z : (0 : Int32).toInt = 0 := rfl
      exact c1 (Int32.toInt_inj.mp (by omega))
    obtain ⟨i, hi, rfl⟩ := nI_of c0
    have key : Sm (lp (f_Sig_fittingAt_L5 N h a1) N (nI i, 0)) (lp (f_Mod_feigned_L20 N h a1 (nI i) (fun x3 => if nI i = -1 then some x3 else some (-1))) N (0, 0)) Eq := by
      refine Sm_lp (R := fun x y => ∃ c t : Nat, x = (nI (i - c), nI t) ∧ y = (nI c, nI t) ∧ c ≤ i ∧ c ≤ t ∧ t ≤ w) (fun x => w - x.2.toNatClampNeg) ?_ N _ _ ⟨0, 0, rfl, rfl, by omega, by omega, by omega⟩ (by omega)
      rintro ra rb x y ⟨c, t, rfl, rfl, hci, hc, ht⟩ ih
      have ct := nI_clamp (show t < 2 ^ 31 by omega)
      simp only [f_Sig_fittingAt_L5, f_Mod_feigned_L20, hall, bd_some, hsh, nI_le_i (show w < 2 ^ 31 by omega) (show t < 2 ^ 31 by omega), jn_eq, nI_eq_i (show c < 2 ^ 31 by omega) hi, if_neg c1]
      by_cases cw : w ≤ t
      · simp only [if_pos cw]
        exact Sm_same rfl rfl
      · simp only [if_neg cw]
        rcases hfit (nI t) with ⟨f1, f2⟩ | ⟨f1, f2⟩
        · simp only [f1, f2, bd_some, if_neg h10]
          by_cases ce : c = i
          · have cz : nI (i - c) = 0 := by rw [show i - c = 0 by omega]; rfl
            simp only [if_pos cz, if_pos ce]
            exact Sm_same rfl rfl
          · have cz : ¬ nI (i - c) = 0 := nI_ne0 (by omega) (by omega)
            simp only [if_neg cz, if_neg ce]
            refine ih _ _ ⟨c + 1, t + 1, by rw [nI_1, show i - c = (i - (c + 1)) + 1 by omega, pk_m1], by rw [nI_1, nI_1], by omega, by omega, by omega⟩ ?_
            simp only [nI_1, nI_clamp (show t + 1 < 2 ^ 31 by omega), ct]
            omega
        · simp only [f1, f2, bd_some, if_true]
          refine ih _ _ ⟨c, t + 1, by rw [nI_1], by rw [nI_1], by omega, by omega, by omega⟩ ?_
          simp only [nI_1, nI_clamp (show t + 1 < 2 ^ 31 by omega), ct]
          omega
    obtain ⟨r, r', g1, g2, rfl⟩ := key
    exact ⟨r, by simp only [f_Owe_feigned, k1, bd_some, if_neg h10, if_pos cm, if_neg c1, f_Sig_fittingAt, g1], by simp only [f_Mod_feigned, k2, bd_some, if_neg h10, if_pos cm, jn_eq]; exact g2⟩
