/-! rows of a law: what each sign leaves -/
section Gds
theorem evs_app {L : Nat → Int32} : ∀ (a b : List Tok) (st : List Int32), evs L (a ++ b) st = (evs L a st).bind (evs L b) := by
  intro a
  induction a with
  | nil => intro b st; rfl
  | cons t ts ih =>
    intro b st
    rw [List.cons_append, evs, evs]
    cases ev1 L t st with
    | none => rfl
    | some st' => exact ih b st'
theorem Gd_mono {k k' : Nat} {ts : List Tok} {P : Int32 → Prop} (h : Gd k ts P) (hk : k ≤ k') : Gd k' ts P := fun L hL st hs => h L hL st (by omega)
theorem isN_0 : isN 0 := by rw [isN]; decide
theorem Gd_ne {k : Nat} {ts : List Tok} {P : Int32 → Prop} (h : Gd k ts P) (hk : k ≤ 32) : 1 ≤ ts.length := by
  obtain ⟨v, -, e⟩ := h (fun _ => 0) (fun _ _ => isN_0) [] (by simpa using hk)
  cases ts with
  | nil => exact absurd e (by simp [evs])
  | cons t r => simp
theorem isN_n {v : Nat} (hv : v ≤ 9999) : isN (nI v) := by
  rw [isN, nI_toInt (by omega)]; omega
theorem Gd_num {v : Nat} (hv : v ≤ 9999) : Gd 1 [(0, v)] isN := by
  intro L hL st hs
  refine ⟨nI v, isN_n hv, ?_⟩
  rw [evs, ev1.eq_def, if_pos (show ((0, v) : Tok).1 = 0 from rfl), if_pos (show st.length < 32 by omega)]
  rfl
theorem Gd_let {l : Nat} (hl : l < 6) : Gd 1 [(1, l)] isN := by
  intro L hL st hs
  refine ⟨L l, hL l hl, ?_⟩
  rw [evs, ev1.eq_def, if_neg (show ¬ ((1, l) : Tok).1 = 0 from Nat.one_ne_zero), if_pos (show ((1, l) : Tok).1 = 1 from rfl), if_pos (show st.length < 32 by omega)]
  rfl
theorem Gd_bin {k c : Nat} {x0 xs : List Tok} {P Q : Int32 → Prop} (h0 : Gd (k + 1) x0 P) (h1 : Gd k xs P) (hc : 2 ≤ c) (h9 : ¬ c = 9) (hop : ∀ a b, P a → P b → ∃ v, Q v ∧ op2 c a b = some v) : Gd (k + 1) (x0 ++ (xs ++ [(c, 0)])) Q := by
  intro L hL st hs
  obtain ⟨a, pa, ea⟩ := h0 L hL st hs
  obtain ⟨b, pb, eb⟩ := h1 L hL (a :: st) (by rw [List.length_cons]; omega)
  obtain ⟨v, qv, ev⟩ := hop a b pa pb
  refine ⟨v, qv, ?_⟩
  rw [evs_app, ea, bd_some, evs_app, eb, bd_some, evs, ev1, if_neg (show ¬ c = 0 by omega), if_neg (show ¬ c = 1 by omega), if_neg (show ¬ c = 9 from h9)]
  show ((op2 c a b).bind fun x => some (x :: st)).bind (evs L []) = _
  rw [ev]
  rfl
theorem Gd_not {k : Nat} {xs : List Tok} (h1 : Gd k xs isB) : Gd k (xs ++ [(9, 0)]) isB := by
  intro L hL st hs
  obtain ⟨a, pa, ea⟩ := h1 L hL st hs
  refine ⟨1 - a, ?_, ?_⟩
  · rcases pa with rfl | rfl
    · exact Or.inr (by decide)
    · exact Or.inl (by decide)
  · rw [evs_app, ea, bd_some, evs, ev1, if_neg (by decide), if_neg (by decide), if_pos rfl]
    rfl
theorem lt_64 {x y : Int64} : x < y ↔ x.toInt < y.toInt := Int64.lt_iff_toInt_lt
theorem cmp_le {x y : Int64} : lg_cmp x y ≤ 0 ↔ ¬ y < x := by
  rw [lg_cmp]
  by_cases c : x > y
  · rw [if_pos c]; exact ⟨fun q => absurd q (by decide), fun q => absurd c q⟩
  · rw [if_neg c]
    by_cases d : x = y
    · rw [if_pos d]; exact ⟨fun _ => c, fun _ => by decide⟩
    · rw [if_neg d]; exact ⟨fun _ => c, fun _ => by decide⟩
theorem cmp_ge {x y : Int64} : 0 ≤ lg_cmp x y ↔ ¬ x < y := by
  rw [lg_cmp]
  by_cases c : x > y
  · rw [if_pos c]
    refine ⟨fun _ q => ?_, fun _ => by decide⟩
    have h1 := lt_64.mp c
    have h2 := lt_64.mp q
    omega
  · rw [if_neg c]
    by_cases d : x = y
    · rw [if_pos d]
      refine ⟨fun _ q => ?_, fun _ => by decide⟩
      subst d
      have h2 := lt_64.mp q
      omega
    · rw [if_neg d]
      refine ⟨fun q => absurd q (by decide), fun q => absurd ?_ d⟩
      have h1 : ¬ y.toInt < x.toInt := fun w => c (lt_64.mpr w)
      have h2 : ¬ x.toInt < y.toInt := fun w => q (lt_64.mpr w)
      exact Int64.toInt_inj.mp (by omega)
theorem cmp_eq {x y : Int64} : lg_cmp x y = 0 ↔ x = y := by
  rw [lg_cmp]
  by_cases c : x > y
  · rw [if_pos c]
    refine ⟨fun q => absurd q (by decide), fun q => ?_⟩
    subst q
    have h1 := lt_64.mp c
    omega
  · rw [if_neg c]
    by_cases d : x = y
    · rw [if_pos d]; exact ⟨fun _ => d, fun _ => rfl⟩
    · rw [if_neg d]; exact ⟨fun q => absurd q (by decide), fun q => absurd q d⟩
theorem to32 {x : Int64} (h1 : -1000000 ≤ x.toInt) (h2 : x.toInt ≤ 1000000) : x.toInt32.toInt = x.toInt := by
  rw [Int64.toInt_toInt32]
  exact Int.bmod_eq_of_le (by omega) (by omega)
theorem bnd {N : Nat} {h : mu_H} (x : Int64) : ∃ v, isN v ∧ (if lg_cmp x 1000000 ≤ 0 then if 0 ≤ lg_cmp x (-1000000) then some x.toInt32 else some (-1000000) else some (1000000 : Int32)) = some v ∧ f_Mod_bounded N h x = some v := by
  have e1 : (1000000 : Int64).toInt = 1000000 := by decide
  have e2 : (-1000000 : Int64).toInt = -1000000 := by decide
  rw [f_Mod_bounded, z_mminL]
  by_cases c1 : lg_cmp x 1000000 ≤ 0
  · have n1 : ¬ (1000000 : Int64) < x := cmp_le.mp c1
    have n1' : ¬ 1000000 < x.toInt := fun q => n1 (lt_64.mpr (by rw [e1]; exact q))
    by_cases c2 : 0 ≤ lg_cmp x (-1000000)
    · have n2 : ¬ x < (-1000000 : Int64) := cmp_ge.mp c2
      have n2' : ¬ x.toInt < -1000000 := fun q => n2 (lt_64.mpr (by rw [e2]; exact q))
      refine ⟨x.toInt32, ?_, by rw [if_pos c1, if_pos c2], ?_⟩
      · rw [isN, to32 (by omega) (by omega)]; omega
      · by_cases c3 : x < 1000000
        · rw [if_pos c3, z_mmaxL, if_neg n2]
        · have : x = 1000000 := Int64.toInt_inj.mp (by
            have : ¬ x.toInt < 1000000 := fun q => c3 (lt_64.mpr (by rw [e1]; exact q))
            rw [e1]; omega)
          subst this
          decide
    · have n2 : x < (-1000000 : Int64) := Decidable.byContradiction (fun q => c2 (cmp_ge.mpr q))
      refine ⟨-1000000, by rw [isN]; decide, by rw [if_pos c1, if_neg c2], ?_⟩
      have c3 : x < 1000000 := lt_64.mpr (by
        have := lt_64.mp n2
        rw [e2] at this
        rw [e1]; omega)
      rw [if_pos c3, z_mmaxL, if_pos n2]
      decide
  · have n1 : (1000000 : Int64) < x := Decidable.byContradiction (fun q => c1 (cmp_le.mpr q))
    refine ⟨1000000, by rw [isN]; decide, by rw [if_neg c1], ?_⟩
    have c3 : ¬ x < 1000000 := fun q => by
      have a := lt_64.mp n1
      have b := lt_64.mp q
      omega
    rw [if_neg c3]
    decide
theorem op2_of {c : Nat} {a b v : Int32} (h1 : f_Law_joined 0 h_0 (sgI c) a b = some v) (h2 : f_Mod_worked 0 h_0 (nI c) a.toInt64 b.toInt64 = some v) : op2 c a b = some v := by
  rw [op2, h1, h2, if_pos rfl]
theorem jo_ar {x : Int32} {a b : Int32} (h1 : ¬ x = 38) (h2 : ¬ x = 47) (h3 : ¬ x = 60) (h4 : ¬ x = 61) (h5 : ¬ x = 62) (h6 : ¬ x = 124) : f_Law_joined 0 h_0 x a b = f_Law_reckoned 0 h_0 x a.toInt64 b.toInt64 := by
  rw [f_Law_joined, if_neg h1, if_neg h2, if_neg h3, if_neg h4, if_neg h5, if_neg h6]
  cases f_Law_reckoned 0 h_0 x a.toInt64 b.toInt64 <;> rfl
theorem op2_2 (a b : Int32) : ∃ v, isN v ∧ op2 2 a b = some v := by
  obtain ⟨v, i, e1, e2⟩ := bnd (N := 0) (h := h_0) (a.toInt64 + b.toInt64)
  refine ⟨v, i, op2_of ?_ ?_⟩
  · rw [show sgI 2 = 43 from rfl, jo_ar (by decide) (by decide) (by decide) (by decide) (by decide) (by decide), f_Law_reckoned]
    exact e1
  · rw [f_Mod_worked, if_pos (show nI 2 = (2 : Int32) from rfl), e2]; rfl
theorem op2_3 (a b : Int32) : ∃ v, isN v ∧ op2 3 a b = some v := by
  obtain ⟨v, i, e1, e2⟩ := bnd (N := 0) (h := h_0) (a.toInt64 - b.toInt64)
  refine ⟨v, i, op2_of ?_ ?_⟩
  · rw [show sgI 3 = 45 from rfl, jo_ar (by decide) (by decide) (by decide) (by decide) (by decide) (by decide), f_Law_reckoned]
    exact e1
  · rw [f_Mod_worked, if_neg (show ¬ nI 3 = (2 : Int32) by decide), if_pos (show nI 3 = (3 : Int32) from rfl), e2]; rfl
theorem op2_4 (a b : Int32) : ∃ v, isN v ∧ op2 4 a b = some v := by
  obtain ⟨v, i, e1, e2⟩ := bnd (N := 0) (h := h_0) (a.toInt64 * b.toInt64)
  refine ⟨v, i, op2_of ?_ ?_⟩
  · rw [show sgI 4 = 42 from rfl, jo_ar (by decide) (by decide) (by decide) (by decide) (by decide) (by decide), f_Law_reckoned]
    exact e1
  · rw [f_Mod_worked, if_neg (show ¬ nI 4 = (2 : Int32) by decide), if_neg (show ¬ nI 4 = (3 : Int32) by decide), if_pos (show nI 4 = (4 : Int32) from rfl), e2]; rfl
theorem z64 {b : Int32} : b.toInt64 = 0 ↔ b = 0 := by
  constructor
  · intro q
    have := congrArg Int64.toInt q
    rw [Int32.toInt_toInt64] at this
    exact Int32.toInt_inj.mp this
  · intro q; subst q; rfl
theorem div_b (a b : Int) (h1 : -1000000 ≤ a) (h2 : a ≤ 1000000) : -1000000 ≤ a.tdiv b ∧ a.tdiv b ≤ 1000000 := by
  have h : (a.tdiv b).natAbs = a.natAbs / b.natAbs := Int.natAbs_tdiv a b
  have h3 : a.natAbs / b.natAbs ≤ a.natAbs := Nat.div_le_self _ _
  omega
theorem op2_5 (a b : Int32) (ha : isN a) : ∃ v, isN v ∧ op2 5 a b = some v := by
  obtain ⟨a1, a2⟩ := ha
  obtain ⟨d1, d2⟩ := div_b a.toInt b.toInt a1 a2
  have hq : (a.toInt64 / b.toInt64).toInt = a.toInt.tdiv b.toInt := by
    rw [Int64.toInt_div, Int32.toInt_toInt64, Int32.toInt_toInt64]
    exact Int.bmod_eq_of_le (by omega) (by omega)
  have hq2 : (a / b).toInt = a.toInt.tdiv b.toInt := by
    rw [Int32.toInt_div]
    exact Int.bmod_eq_of_le (by omega) (by omega)
  by_cases c : b = 0
  · refine ⟨0, isN_0, op2_of ?_ ?_⟩
    · rw [show sgI 5 = 47 from rfl, f_Law_joined, if_neg (by decide), if_pos rfl, if_pos c]
    · rw [f_Mod_worked, if_neg (show ¬ nI 5 = (2 : Int32) by decide), if_neg (show ¬ nI 5 = (3 : Int32) by decide), if_neg (show ¬ nI 5 = (4 : Int32) by decide), if_pos (show nI 5 = (5 : Int32) from rfl), if_pos (cmp_eq.mpr (z64.mpr c))]
  · have c' : ¬ b.toInt64 = 0 := fun q => c (z64.mp q)
    obtain ⟨v, i, e1, e2⟩ := bnd (N := 0) (h := h_0) (a.toInt64 / b.toInt64)
    have e : v = a / b := by
      have k1 : lg_cmp (a.toInt64 / b.toInt64) 1000000 ≤ 0 := cmp_le.mpr (fun q => by
        have := lt_64.mp q
        rw [hq, show (1000000 : Int64).toInt = 1000000 by decide] at this
        omega)
      have k2 : 0 ≤ lg_cmp (a.toInt64 / b.toInt64) (-1000000) := cmp_ge.mpr (fun q => by
        have := lt_64.mp q
        rw [hq, show (-1000000 : Int64).toInt = -1000000 by decide] at this
        omega)
      rw [if_pos k1, if_pos k2, Option.some.injEq] at e1
      rw [← e1]
      exact Int32.toInt_inj.mp (by rw [to32 (by omega) (by omega), hq, hq2])
    refine ⟨v, i, op2_of ?_ ?_⟩
    · rw [show sgI 5 = 47 from rfl, f_Law_joined, if_neg (by decide), if_pos rfl, if_neg c, decide_eq_true c, gd_t, e]
    · rw [f_Mod_worked, if_neg (show ¬ nI 5 = (2 : Int32) by decide), if_neg (show ¬ nI 5 = (3 : Int32) by decide), if_neg (show ¬ nI 5 = (4 : Int32) by decide), if_pos (show nI 5 = (5 : Int32) from rfl), if_neg (fun q => by exact c' (cmp_eq.mp q)), decide_eq_true c', gd_t, e2]
      rfl
theorem eq64 {a b : Int32} : a.toInt64 = b.toInt64 ↔ a = b := by
  constructor
  · intro q
    have := congrArg Int64.toInt q
    rw [Int32.toInt_toInt64, Int32.toInt_toInt64] at this
    exact Int32.toInt_inj.mp this
  · intro q; rw [q]
theorem lt64 {a b : Int32} : a.toInt64 < b.toInt64 ↔ a < b := by
  rw [lt_64, Int32.toInt_toInt64, Int32.toInt_toInt64, Int32.lt_iff_toInt_lt]
theorem op2_6 (a b : Int32) : ∃ v, isB v ∧ op2 6 a b = some v := by
  by_cases c : a = b
  · refine ⟨1, Or.inr rfl, op2_of ?_ ?_⟩
    · rw [show sgI 6 = 61 from rfl, f_Law_joined, if_neg (by decide), if_neg (by decide), if_neg (by decide), if_pos rfl, if_pos c]
    · rw [f_Mod_worked, if_neg (show ¬ nI 6 = (2 : Int32) by decide), if_neg (show ¬ nI 6 = (3 : Int32) by decide), if_neg (show ¬ nI 6 = (4 : Int32) by decide), if_neg (show ¬ nI 6 = (5 : Int32) by decide), if_pos (show nI 6 = (6 : Int32) from rfl), if_pos (cmp_eq.mpr (eq64.mpr c))]
  · refine ⟨0, Or.inl rfl, op2_of ?_ ?_⟩
    · rw [show sgI 6 = 61 from rfl, f_Law_joined, if_neg (by decide), if_neg (by decide), if_neg (by decide), if_pos rfl, if_neg c]
    · rw [f_Mod_worked, if_neg (show ¬ nI 6 = (2 : Int32) by decide), if_neg (show ¬ nI 6 = (3 : Int32) by decide), if_neg (show ¬ nI 6 = (4 : Int32) by decide), if_neg (show ¬ nI 6 = (5 : Int32) by decide), if_pos (show nI 6 = (6 : Int32) from rfl), if_neg (fun q => by exact c (eq64.mp (cmp_eq.mp q)))]
theorem op2_7 (a b : Int32) : ∃ v, isB v ∧ op2 7 a b = some v := by
  by_cases c : b ≤ a
  · refine ⟨0, Or.inl rfl, op2_of ?_ ?_⟩
    · rw [show sgI 7 = 60 from rfl, f_Law_joined, if_neg (by decide), if_neg (by decide), if_pos rfl, if_pos c]
    · rw [f_Mod_worked, if_neg (show ¬ nI 7 = (2 : Int32) by decide), if_neg (show ¬ nI 7 = (3 : Int32) by decide), if_neg (show ¬ nI 7 = (4 : Int32) by decide), if_neg (show ¬ nI 7 = (5 : Int32) by decide), if_neg (show ¬ nI 7 = (6 : Int32) by decide), if_pos (show nI 7 = (7 : Int32) from rfl), if_pos (cmp_ge.mpr (fun q => (nlt_le.mpr c) (lt64.mp q)))]
  · refine ⟨1, Or.inr rfl, op2_of ?_ ?_⟩
    · rw [show sgI 7 = 60 from rfl, f_Law_joined, if_neg (by decide), if_neg (by decide), if_pos rfl, if_neg c]
    · rw [f_Mod_worked, if_neg (show ¬ nI 7 = (2 : Int32) by decide), if_neg (show ¬ nI 7 = (3 : Int32) by decide), if_neg (show ¬ nI 7 = (4 : Int32) by decide), if_neg (show ¬ nI 7 = (5 : Int32) by decide), if_neg (show ¬ nI 7 = (6 : Int32) by decide), if_pos (show nI 7 = (7 : Int32) from rfl), if_neg (fun q => by exact c (nlt_le.mp (fun w => (cmp_ge.mp q) (lt64.mpr w))))]
theorem op2_8 (a b : Int32) : ∃ v, isB v ∧ op2 8 a b = some v := by
  by_cases c : a ≤ b
  · refine ⟨0, Or.inl rfl, op2_of ?_ ?_⟩
    · rw [show sgI 8 = 62 from rfl, f_Law_joined, if_neg (by decide), if_neg (by decide), if_neg (by decide), if_neg (by decide), if_pos rfl, if_pos c]
    · rw [f_Mod_worked, if_neg (show ¬ nI 8 = (2 : Int32) by decide), if_neg (show ¬ nI 8 = (3 : Int32) by decide), if_neg (show ¬ nI 8 = (4 : Int32) by decide), if_neg (show ¬ nI 8 = (5 : Int32) by decide), if_neg (show ¬ nI 8 = (6 : Int32) by decide), if_neg (show ¬ nI 8 = (7 : Int32) by decide), if_pos (show nI 8 = (8 : Int32) from rfl), if_pos (cmp_le.mpr (fun q => (nlt_le.mpr c) (lt64.mp q)))]
  · refine ⟨1, Or.inr rfl, op2_of ?_ ?_⟩
    · rw [show sgI 8 = 62 from rfl, f_Law_joined, if_neg (by decide), if_neg (by decide), if_neg (by decide), if_neg (by decide), if_pos rfl, if_neg c]
    · rw [f_Mod_worked, if_neg (show ¬ nI 8 = (2 : Int32) by decide), if_neg (show ¬ nI 8 = (3 : Int32) by decide), if_neg (show ¬ nI 8 = (4 : Int32) by decide), if_neg (show ¬ nI 8 = (5 : Int32) by decide), if_neg (show ¬ nI 8 = (6 : Int32) by decide), if_neg (show ¬ nI 8 = (7 : Int32) by decide), if_pos (show nI 8 = (8 : Int32) from rfl), if_neg (fun q => by exact c (nlt_le.mp (fun w => (cmp_le.mp q) (lt64.mpr w))))]
theorem op2_b (c : Nat) (hc : c = 10 ∨ c = 11) (a b : Int32) (ha : isB a) (hb : isB b) : ∃ v, isB v ∧ op2 c a b = some v := by
  rcases hc with rfl | rfl <;> rcases ha with rfl | rfl <;> rcases hb with rfl | rfl
  · exact ⟨0, Or.inl rfl, by decide⟩
  · exact ⟨0, Or.inl rfl, by decide⟩
  · exact ⟨0, Or.inl rfl, by decide⟩
  · exact ⟨1, Or.inr rfl, by decide⟩
  · exact ⟨0, Or.inl rfl, by decide⟩
  · exact ⟨1, Or.inr rfl, by decide⟩
  · exact ⟨1, Or.inr rfl, by decide⟩
  · exact ⟨1, Or.inr rfl, by decide⟩
end Gds
