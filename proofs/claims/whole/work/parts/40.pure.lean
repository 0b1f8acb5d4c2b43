/-! THE PURE PART: rules for the functions -/
def fu : Nat := 20000
/-- the function answers, and Q holds of the answer -/
def Rt {ρ : Type} (e : Option ρ) (Q : ρ → Prop) : Prop := ∃ r, e = some r ∧ Q r
section Pure
variable {ρ α σ : Type} {Q Q' : ρ → Prop}
theorem Rt_some {r : ρ} (h : Q r) : Rt (some r) Q := ⟨r, rfl, h⟩
theorem Rt_bind {F : Option α} {g : α → Option ρ} (h : Rt F (fun x => Rt (g x) Q)) : Rt (F.bind g) Q := by
  obtain ⟨x, hx, r, hr, hq⟩ := h
  exact ⟨r, by rw [hx]; exact hr, hq⟩
theorem Rt_bi {F : Option (Int32 × mu_H)} {g : Int32 → mu_H → Option ρ} (h : Rt F (fun q => Rt (g q.1 q.2) Q)) : Rt (bi F g) Q := Rt_bind (F := F) (g := fun q : Int32 × mu_H => g q.1 q.2) h
theorem Rt_gd {b : Bool} {e : Option ρ} (hb : b = true) (h : Rt e Q) : Rt (gd b e) Q := by
  subst hb
  exact h
theorem Rt_bn {v : α} {f : α → Option ρ} (h : Rt (f v) Q) : Rt (bn v f) Q := h
theorem Rt_jn {b : σ → Option ρ} {f : (σ → Option ρ) → Option ρ} (h : Rt (f b) Q) : Rt (jn b f) Q := h
theorem Rt_ite {c : Prop} {d : Decidable c} {a b : Option ρ} (h1 : c → Rt a Q) (h2 : ¬ c → Rt b Q) : Rt (@ite _ c d a b) Q := by
  by_cases hc : c
  · rw [if_pos hc]; exact h1 hc
  · rw [if_neg hc]; exact h2 hc
theorem Rt_mono {e : Option ρ} (h : Rt e Q) (hq : ∀ r, Q r → Q' r) : Rt e Q' := by
  obtain ⟨r, h1, h2⟩ := h
  exact ⟨r, h1, hq r h2⟩
theorem Rt_eq {e e' : Option ρ} (he : e = e') (h : Rt e' Q) : Rt e Q := he ▸ h
theorem Rt_of {e : Option ρ} {r : ρ} (he : e = some r) (h : Q r) : Rt e Q := ⟨r, he, h⟩
/-- a loop: an invariant and a measure that falls -/
theorem Rt_lp {body : (σ → Option ρ) → σ → Option ρ} (I : σ → Prop) (μ : σ → Nat) (hb : ∀ s, I s → ∀ rec : σ → Option ρ, (∀ s', I s' → μ s' < μ s → Rt (rec s') Q) → Rt (body rec s) Q) : ∀ (n : Nat) (s : σ), I s → μ s < n → Rt (lp body n s) Q := by
  intro n
  induction n with
  | zero => intro s _ hn; omega
  | succ n ih => intro s hs hn; exact hb s hs (lp body n) (fun s' hs' hm => ih s' hs' (by omega))
/-- a loop whose states are known: n turns from s 0 to s n -/
theorem lp_run {body : (σ → Option ρ) → σ → Option ρ} (s : Nat → σ) (n : Nat) (hs : ∀ i, i < n → ∀ rec : σ → Option ρ, body rec (s i) = rec (s (i + 1))) : ∀ f, n ≤ f → lp body f (s 0) = lp body (f - n) (s n) := by
  induction n with
  | zero => intro f _; rfl
  | succ n ih =>
    intro f hf
    rw [ih (fun i hi => hs i (by omega)) f (by omega)]
    obtain ⟨k, hk⟩ : ∃ k, f - n = k + 1 := ⟨f - n - 1, by omega⟩
    rw [hk, show f - (n + 1) = k by omega]
    exact hs n (by omega) (lp body k)
theorem lp_end {body : (σ → Option ρ) → σ → Option ρ} (s : Nat → σ) (n : Nat) {v : Option ρ} (hs : ∀ i, i < n → ∀ rec : σ → Option ρ, body rec (s i) = rec (s (i + 1))) (he : ∀ rec : σ → Option ρ, body rec (s n) = v) {f : Nat} (hf : n < f) : lp body f (s 0) = v := by
  rw [lp_run s n hs f (by omega)]
  obtain ⟨k, hk⟩ : ∃ k, f - n = k + 1 := ⟨f - n - 1, by omega⟩
  rw [hk]
  exact he (lp body k)
theorem gd_t {e : Option ρ} : gd true e = e := rfl
theorem gd_of {b : Bool} {e : Option ρ} (h : b = true) : gd b e = e := by rw [h]; rfl
theorem bn_eq {v : α} {f : α → Option ρ} : bn v f = f v := rfl
theorem jn_eq {b : σ → Option ρ} {f : (σ → Option ρ) → Option ρ} : jn b f = f b := rfl
theorem bi_some {x : Int32} {h : mu_H} {g : Int32 → mu_H → Option ρ} : bi (some (x, h)) g = g x h := rfl
theorem bd_some {x : α} {g : α → Option ρ} : (some x).bind g = g x := rfl
end Pure
theorem ui_g {h : mu_H} {a k b j : Nat} {x : Int32} : (ui h a k x).1 b j = if b = a ∧ j = k then x else h.1 b j := by
  simp only [ui, ur]
  by_cases hb : b = a
  · subst hb
    simp only [if_true, true_and, upd]
  · simp [hb]
theorem ui_n {h : mu_H} {a k b : Nat} {x : Int32} (hb : b ≠ a) : (ui h a k x).1 b = h.1 b := ur_n hb
theorem ui_2 {h : mu_H} {a k : Nat} {x : Int32} : (ui h a k x).2 = h.2 := rfl
theorem ui_s {h : mu_H} {a k : Nat} {x : Int32} : (ui h a k x).1 a = upd (h.1 a) k x := ur_1
theorem ul_0 {h : mu_H} {a k : Nat} {x : Int64} : (ul h a k x).1 = h.1 := rfl
theorem upd_s {f : Nat → Int32} {k : Nat} {x : Int32} : upd f k x k = x := by simp [upd]
theorem upd_n {f : Nat → Int32} {k j : Nat} {x : Int32} (h : j ≠ k) : upd f k x j = f j := by simp [upd, h]
theorem nI_lit (n : Nat) : nI n = Int32.ofNat n := rfl
theorem nI_inj {a b : Nat} (ha : a < 2 ^ 31) (hb : b < 2 ^ 31) (h : nI a = nI b) : a = b := (nI_eq ha hb).mp h
/-- where an int lies against a small number -/
theorem i_in (x : Int32) (n : Nat) (hn : n < 2 ^ 31) : (x < 0 ∧ ¬ 0 ≤ x) ∨ (∃ j, j < n ∧ x = nI j) ∨ (nI n ≤ x ∧ ¬ x < 0 ∧ ¬ x < nI n) := by
  rcases pk_ix x hn with h | h | h
  · exact Or.inl ⟨h, fun h2 => by
      have a := Int32.lt_iff_toInt_lt.mp h
      have b := Int32.le_iff_toInt_le.mp h2
      omega⟩
  · refine Or.inr (Or.inr ⟨h, fun h2 => ?_, fun h2 => ?_⟩)
    · have a := Int32.lt_iff_toInt_lt.mp h2
      have b := Int32.le_iff_toInt_le.mp h
      rw [nI_toInt hn] at b
      have c : (0 : Int32).toInt = 0 := rfl
      omega
    · have a := Int32.lt_iff_toInt_lt.mp h2
      have b := Int32.le_iff_toInt_le.mp h
      omega
  · exact Or.inr (Or.inl h)
/-- status, both -/
theorem pp_status {h : mu_H} (hr : ∀ k, k < 5 → h.1 50 k = h.1 69 k) (N : Nat) (a1 : Int32) : ∃ r, f_Owe_status N h a1 = some r ∧ f_Mod_status N h a1 = some r := by
  rcases i_in a1 5 (by decide) with ⟨h1, h2⟩ | ⟨j, hj, rfl⟩ | ⟨h1, h2, h3⟩
  · exact ⟨-1, by simp [f_Owe_status, h1], by simp [f_Mod_status, f_Mod_in, h1]⟩
  · have e1 : ¬ nI j < 0 := nI_pos (by omega)
    have e2 : ¬ (5 : Int32) ≤ nI j := nI_ge (b := 5) hj (by decide)
    have e3 : ¬ (4 : Int32) < nI j := nI_nlt (a := 4) (by omega) (by decide)
    have e4 : ix (nI j) 5 = true := ix_nI hj (by decide)
    refine ⟨h.1 50 j, ?_, ?_⟩
    · simp [f_Owe_status, e1, e2, e4, gd_t, nI_clamp (show j < 2 ^ 31 by omega)]
    · simp [f_Mod_status, f_Mod_in, e1, e3, e4, gd_t, nI_clamp (show j < 2 ^ 31 by omega), hr j hj]
  · have e1 : (5 : Int32) ≤ a1 := h1
    have e2 : (4 : Int32) < a1 := by
      have b := Int32.le_iff_toInt_le.mp h1
      apply Int32.lt_iff_toInt_lt.mpr
      have c : (4 : Int32).toInt = 4 := rfl
      have d : (nI 5).toInt = 5 := rfl
      omega
    exact ⟨-1, by simp [f_Owe_status, h2, e1], by simp [f_Mod_status, f_Mod_in, h2, e2]⟩
