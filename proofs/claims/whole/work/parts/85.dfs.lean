/-! the model's ways: a search in depth -/
set_option maxRecDepth 100000 in
set_option maxHeartbeats 4000000 in
theorem or_dec : ∀ r : Fin 9, ∀ v : Fin 512, v.val.testBit r.val = false → v.val ||| 2 ^ r.val = v.val + 2 ^ r.val := by decide
theorem or_add {v r : Nat} (hv : v < 512) (hr : r < 9) (h : ¬ v.testBit r = true) : v ||| 2 ^ r = v + 2 ^ r := or_dec ⟨r, hr⟩ ⟨v, hv⟩ (by simpa using h)
def Rp (h : mu_H) (σ : Option Nat) : Prop := match σ with
  | none => h.1 51 36 = -1
  | some v => v < 1000000 ∧ h.1 51 36 = nI (v % 512) ∧ h.1 51 37 = nI (v / 512)
def VW (hm : mu_H) : mu_H → Prop := sM [] [36, 37] hm
/-- what a search leaves: σ' is the least of σ and of all that it goes through -/
def Lst (σ σ' : Option Nat) (P : Nat → Prop) : Prop := (σ' = σ ∨ ∃ v, P v ∧ σ' = some v) ∧ (∀ v, P v → ∃ v', σ' = some v' ∧ v' ≤ v) ∧ (∀ v, σ = some v → ∃ v', σ' = some v' ∧ v' ≤ v)
theorem Lst_refl {σ : Option Nat} {P : Nat → Prop} (h : ∀ v, ¬ P v) : Lst σ σ P := ⟨Or.inl rfl, fun v hv => absurd hv (h v), fun v hv => ⟨v, hv, Nat.le_refl v⟩⟩
theorem Lst_trans {a b c : Option Nat} {P Q R : Nat → Prop} (h1 : Lst a b P) (h2 : Lst b c Q) (hR : ∀ v, R v ↔ P v ∨ Q v) : Lst a c R := by
  obtain ⟨a1, a2, a3⟩ := h1
  obtain ⟨b1, b2, b3⟩ := h2
  refine ⟨?_, fun v hv => ?_, fun v hv => ?_⟩
  · rcases b1 with b1 | ⟨v, b1, b4⟩
    · rcases a1 with a1 | ⟨v, a1, a4⟩
      · exact Or.inl (b1.trans a1)
      · exact Or.inr ⟨v, (hR v).mpr (Or.inl a1), b1.trans a4⟩
    · exact Or.inr ⟨v, (hR v).mpr (Or.inr b1), b4⟩
  · rcases (hR v).mp hv with h | h
    · obtain ⟨v1, e1, l1⟩ := a2 v h
      obtain ⟨v2, e2, l2⟩ := b3 v1 e1
      exact ⟨v2, e2, by omega⟩
    · exact b2 v h
  · obtain ⟨v1, e1, l1⟩ := a3 v hv
    obtain ⟨v2, e2, l2⟩ := b3 v1 e1
    exact ⟨v2, e2, by omega⟩
section Dfs
variable {N s u g : Nat} {hc hm : mu_H}
/-- the values of the ways on from p -/
def Vs (hc : mu_H) (s g been p bits wear : Nat) (v : Nat) : Prop := ∃ m w b, Sp s (eaH hc) (ebH hc) (wrH hc) g m been p w b ∧ v = 512 * (wear + w) + (bits + b)
/-- those that go on by stretch r -/
def Vr (hc : mu_H) (s g been p bits wear r : Nat) (v : Nat) : Prop := ∃ p', Eg s (eaH hc) (ebH hc) r p p' ∧ ¬ been.testBit p' = true ∧ Vs hc s g (been ||| 2 ^ p') p' (bits + 2 ^ r) (wear + wrH hc r) v
theorem Vs_r {been p bits wear v : Nat} (hpg : ¬ p = g) : Vs hc s g been p bits wear v ↔ ∃ r, r < s ∧ Vr hc s g been p bits wear r v := by
  constructor
  · rintro ⟨m, w, b, h, rfl⟩
    cases m with
    | zero => exact absurd h.1 hpg
    | succ m =>
      obtain ⟨-, r, p', w', b', e, hb, h, rfl, rfl⟩ := h
      exact ⟨r, e.1, p', e, hb, m, w', b', h, by omega⟩
  · rintro ⟨r, hr, p', e, hb, m, w', b', h, rfl⟩
    exact ⟨m + 1, wrH hc r + w', 2 ^ r + b', ⟨hpg, r, p', w', b', e, hb, h, rfl, rfl⟩, by omega⟩
theorem at_goal {h : mu_H} {σ : Option Nat} {been p bits wear : Nat} (hp : p < 8) (hbits : bits < 512) (hwear : wear ≤ 1000) (hR : Rp h σ) (hV : VW hm h) (rf : mu_H → Int32 → Int32 → Int32 → Int32 → Int32 → Option mu_H) : ∃ h' σ', f_Mod_tryWay_B N rf h (nI p) (nI p) (nI been) (nI bits) (nI wear) = some h' ∧ VW hm h' ∧ Rp h' σ' ∧ Lst σ σ' (fun v => v = 512 * wear + bits) := by
  have hV2 : VW hm (ui (ui h 51 36 (nI bits)) 51 37 (nI wear)) := sM_trans (sM_trans hV (sM_u5 (by decide))) (sM_u5 (by decide))
  have hR2 : Rp (ui (ui h 51 36 (nI bits)) 51 37 (nI wear)) (some (512 * wear + bits)) := by
    refine ⟨by omega, ?_, ?_⟩
    · rw [show (512 * wear + bits) % 512 = bits by omega]; simp [ui_g]
    · rw [show (512 * wear + bits) / 512 = wear by omega]; simp [ui_g]
  have set : (∀ v, σ = some v → 512 * wear + bits ≤ v) → Lst σ (some (512 * wear + bits)) (fun v => v = 512 * wear + bits) := fun h => ⟨Or.inr ⟨_, rfl, rfl⟩, fun v hv => ⟨_, rfl, by omega⟩, fun v hv => ⟨_, rfl, h v hv⟩⟩
  have kep : ∀ v, σ = some v → v ≤ 512 * wear + bits → Lst σ σ (fun v => v = 512 * wear + bits) := fun v hv hl => ⟨Or.inl rfl, fun w hw => ⟨v, hv, by omega⟩, fun w hw => ⟨w, hw, Nat.le_refl w⟩⟩
  simp only [f_Mod_tryWay_B, if_true, jn_eq, bn_eq]
  cases hσ : σ with
  | none =>
    rw [hσ] at hR
    have hR : h.1 51 36 = -1 := hR
    refine ⟨_, some (512 * wear + bits), by rw [if_pos hR], hV2, hR2, ?_⟩
    rw [← hσ]
    exact set (fun v hv => by rw [hσ] at hv; exact absurd hv (by simp))
  | some v =>
    rw [hσ] at hR
    obtain ⟨r1, r2, r3⟩ := hR
    have n1 : ¬ h.1 51 36 = -1 := fun q => by rw [r2, neg1 (by omega)] at q; exact q
    rw [if_neg n1, r3, r2]
    by_cases c1 : wear < v / 512
    · refine ⟨_, some (512 * wear + bits), by rw [if_pos ((nI_ltI (by omega) (by omega)).mpr c1)], hV2, hR2, ?_⟩
      rw [← hσ]
      exact set (fun w hw => by rw [hσ] at hw; cases hw; omega)
    · rw [if_neg (fun q => c1 ((nI_ltI (by omega) (by omega)).mp q))]
      by_cases c2 : wear = v / 512
      · rw [if_pos (congrArg nI c2)]
        by_cases c3 : v % 512 ≤ bits
        · refine ⟨h, some v, by rw [if_pos ((nI_leI (by omega) (by omega)).mpr c3)], hV, ⟨r1, r2, r3⟩, ?_⟩
          rw [← hσ]
          exact kep v hσ (by omega)
        · refine ⟨_, some (512 * wear + bits), by rw [if_neg (fun q => c3 ((nI_leI (by omega) (by omega)).mp q))], hV2, hR2, ?_⟩
          rw [← hσ]
          exact set (fun w hw => by rw [hσ] at hw; cases hw; omega)
      · refine ⟨h, some v, by rw [if_neg (fun q => c2 (nI_inj (by omega) (by omega) q))], hV, ⟨r1, r2, r3⟩, ?_⟩
        rw [← hσ]
        exact kep v hσ (by omega)
end Dfs
