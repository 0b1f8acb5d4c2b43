/-! rests: the class's outer loop, the model's loops, the call -/
section Rests
variable {N s u a b r : Nat} {hc hm : mu_H} {o : Option (List Cla)}
theorem ans_sk {rs : Nat → Nat → Bool} {i : Int32} (c : Nat) : ans rs i 8 c = ans rs i 4 c := by
  have e : ∀ d, 4 ≤ d → d < 8 → ans rs i (d + 1) c = ans rs i d c := fun d h1 h2 => by
    rw [ans_s (x := 2) (y := (15 - d) % 4) (by omega) (by omega) rfl, show gk 2 = false from rfl, Bool.false_and]
    rfl
  rw [e 7 (by decide) (by decide), e 6 (by decide) (by decide), e 5 (by decide) (by decide), e 4 (by decide) (by decide)]
theorem ra_c {h : mu_H} {i : Int32} (hN : 3000 ≤ N) (hk : ∀ k, k < 4 → h.1 48 k = nI (efn hc o a r k) ∧ h.1 49 k = nI (efn hc o b r k)) : f_Out_restAt N h i = some (ans (rsb hc o a b r) i 16 0) := by
  obtain ⟨f, hf⟩ : ∃ f, N = f + 4 := ⟨N - 4, by omega⟩
  simp only [f_Out_restAt, jn_eq]
  generalize hk1 : (fun ((x2, x3) : Int32 × Int32) => some ((10 * x2) + x3)) = k1
  generalize hk4 : (fun x5 : Int32 => if i = (-1) then some x5 else some (-1)) = k4
  have h1 : ∀ x y, x < 4 → y < 4 → k1 (nI x, nI y) = some (nI (10 * x + y)) := fun x y hx hy => by
    rw [← hk1]
    show some (10 * nI x + nI y) = _
    rw [show (10 : Int32) = nI 10 from rfl, pk_mul, nI_add]
  have st : ∀ j c, j < 3 → ∀ rec, (∀ c, rec (nI c, nI (j + 1)) = some (ans (rsb hc o a b r) i (12 - 4 * pl j) c)) → f_Out_restAt_L13 N h i k1 k4 rec (nI c, nI j) = some (ans (rsb hc o a b r) i (16 - 4 * pl j) c) := by
    intro j c hj rec hr
    obtain ⟨e1, e2⟩ := pl_7 hj
    have gx : gk (pl j) = true := by
      rcases (show j = 0 ∨ j = 1 ∨ j = 2 by omega) with rfl | rfl | rfl <;> rfl
    simp only [f_Out_restAt_L13, show (3 : Int32) = nI 3 from rfl, nI_le_i (show 3 < 2147483648 by decide) (show j < 2147483648 by omega), if_neg (show ¬ 3 ≤ j by omega), ix_nI (show j < 3 by omega) (by decide), gd_t, nI_clamp (show j < 2147483648 by omega), e1, bn_eq, jn_eq, nI_1]
    exact ra_i hN hk e2 gx (fun y hy => h1 _ y e2 hy) hr c
  have en : ∀ c rec, f_Out_restAt_L13 N h i k1 k4 rec (nI c, nI 3) = k4 (nI c) := fun c rec => rfl
  generalize f_Out_restAt_L13 N h i k1 k4 = body at st en
  have b3 : ∀ c, lp body (f + 1) (nI c, nI (2 + 1)) = some (ans (rsb hc o a b r) i 0 c) := fun c => by
    refine (en c _).trans ?_
    rw [← hk4, ans]
    show (if i = -1 then some (nI c) else some (-1)) = _
    split <;> rfl
  have b2 : ∀ c, lp body (f + 2) (nI c, nI (1 + 1)) = some (ans (rsb hc o a b r) i 8 c) := fun c => by
    rw [ans_sk]
    exact st 2 c (by decide) _ b3
  have b1 : ∀ c, lp body (f + 3) (nI c, nI (0 + 1)) = some (ans (rsb hc o a b r) i 12 c) := fun c => st 1 c (by decide) _ b2
  rw [hf]
  exact st 0 0 (by decide) _ b1
theorem gk_m {h : mu_H} {x : Nat} (hx : x < 4) : f_Mod_isGameKind N h (nI x) = some (if gk x = true then 1 else 0) := by
  rcases (show x = 0 ∨ x = 1 ∨ x = 2 ∨ x = 3 by omega) with rfl | rfl | rfl | rfl <;> rfl
theorem rm_i {x : Nat} {i : Int32} {k2 : (Int32 × Int32 × mu_H) → Option (Int32 × mu_H)} {k13 : (Int32 × mu_H) → Option (Int32 × mu_H)} (hN : 3000 ≤ N) (hX : Cx hc hm s u o) (ha : a < u) (hb : b < u) (hr : r < s) (ca : cme hc a r = true) (cb : cme hc b r = true) (hx : x < 4) (h1 : ∀ y h, y < 4 → k2 (nI x, nI y, h) = some (nI (10 * x + y), h)) (h2 : ∀ c h, VM hm h → ∃ h', VM hm h' ∧ k13 (nI c, h) = some (ans (rsb hc o a b r) i (12 - 4 * x) c, h')) : ∀ e y c h f, y + e = 4 → e < f → VM hm h → ∃ h', VM hm h' ∧ lp (f_Mod_rests_L33 N (nI a) (nI b) (nI r) i k2 (nI x) k13) f (nI c, nI y, h) = some (ans (rsb hc o a b r) i (16 - 4 * x - y) c, h') := by
  have h10 : ¬ (1 : Int32) = 0 := by decide
  intro e
  induction e with
  | zero =>
    intro y c h f hy hf hV
    obtain ⟨g, rfl⟩ : ∃ g, f = g + 1 := ⟨f - 1, by omega⟩
    have : y = 4 := by omega
    subst this
    obtain ⟨h', v, w⟩ := h2 c h hV
    refine ⟨h', v, ?_⟩
    rw [show 16 - 4 * x - 4 = 12 - 4 * x by omega, ← w]
    rfl
  | succ e ih =>
    intro y c h f hy hf hV
    obtain ⟨g, rfl⟩ : ∃ g, f = g + 1 := ⟨f - 1, by omega⟩
    have hy4 : y < 4 := by omega
    have hb3 : ¬ (3 : Int32) < nI y := nI_nlt (a := 3) (by omega) (by decide)
    have ea := fun c => ans_s (rs := rsb hc o a b r) (i := i) (c := c) (d := 16 - 4 * x - (y + 1)) (x := x) (y := y) (by omega) (by omega) (by omega)
    rw [show 16 - 4 * x - (y + 1) + 1 = 16 - 4 * x - y by omega] at ea
    rw [ea]
    show ∃ h', VM hm h' ∧ f_Mod_rests_L33 N (nI a) (nI b) (nI r) i k2 (nI x) k13 (lp (f_Mod_rests_L33 N (nI a) (nI b) (nI r) i k2 (nI x) k13) g) (nI c, nI y, h) = _
    simp only [f_Mod_rests_L33, if_neg hb3, gk_m hx, gk_m hy4, bd_some, jn_eq, nI_1]
    cases g1 : gk x with
    | false =>
      obtain ⟨h', v, w⟩ := ih (y + 1) c h g (by omega) (by omega) hV
      exact ⟨h', v, w⟩
    | true =>
      cases g2 : gk y with
      | false =>
        obtain ⟨h', v, w⟩ := ih (y + 1) c h g (by omega) (by omega) hV
        exact ⟨h', v, w⟩
      | true =>
        obtain ⟨h3, v3, w3⟩ := im_m (N := N) hN hX hV ha hb hr ca cb hx hy4
        simp only [if_true, if_neg h10, w3, bi_some, Bool.true_and]
        cases rr : rsb hc o a b r x y with
        | false =>
          obtain ⟨h', v, w⟩ := ih (y + 1) c h3 g (by omega) (by omega) v3
          exact ⟨h', v, w⟩
        | true =>
          by_cases ci : nI c = i
          · refine ⟨h3, v3, ?_⟩
            simp only [if_true, if_neg h10, if_pos ci]
            exact h1 y h3 hy4
          · obtain ⟨h', v, w⟩ := ih (y + 1) (c + 1) h3 g (by omega) (by omega) v3
            refine ⟨h', v, ?_⟩
            simp only [if_true, if_neg h10, if_neg ci]
            exact w
theorem rm_o {i : Int32} {k2 : (Int32 × Int32 × mu_H) → Option (Int32 × mu_H)} {k6 : (Int32 × mu_H) → Option (Int32 × mu_H)} (hN : 3000 ≤ N) (hX : Cx hc hm s u o) (ha : a < u) (hb : b < u) (hr : r < s) (ca : cme hc a r = true) (cb : cme hc b r = true) (h1 : ∀ x y h, x < 4 → y < 4 → k2 (nI x, nI y, h) = some (nI (10 * x + y), h)) (h2 : ∀ c h, k6 (nI c, h) = some (ans (rsb hc o a b r) i 0 c, h)) : ∀ e x c h f, x + e = 4 → e < f → VM hm h → ∃ h', VM hm h' ∧ lp (f_Mod_rests_L24 N (nI a) (nI b) (nI r) i k2 k6) f (nI c, nI x, h) = some (ans (rsb hc o a b r) i (16 - 4 * x) c, h') := by
  intro e
  induction e with
  | zero =>
    intro x c h f hx hf hV
    obtain ⟨g, rfl⟩ : ∃ g, f = g + 1 := ⟨f - 1, by omega⟩
    have : x = 4 := by omega
    subst this
    refine ⟨h, hV, ?_⟩
    rw [show 16 - 4 * 4 = 0 by omega, ← h2 c h]
    rfl
  | succ e ih =>
    intro x c h f hx hf hV
    obtain ⟨g, rfl⟩ : ∃ g, f = g + 1 := ⟨f - 1, by omega⟩
    have hx4 : x < 4 := by omega
    have hb3 : ¬ (3 : Int32) < nI x := nI_nlt (a := 3) (by omega) (by decide)
    show ∃ h', VM hm h' ∧ f_Mod_rests_L24 N (nI a) (nI b) (nI r) i k2 k6 (lp (f_Mod_rests_L24 N (nI a) (nI b) (nI r) i k2 k6) g) (nI c, nI x, h) = _
    simp only [f_Mod_rests_L24, if_neg hb3, jn_eq, nI_1]
    exact rm_i hN hX ha hb hr ca cb hx4 (fun y h hy => h1 x y h hx4 hy) (fun c h hV => by
      have := ih (x + 1) c h g (by omega) (by omega) hV
      rw [show 16 - 4 * (x + 1) = 12 - 4 * x by omega] at this
      exact this) 4 0 c h N (by omega) (by omega) hV
theorem op_rests (hN : 3000 ≤ N) (a1 a2 a3 a4 : Int32) (hc hm : mu_H) (hI : Inv (mg hc hm)) : ∃ r hc' hm', f_Owe_rests N hc a1 a2 a3 a4 = some (r, hc') ∧ f_Mod_rests N hm a1 a2 a3 a4 = some (r, hm') ∧ (∀ c, 51 ≤ c → hc'.1 c = hc.1 c) ∧ (∀ c, c < 51 → hm'.1 c = hm.1 c) ∧ Inv (mg hc' hm') := by
  obtain ⟨s, u, o, hX⟩ := Cx_of hI
  have h10 : ¬ (1 : Int32) = 0 := by decide
  have hno := V_I hI VC_refl VM_refl
  rcases meet_2 (N := N) hX a1 a2 a3 with ⟨m1, m2⟩ | ⟨m1, m2, a, b, r, ha, hb, hr, rfl, rfl, rfl, ca, cb⟩
  · exact ⟨-1, hc, hm, by simp only [f_Owe_rests, m1, bd_some, if_true], by simp only [f_Mod_rests, m2, bd_some, if_true], hno⟩
  by_cases c : -1 ≤ a4
  · obtain ⟨hc', v1, v2, v3⟩ := setup_c (N := N) hN hX ha hb hr ca cb
    have w := ra_c (N := N) (i := a4) hN v2
    obtain ⟨hm', v4, v5⟩ := rm_o (N := N) (i := a4) (k2 := fun ((x3, x4, h5) : Int32 × Int32 × mu_H) => some ((10 * x3) + x4, h5)) (k6 := fun ((x7, h8) : Int32 × mu_H) => if a4 = (-1) then some (x7, h8) else some ((-1), h8)) hN hX ha hb hr ca cb (fun x y h hx hy => by
      show some (10 * nI x + nI y, h) = _
      rw [show (10 : Int32) = nI 10 from rfl, pk_mul, nI_add]) (fun c h => by
      rw [ans]
      show (if a4 = -1 then some (nI c, h) else some (-1, h)) = _
      split <;> rfl) 4 0 0 hm N (by omega) (by omega) VM_refl
    refine ⟨ans (rsb hc o a b r) a4 16 0, hc', hm', ?_, ?_, V_I hI v1 v4⟩
    · simp only [f_Owe_rests, m1, bd_some, if_neg h10, if_pos c, v3, w]
    · simp only [f_Mod_rests, m2, bd_some, if_neg h10, if_pos c, jn_eq]
      exact v5
  · exact ⟨-1, hc, hm, by simp only [f_Owe_rests, m1, bd_some, if_neg h10, if_neg c], by simp only [f_Mod_rests, m2, bd_some, if_neg h10, if_neg c], hno⟩
end Rests
