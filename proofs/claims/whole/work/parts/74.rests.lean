/-! rests -/
def gk (k : Nat) : Bool := decide (k = 0 ∨ k = 1 ∨ k = 3)
def ans (rs : Nat → Nat → Bool) (i : Int32) : Nat → Nat → Int32
  | 0, c => if i = -1 then nI c else -1
  | d + 1, c => if (gk ((15 - d) / 4) && (gk ((15 - d) % 4) && rs ((15 - d) / 4) ((15 - d) % 4))) = true then (if nI c = i then nI (10 * ((15 - d) / 4) + (15 - d) % 4) else ans rs i d (c + 1)) else ans rs i d c
theorem ans_s {rs : Nat → Nat → Bool} {i : Int32} {d c x y : Nat} (hd : d < 16) (hx : (15 - d) / 4 = x) (hy : (15 - d) % 4 = y) : ans rs i (d + 1) c = if (gk x && (gk y && rs x y)) = true then (if nI c = i then nI (10 * x + y) else ans rs i d (c + 1)) else ans rs i d c := by
  rw [ans, hx, hy]
section Rests
variable {N s u a b r : Nat} {hc hm : mu_H} {o : Option (List Cla)}
def tst (hc : mu_H) (o : Option (List Cla)) (a b r x y z : Nat) : Bool := decide (¬ gv hc o a b r x y x < gv hc o a b r z y z) && decide (gv hc o a b r x z z ≤ gv hc o a b r x y y)
def rsb (hc : mu_H) (o : Option (List Cla)) (a b r x y : Nat) : Bool := tst hc o a b r x y 0 && (tst hc o a b r x y 1 && tst hc o a b r x y 3)
def pl (j : Nat) : Nat := if j = 0 then 0 else if j = 1 then 1 else 3
theorem pl_7 {j : Nat} (hj : j < 3) : sv_7.getD j 0 = nI (pl j) ∧ pl j < 4 := by
  rcases (show j = 0 ∨ j = 1 ∨ j = 2 by omega) with rfl | rfl | rfl <;> exact ⟨rfl, by decide⟩
theorem ir_s {h : mu_H} {x y j : Nat} (hk : ∀ k, k < 4 → h.1 48 k = nI (efn hc o a r k) ∧ h.1 49 k = nI (efn hc o b r k)) (hx : x < 4) (hy : y < 4) (hj : j < 3) (rec : Int32 → Option Int32) : f_Out_isRest_L11 N h (nI x) (nI y) rec (nI j) = if tst hc o a b r x y (pl j) = true then rec (nI (j + 1)) else some 0 := by
  obtain ⟨e1, e2⟩ := pl_7 hj
  have a1 := (ones_c (N := N) hk e2 hy).1
  have a2 := ones_c (N := N) hk hx hy
  have a3 := (ones_c (N := N) hk hx e2).2
  simp only [f_Out_isRest_L11, show (3 : Int32) = nI 3 from rfl, nI_le_i (show 3 < 2147483648 by decide) (show j < 2147483648 by omega), if_neg (show ¬ 3 ≤ j by omega), ix_nI (show j < 3 by omega) (by decide), gd_t, nI_clamp (show j < 2147483648 by omega), e1, bn_eq, a1, a2.1, a2.2, a3, bd_some, nI_1, tst]
  by_cases c1 : gv hc o a b r x y x < gv hc o a b r (pl j) y (pl j)
  · simp [c1]
  · by_cases c2 : gv hc o a b r x (pl j) (pl j) ≤ gv hc o a b r x y y <;> simp [c1, c2]
theorem ir_c {h : mu_H} {x y : Nat} (hN : 3000 ≤ N) (hk : ∀ k, k < 4 → h.1 48 k = nI (efn hc o a r k) ∧ h.1 49 k = nI (efn hc o b r k)) (hx : x < 4) (hy : y < 4) : f_Out_isRest N h (nI x) (nI y) = some (if rsb hc o a b r x y = true then 1 else 0) := by
  obtain ⟨f, hf⟩ : ∃ f, N = f + 4 := ⟨N - 4, by omega⟩
  rw [f_Out_isRest]
  generalize hb : f_Out_isRest_L11 N h (nI x) (nI y) = body
  have s0 : ∀ rec, body rec (nI 0) = if tst hc o a b r x y 0 = true then rec (nI 1) else some 0 := fun rec => by rw [← hb]; exact ir_s hk hx hy (by decide) rec
  have s1 : ∀ rec, body rec (nI 1) = if tst hc o a b r x y 1 = true then rec (nI 2) else some 0 := fun rec => by rw [← hb]; exact ir_s hk hx hy (by decide) rec
  have s2 : ∀ rec, body rec (nI 2) = if tst hc o a b r x y 3 = true then rec (nI 3) else some 0 := fun rec => by rw [← hb]; exact ir_s hk hx hy (by decide) rec
  have s3 : ∀ rec, body rec (nI 3) = some 1 := fun rec => by rw [← hb]; rfl
  rw [hf]
  show body (lp body (f + 3)) (nI 0) = _
  rw [s0, rsb]
  show (if _ then body (lp body (f + 2)) (nI 1) else _) = _
  rw [s1]
  show (if _ then (if _ then body (lp body (f + 1)) (nI 2) else _) else _) = _
  rw [s2]
  show (if _ then (if _ then (if _ then body (lp body f) (nI 3) else _) else _) else _) = _
  rw [s3]
  cases tst hc o a b r x y 0 <;> cases tst hc o a b r x y 1 <;> cases tst hc o a b r x y 3 <;> rfl
theorem im_s {h : mu_H} {x y k : Nat} (hN : 3000 ≤ N) (hX : Cx hc hm s u o) (hV : VM hm h) (ha : a < u) (hb : b < u) (hr : r < s) (ca : cme hc a r = true) (cb : cme hc b r = true) (hx : x < 4) (hy : y < 4) (hk : k = 0 ∨ k = 1 ∨ k = 3) : ∃ h', VM hm h' ∧ ∀ rec, f_Mod_isRest_L3 N (nI a) (nI b) (nI r) (nI x) (nI y) rec (nI k, h) = if tst hc o a b r x y k = true then rec (nI (k + 1), h') else some (0, h') := by
  have hk4 : k < 4 := by omega
  obtain ⟨h1, v1, w1⟩ := gof_m (N := N) hN hX hV ha hb hr ca cb hk4 hy
  obtain ⟨h2, v2, w2⟩ := gof_m (N := N) hN hX v1 ha hb hr ca cb hx hy
  obtain ⟨h3, v3, w3⟩ := gof_m (N := N) hN hX v2 hb ha hr cb ca hk4 hx
  obtain ⟨h4, v4, w4⟩ := gof_m (N := N) hN hX v3 hb ha hr cb ca hy hx
  rw [gv_sw] at w3 w4
  have hg : ∀ h : mu_H, f_Mod_isGameKind N h (nI k) = some 1 := fun h => by
    rcases hk with rfl | rfl | rfl <;> rfl
  have h10 : ¬ (1 : Int32) = 0 := by decide
  have hb3 : ¬ (3 : Int32) < nI k := nI_nlt (a := 3) (by omega) (by decide)
  by_cases c1 : gv hc o a b r x y x < gv hc o a b r k y k
  · refine ⟨h2, v2, fun rec => ?_⟩
    rw [f_Mod_isRest_L3, if_neg hb3, hg, bd_some, jn_eq, if_neg h10, w1, bi_some, w2, bi_some, if_pos c1, if_neg (by simp [tst, c1])]
  · by_cases c2 : gv hc o a b r x k k ≤ gv hc o a b r x y y
    · refine ⟨h4, v4, fun rec => ?_⟩
      rw [f_Mod_isRest_L3, if_neg hb3, hg, bd_some, jn_eq, if_neg h10, w1, bi_some, w2, bi_some, if_neg c1, w3, bi_some, w4, bi_some, if_pos c2, if_pos (by simp [tst, c1, c2]), nI_1]
    · refine ⟨h4, v4, fun rec => ?_⟩
      rw [f_Mod_isRest_L3, if_neg hb3, hg, bd_some, jn_eq, if_neg h10, w1, bi_some, w2, bi_some, if_neg c1, w3, bi_some, w4, bi_some, if_neg c2, if_neg (by simp [tst, c1, c2])]
theorem im_m {h : mu_H} {x y : Nat} (hN : 3000 ≤ N) (hX : Cx hc hm s u o) (hV : VM hm h) (ha : a < u) (hb : b < u) (hr : r < s) (ca : cme hc a r = true) (cb : cme hc b r = true) (hx : x < 4) (hy : y < 4) : ∃ h', VM hm h' ∧ f_Mod_isRest N h (nI a) (nI b) (nI r) (nI x) (nI y) = some (if rsb hc o a b r x y = true then 1 else 0, h') := by
  obtain ⟨f, hf⟩ : ∃ f, N = f + 5 := ⟨N - 5, by omega⟩
  obtain ⟨h1, v1, e1⟩ := im_s (N := N) (k := 0) hN hX hV ha hb hr ca cb hx hy (by omega)
  obtain ⟨h2, v2, e2⟩ := im_s (N := N) (k := 1) hN hX v1 ha hb hr ca cb hx hy (by omega)
  obtain ⟨h3, v3, e3⟩ := im_s (N := N) (k := 3) hN hX v2 ha hb hr ca cb hx hy (by omega)
  rw [f_Mod_isRest]
  have e22 : ∀ rec, f_Mod_isRest_L3 N (nI a) (nI b) (nI r) (nI x) (nI y) rec (nI 2, h2) = rec (nI 3, h2) := fun rec => rfl
  have e4 : ∀ rec, f_Mod_isRest_L3 N (nI a) (nI b) (nI r) (nI x) (nI y) rec (nI 4, h3) = some (1, h3) := fun rec => rfl
  generalize f_Mod_isRest_L3 N (nI a) (nI b) (nI r) (nI x) (nI y) = body at e1 e2 e3 e22 e4
  rw [hf, rsb]
  show ∃ h', VM hm h' ∧ body (lp body (f + 4)) (nI 0, h) = _
  rw [e1]
  cases t0 : tst hc o a b r x y 0 with
  | false => exact ⟨h1, v1, rfl⟩
  | true =>
    show ∃ h', VM hm h' ∧ body (lp body (f + 3)) (nI 1, h1) = _
    rw [e2]
    cases t1 : tst hc o a b r x y 1 with
    | false => exact ⟨h2, v2, rfl⟩
    | true =>
      show ∃ h', VM hm h' ∧ body (lp body (f + 2)) (nI 2, h2) = _
      rw [e22]
      show ∃ h', VM hm h' ∧ body (lp body (f + 1)) (nI 3, h2) = _
      rw [e3]
      cases t3 : tst hc o a b r x y 3 with
      | false => exact ⟨h3, v3, rfl⟩
      | true =>
        show ∃ h', VM hm h' ∧ body (lp body f) (nI 4, h3) = _
        rw [e4]
        exact ⟨h3, v3, rfl⟩
/-- the class's search -/
theorem ra_i {h : mu_H} {x : Nat} {i : Int32} {k1 : (Int32 × Int32) → Option Int32} {k10 : Int32 → Option Int32} (hN : 3000 ≤ N) (hk : ∀ k, k < 4 → h.1 48 k = nI (efn hc o a r k) ∧ h.1 49 k = nI (efn hc o b r k)) (hx : x < 4) (gx : gk x = true) (h1 : ∀ y, y < 4 → k1 (nI x, nI y) = some (nI (10 * x + y))) (h2 : ∀ c, k10 (nI c) = some (ans (rsb hc o a b r) i (12 - 4 * x) c)) (c : Nat) : lp (f_Out_restAt_L39 N h i k1 (nI x) k10) N (nI c, 0) = some (ans (rsb hc o a b r) i (16 - 4 * x) c) := by
  obtain ⟨f, hf⟩ : ∃ f, N = f + 4 := ⟨N - 4, by omega⟩
  have st : ∀ j c, j < 3 → ∀ rec, f_Out_restAt_L39 N h i k1 (nI x) k10 rec (nI c, nI j) = if rsb hc o a b r x (pl j) = true then (if nI c = i then some (nI (10 * x + pl j)) else rec (nI (c + 1), nI (j + 1))) else rec (nI c, nI (j + 1)) := by
    intro j c hj rec
    obtain ⟨e1, e2⟩ := pl_7 hj
    simp only [f_Out_restAt_L39, show (3 : Int32) = nI 3 from rfl, nI_le_i (show 3 < 2147483648 by decide) (show j < 2147483648 by omega), if_neg (show ¬ 3 ≤ j by omega), ix_nI (show j < 3 by omega) (by decide), gd_t, nI_clamp (show j < 2147483648 by omega), e1, bn_eq, ir_c hN hk hx e2, bd_some, jn_eq, nI_1, h1 _ e2]
    cases rsb hc o a b r x (pl j) <;> rfl
  have en : ∀ c rec, f_Out_restAt_L39 N h i k1 (nI x) k10 rec (nI c, nI 3) = k10 (nI c) := fun c rec => rfl
  generalize f_Out_restAt_L39 N h i k1 (nI x) k10 = body at st en
  rw [hf]
  have a0 : ∀ c, ans (rsb hc o a b r) i (16 - 4 * x) c = if rsb hc o a b r x 0 = true then (if nI c = i then some (nI (10 * x + 0)) else some (ans (rsb hc o a b r) i (15 - 4 * x) (c + 1))) else some (ans (rsb hc o a b r) i (15 - 4 * x) c) := by
    intro c
    rw [show 16 - 4 * x = 15 - 4 * x + 1 by omega, ans_s (x := x) (y := 0) (by omega) (by omega) (by omega), gx, Bool.true_and, show gk 0 = true from rfl, Bool.true_and]
    split
    · split <;> rfl
    · rfl
  have a1 : ∀ c, ans (rsb hc o a b r) i (15 - 4 * x) c = if rsb hc o a b r x 1 = true then (if nI c = i then some (nI (10 * x + 1)) else some (ans (rsb hc o a b r) i (13 - 4 * x) (c + 1))) else some (ans (rsb hc o a b r) i (13 - 4 * x) c) := by
    intro c
    have sk : ∀ c, ans (rsb hc o a b r) i (14 - 4 * x) c = ans (rsb hc o a b r) i (13 - 4 * x) c := by
      intro c
      rw [show 14 - 4 * x = 13 - 4 * x + 1 by omega, ans_s (x := x) (y := 2) (by omega) (by omega) (by omega), gx, Bool.true_and, show gk 2 = false from rfl, Bool.false_and]
      rfl
    rw [show 15 - 4 * x = 14 - 4 * x + 1 by omega, ans_s (x := x) (y := 1) (by omega) (by omega) (by omega), gx, Bool.true_and, show gk 1 = true from rfl, Bool.true_and, sk, sk]
    split
    · split <;> rfl
    · rfl
  have a3 : ∀ c, ans (rsb hc o a b r) i (13 - 4 * x) c = if rsb hc o a b r x 3 = true then (if nI c = i then some (nI (10 * x + 3)) else some (ans (rsb hc o a b r) i (12 - 4 * x) (c + 1))) else some (ans (rsb hc o a b r) i (12 - 4 * x) c) := by
    intro c
    rw [show 13 - 4 * x = 12 - 4 * x + 1 by omega, ans_s (x := x) (y := 3) (by omega) (by omega) (by omega), gx, Bool.true_and, show gk 3 = true from rfl, Bool.true_and]
    split
    · split <;> rfl
    · rfl
  have b3 : ∀ c, body (lp body (f + 1)) (nI c, nI 2) = some (ans (rsb hc o a b r) i (13 - 4 * x) c) := by
    intro c
    have e : ∀ c, lp body (f + 1) (nI c, nI (2 + 1)) = some (ans (rsb hc o a b r) i (12 - 4 * x) c) := fun c => (en c _).trans (h2 c)
    rw [st 2 c (by decide), a3, e, e]
    rfl
  have b1 : ∀ c, body (lp body (f + 2)) (nI c, nI 1) = some (ans (rsb hc o a b r) i (15 - 4 * x) c) := by
    intro c
    have e : ∀ c, lp body (f + 2) (nI c, nI (1 + 1)) = some (ans (rsb hc o a b r) i (13 - 4 * x) c) := b3
    rw [st 1 c (by decide), a1, e, e]
    rfl
  show body (lp body (f + 3)) (nI c, nI 0) = _
  have e : ∀ c, lp body (f + 3) (nI c, nI (0 + 1)) = some (ans (rsb hc o a b r) i (15 - 4 * x) c) := b1
  rw [st 0 c (by decide), a0, e, e]
  rfl
end Rests
