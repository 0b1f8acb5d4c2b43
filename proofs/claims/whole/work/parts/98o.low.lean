/-! least: the lowest that the class foresees -/
section Low
variable {N u W : Nat} {K0 ri : Nat → Nat} {fx : Nat → Nat → Nat} {h : mu_H}
theorem lwr_s {d w : Nat} : lwr u K0 fx (d + 1) w = fold (fun a x => if 0 < K0 a then min x (lwr u K0 fx d (fx a w)) else x) w u := rfl
theorem fold_le {f : Nat → Nat} {w : Nat} : ∀ n, fold (fun a x => if 0 < K0 a then min x (f a) else x) w n ≤ w := by
  intro n
  induction n with
  | zero => exact Nat.le_refl w
  | succ n ih =>
    show (if 0 < K0 n then min _ (f n) else _) ≤ w
    split <;> omega
theorem lwr_le : ∀ d w, lwr u K0 fx d w ≤ w := by
  intro d w
  cases d with
  | zero => exact Nat.le_refl w
  | succ d => rw [lwr_s]; exact fold_le u
/-- what the days left -/
def Fo (h : mu_H) (u W : Nat) (K0 ri : Nat → Nat) (fx : Nat → Nat → Nat) : Prop := h.1 3 3 = nI u ∧ u ≤ 6 ∧ W ≤ 99 ∧ (∀ a w, fx a w ≤ w) ∧ (∀ a, a < u → h.1 43 a = nI (K0 a) ∧ K0 a ≤ 9) ∧ (∀ t, t < 100 → h.1 45 t = nI (ri t) ∧ ri t ≤ 1000) ∧ ∀ a w, a < u → 0 < K0 a → w ≤ W → ri w < 6 → h.1 44 (100 * a + w) = nI (fx a w) ∧ ri (fx a w) ≤ ri w + 1
def PG (u W : Nat) (K0 ri : Nat → Nat) (fx : Nat → Nat → Nat) (d w0 : Nat) (G : Nat → Int32) : Prop := ∀ d' w, (d' < d ∨ (d' = d ∧ w < w0)) → d' ≤ 6 → w ≤ W → ri w + d' ≤ 6 → G (100 * d' + w) = nI (lwr u K0 fx d' w)
theorem lo_41 {d w : Nat} {G : Nat → Int32} (hN : 3000 ≤ N) (hF : Fo h u W K0 ri fx) (hd : d < 6) (hw : w ≤ W) (hG : PG u W K0 ri fx (d + 1) w G) : ∃ x, (ri w + (d + 1) ≤ 6 → x = lwr u K0 fx (d + 1) w) ∧ ∀ k11 : Int32 → Option mu_H, lp (f_Out_foreseeLowest_L41 N (nI (d + 1)) (nI w) (ur h 46 G) k11) N (nI w, 0) = k11 (nI x) := by
  obtain ⟨e3, hu, hW, hfx, h43, h45, h44⟩ := hF
  have q3 : (ur h 46 G).1 3 3 = nI u := by rw [ur_n (by decide)]; exact e3
  obtain ⟨r1, r2⟩ := h45 w (by omega)
  have q45 : (ur h 46 G).1 45 w = nI (ri w) := by rw [ur_n (by decide)]; exact r1
  have iw : ix (nI w) 100 = true := ix_nI (by omega) (by decide)
  have cw := nI_clamp (show w < 2147483648 by omega)
  by_cases c6 : ri w + (d + 1) ≤ 6
  · refine ⟨_, fun _ => rfl, fun k11 => ?_⟩
    rw [lwr_s]
    have n6 : ¬ (6 : Int32) < nI (ri w + (d + 1)) := fun q => by have := (nI_ltI (a := 6) (by decide) (by omega)).mp q; omega
    refine lp_end (body := f_Out_foreseeLowest_L41 N (nI (d + 1)) (nI w) (ur h 46 G) k11) (fun i => (nI (fold (fun a x => if 0 < K0 a then min x (lwr u K0 fx d (fx a w)) else x) w i), nI i)) u ?_ ?_ (f := N) (by omega)
    · intro i hi rec
      show f_Out_foreseeLowest_L41 N (nI (d + 1)) (nI w) (ur h 46 G) k11 rec (nI (fold (fun a x => if 0 < K0 a then min x (lwr u K0 fx d (fx a w)) else x) w i), nI i) = rec (nI (if 0 < K0 i then min (fold (fun a x => if 0 < K0 a then min x (lwr u K0 fx d (fx a w)) else x) w i) (lwr u K0 fx d (fx i w)) else fold (fun a x => if 0 < K0 a then min x (lwr u K0 fx d (fx a w)) else x) w i), nI (i + 1))
      have fl := fold_le (K0 := K0) (f := fun a => lwr u K0 fx d (fx a w)) (w := w) i
      generalize fold (fun a x => if 0 < K0 a then min x (lwr u K0 fx d (fx a w)) else x) w i = X at *
      obtain ⟨k1, k2⟩ := h43 i hi
      have q43 : (ur h 46 G).1 43 i = nI (K0 i) := by rw [ur_n (by decide)]; exact k1
      have nu : ¬ nI u ≤ nI i := fun q => by have := (nI_leI (by omega) (by omega)).mp q; omega
      by_cases c0 : K0 i = 0
      · rw [if_neg (by omega), f_Out_foreseeLowest_L41, f_Par_houses, q3, bd_some, if_neg nu, iw, gd_t, cw, q45, nI_add, if_neg n6, ix_nI (show i < 6 by omega) (by decide), gd_t, jn_eq, nI_clamp (show i < 2147483648 by omega), q43, c0, if_pos (show nI 0 ≤ (0 : Int32) by decide), nI_1]
      · obtain ⟨b1, b2⟩ := h44 i w hi (by omega) hw (by omega)
        have q44 : (ur h 46 G).1 44 (100 * i + w) = nI (fx i w) := by rw [ur_n (by decide)]; exact b1
        have fw := hfx i w
        have lw := lwr_le (u := u) (K0 := K0) (fx := fx) d (fx i w)
        have qG : (ur h 46 G).1 46 (100 * d + fx i w) = nI (lwr u K0 fx d (fx i w)) := by
          rw [ur_1]; exact hG d (fx i w) (Or.inl (by omega)) (by omega) (by omega) (by omega)
        have nle : ¬ nI (K0 i) ≤ 0 := fun q => c0 ((nI_le0 (by omega)).mp q)
        have s1 : nI i * 100 + nI w = nI (100 * i + w) := by rw [show (100 : Int32) = nI 100 from rfl, pk_mul, nI_add, Nat.mul_comm]
        have s2 : nI d * 100 + nI (fx i w) = nI (100 * d + fx i w) := by rw [show (100 : Int32) = nI 100 from rfl, pk_mul, nI_add, Nat.mul_comm]
        rw [if_pos (show 0 < K0 i by omega), f_Out_foreseeLowest_L41, f_Par_houses, q3, bd_some, if_neg nu, iw, gd_t, cw, q45, nI_add, if_neg n6, ix_nI (show i < 6 by omega) (by decide), gd_t, jn_eq, nI_clamp (show i < 2147483648 by omega), q43, if_neg nle, s1, ix_nI (show 100 * i + w < 600 by omega) (by decide), gd_t, nI_clamp (show 100 * i + w < 2147483648 by omega), q44, sub1 (by omega), s2, ix_nI (show 100 * d + fx i w < 700 by omega) (by decide), gd_t, bn_eq, nI_clamp (show 100 * d + fx i w < 2147483648 by omega), qG, mmin_n (by omega) (by omega), nI_1]
    · intro rec
      show f_Out_foreseeLowest_L41 N (nI (d + 1)) (nI w) (ur h 46 G) k11 rec (_, nI u) = _
      rw [f_Out_foreseeLowest_L41, f_Par_houses, q3, bd_some, if_pos ((nI_leI (by omega) (by omega)).mpr (Nat.le_refl u))]
  · refine ⟨w, fun q => absurd q c6, fun k11 => ?_⟩
    obtain ⟨M, rfl⟩ : ∃ q, N = q + 1 := ⟨N - 1, by omega⟩
    rw [lp_1, f_Out_foreseeLowest_L41, f_Par_houses, q3, bd_some]
    by_cases cu : nI u ≤ 0
    · rw [if_pos cu]
    · rw [if_neg cu, iw, gd_t, cw, q45, nI_add, if_pos (show (6 : Int32) < nI (ri w + (d + 1)) from (nI_ltI (a := 6) (by decide) (by omega)).mpr (by omega))]
theorem lo_30 {d : Nat} (hN : 3000 ≤ N) (hF : Fo h u W K0 ri fx) (hd : d < 6) : ∀ e w g G, w + e = W + 1 → e < g → PG u W K0 ri fx (d + 1) w G → ∃ G', PG u W K0 ri fx (d + 1) (W + 1) G' ∧ ∀ k6, lp (f_Out_foreseeLowest_L30 N (nI W) (nI (d + 1)) k6) g (nI w, ur h 46 G) = k6 (ur h 46 G') := by
  have hW := hF.2.2.1
  intro e
  induction e with
  | zero =>
    intro w g G hw hg hG
    obtain ⟨g, rfl⟩ : ∃ q, g = q + 1 := ⟨g - 1, by omega⟩
    have : w = W + 1 := by omega
    subst this
    refine ⟨G, hG, fun k6 => ?_⟩
    rw [lp_1, f_Out_foreseeLowest_L30, if_pos ((nI_ltI (by omega) (by omega)).mpr (by omega))]
  | succ e ih =>
    intro w g G hw hg hG
    obtain ⟨g, rfl⟩ : ∃ q, g = q + 1 := ⟨g - 1, by omega⟩
    have i1 : nI (d + 1) * 100 + nI w = nI (100 * (d + 1) + w) := by rw [show (100 : Int32) = nI 100 from rfl, pk_mul, nI_add, Nat.mul_comm]
    obtain ⟨x, hx, key⟩ := lo_41 (N := N) hN hF hd (show w ≤ W by omega) hG
    have hG' : PG u W K0 ri fx (d + 1) (w + 1) (upd G (100 * (d + 1) + w) (nI x)) := by
      intro d' w' h1 h2 h3 h4
      by_cases q : d' = d + 1 ∧ w' = w
      · obtain ⟨rfl, rfl⟩ := q
        rw [upd_s, hx h4]
      · rw [upd_n (by omega)]
        exact hG d' w' (by omega) h2 h3 h4
    obtain ⟨G', g1, g2⟩ := ih (w + 1) g (upd G (100 * (d + 1) + w) (nI x)) (by omega) (by omega) hG'
    refine ⟨G', g1, fun k6 => ?_⟩
    rw [lp_1, f_Out_foreseeLowest_L30, if_neg (fun q => by have := (nI_ltI (by omega) (by omega)).mp q; omega), jn_eq, key, i1, ix_nI (by omega) (by decide), gd_t, bn_eq, nI_clamp (by omega), ui_ur, nI_1]
    exact g2 k6
theorem lo_22 (hN : 3000 ≤ N) (hF : Fo h u W K0 ri fx) : ∀ e d g G, d + e = 6 → e < g → PG u W K0 ri fx (d + 1) 0 G → ∃ G', PG u W K0 ri fx 7 0 G' ∧ lp (f_Out_foreseeLowest_L22 N (nI W)) g (nI (d + 1), ur h 46 G) = some (ur h 46 G') := by
  have hW := hF.2.2.1
  intro e
  induction e with
  | zero =>
    intro d g G hd hg hG
    obtain ⟨g, rfl⟩ : ∃ q, g = q + 1 := ⟨g - 1, by omega⟩
    have : d = 6 := by omega
    subst this
    refine ⟨G, hG, ?_⟩
    rw [lp_1, f_Out_foreseeLowest_L22, if_pos (show (6 : Int32) < nI (6 + 1) by decide)]
  | succ e ih =>
    intro d g G hd hg hG
    obtain ⟨g, rfl⟩ : ∃ q, g = q + 1 := ⟨g - 1, by omega⟩
    obtain ⟨G1, g1, g2⟩ := lo_30 (N := N) hN hF (show d < 6 by omega) (W + 1) 0 N G (by omega) (by omega) hG
    obtain ⟨G2, g3, g4⟩ := ih (d + 1) g G1 (by omega) (by omega) (fun d' w h1 h2 h3 h4 => g1 d' w (by omega) h2 h3 h4)
    refine ⟨G2, g3, ?_⟩
    rw [lp_1, f_Out_foreseeLowest_L22, if_neg (fun q => by have := (nI_ltI (a := 6) (by decide) (by omega)).mp q; omega), jn_eq]
    have g2' := g2 (fun h7 => lp (f_Out_foreseeLowest_L22 N (nI W)) g (nI (d + 1) + 1, h7))
    have g2' : lp (f_Out_foreseeLowest_L30 N (nI W) (nI (d + 1)) (fun h7 => lp (f_Out_foreseeLowest_L22 N (nI W)) g (nI (d + 1) + 1, h7))) N (0, ur h 46 G) = lp (f_Out_foreseeLowest_L22 N (nI W)) g (nI (d + 1) + 1, ur h 46 G1) := g2'
    rw [g2', nI_1]
    exact g4
theorem lo_all (hN : 3000 ≤ N) (hF : Fo h u W K0 ri fx) : ∃ G, PG u W K0 ri fx 7 0 G ∧ f_Out_foreseeLowest N h (nI W) = some (ur h 46 G) := by
  have hW := hF.2.2.1
  have d1 : ∀ k1 : mu_H → Option mu_H, lp (f_Out_foreseeLowest_L2 (nI W) k1) N (0, h) = k1 (ur h 46 (fun c => if c < W + 1 then nI c else h.1 46 c)) := by
    intro k1
    have e0 : ur h 46 (fun c => if c < 0 then nI c else h.1 46 c) = h := ur_0 (by funext c; rw [if_neg (by omega)])
    have := lp_end (body := f_Out_foreseeLowest_L2 (nI W) k1) (fun i => (nI i, ur h 46 (fun c => if c < i then nI c else h.1 46 c))) (W + 1) (v := k1 (ur h 46 (fun c => if c < W + 1 then nI c else h.1 46 c))) (fun i hi rec => by
      show f_Out_foreseeLowest_L2 (nI W) k1 rec (nI i, _) = _
      rw [f_Out_foreseeLowest_L2, if_neg (fun q => by have := (nI_ltI (by omega) (by omega)).mp q; omega), ix_nI (by omega) (by decide), gd_t, bn_eq, nI_clamp (by omega), ui_ur, nI_1]
      congr 3
      funext c
      by_cases q : c = i
      · subst q; rw [upd_s, if_pos (by omega)]
      · rw [upd_n q]
        by_cases w : c < i
        · rw [if_pos w, if_pos (by omega)]
        · rw [if_neg w, if_neg (by omega)]) (fun rec => by
      show f_Out_foreseeLowest_L2 (nI W) k1 rec (nI (W + 1), _) = _
      rw [f_Out_foreseeLowest_L2, if_pos ((nI_ltI (by omega) (by omega)).mpr (by omega))]) (f := N) (by omega)
    rw [e0] at this
    exact this
  obtain ⟨G, g1, g2⟩ := lo_22 (N := N) hN hF 6 0 N (fun c => if c < W + 1 then nI c else h.1 46 c) (by omega) (by omega) (fun d' w h1 h2 h3 h4 => by
    have : d' = 0 := by omega
    subst this
    show (if 100 * 0 + w < W + 1 then nI (100 * 0 + w) else h.1 46 (100 * 0 + w)) = nI w
    rw [if_pos (by omega)]; congr 1; omega)
  refine ⟨G, g1, ?_⟩
  rw [f_Out_foreseeLowest, jn_eq, d1]
  exact g2
/-- the tables of the class -/
theorem lo_tab (hN : 3000 ≤ N) (hF : Fo h u W K0 ri fx) : ∃ G, f_Out_foreseeLowest N h (nI W) = some (ur h 46 G) ∧ Tab (ur h 46 G) u W K0 ri fx := by
  obtain ⟨G, g1, g2⟩ := lo_all (N := N) hN hF
  obtain ⟨e3, hu, hW, hfx, h43, h45, h44⟩ := hF
  refine ⟨G, g2, by rw [ur_n (by decide)]; exact e3, hu, hW, hfx, fun a w a1 a2 a3 a4 => by rw [ur_n (by decide)]; exact h44 a w a1 a2 a3 a4, fun d w d1 d2 d3 => by rw [ur_1]; exact g1 d w (Or.inl (by omega)) d1 d2 d3, lwr_le⟩
end Low
