/-! reading a law: terms and sums -/
section Sums
variable {N z n : Nat} {T : Nat → Nat} {hc0 hm0 : mu_H}
theorem term_L (hL : Lc N z T n hc0 hm0) {rfc : mu_H → Int32 → Option (Int32 × mu_H)} {rfm : mu_H → Option mu_H} {d b k : Nat} (hb : 241 ≤ b) (hb2 : b < 500) (HE : Pr z n hc0 hm0 (fun h => f_LRd_readAtom_B N rfc h (nI d)) (f_Mod_atom_B N rfm) d b (fun xs => Gd k xs isN)) : ∀ f p x cs ts hc hm g g', z - p = f → f < g → f + 1 < g' → CS hc0 hc p cs → MS hm0 n hm p d ts → p ≤ z → cs.length ≤ p → ts.length ≤ p → x + 1 ≤ p → Rs hc0 hm0 z n (lp (f_LRd_readTerm_L12 N rfc (nI d)) g (nI x, hc)) (bi (f_Mod_look N hm) fun x h => lp (f_Mod_term_L21 N rfm) g' (x, h)) p d cs ts (b + 1) (fun xs => ∀ x0, Gd (k + 1) x0 isN → Gd (k + 1) (x0 ++ xs) isN) := by
  obtain ⟨hTc, hTm, hn, hN⟩ := hL
  have hz := hTc.1
  have h10 : ((1 : Int32) = 0) = False := by decide
  intro f
  induction f using Nat.strongRecOn with
  | _ f ih =>
    intro p x cs ts hc hm g g' hf hg hg' hC hM hp hcs hts hx
    obtain ⟨g, rfl⟩ : ∃ q, g = q + 1 := ⟨g - 1, by omega⟩
    obtain ⟨g', rfl⟩ : ∃ q, g' = q + 1 := ⟨g' - 1, by omega⟩
    obtain ⟨hc1, c1, C1⟩ := CS_next hTc hN hC hp
    obtain ⟨hm1, m1, M1⟩ := MS_look hTm hN hM hp
    obtain ⟨b1, b2, b3⟩ := nb_p (T := T) hp
    have hs := sg_lt hTm (nb T z p)
    have c2 := CS_nx0 (N := N) hTc hN C1 b2 b3
    generalize hq : nb T z p = q at *
    generalize hcc : sg T z q = c at *
    have x240 : ((240 : Int32) ≤ nI x) = False := eq_false (fun w => by have := (nI_leI (a := 240) (by decide) (by omega)).mp w; omega)
    have one : ∀ (t : Nat) (o : Int32), clT (t, 0) = -o → 2 ≤ t → t < 12 → ¬ t = 9 → (∀ a b, isN a → isN b → ∃ v, isN v ∧ op2 t a b = some v) → nI c = o → 0 < c →
        Rs hc0 hm0 z n (bi (f_LRd_readAtom_B N rfc (ui hc1 10 2 (hc1.1 10 2 + 1)) (nI d)) fun x16 h17 => if x16 = 0 then some (0, h17) else (f_Law_add N h17 11 (-(nI c))).bind fun h19 => lp (f_LRd_readTerm_L12 N rfc (nI d)) g (nI (x + 1), h19))
          ((f_Mod_atom_B N rfm (ui hm1 51 3 (hm1.1 51 3 + 1))).bind fun h10 => (f_Mod_put N h10 (nI t) 0).bind fun h13 => if h13.1 51 4 = -1 then bi (f_Mod_look N h13) fun x17 h18 => lp (f_Mod_term_L21 N rfm) g' (x17, h18) else lp (f_Mod_term_L21 N rfm) g' (-1, h13)) p d cs ts (b + 1) (fun xs => ∀ x0, Gd (k + 1) x0 isN → Gd (k + 1) (x0 ++ xs) isN) := by
      intro t o ht t2 t12 t9 hop ho c0
      have hin := sg_in (T := T) (z := z) (p := q) (by omega)
      have C2 := CS_inc C1
      have M2 := MS_inc M1
      rcases HE _ _ (q + 1) cs ts C2 M2 (by omega) (by omega) (by omega) with ⟨e, hc', hm', h1, h2, h3, h4, h5⟩ | ⟨q', xs, hc', hm', h1, h2, h3, h4, h5, h6, h7, h8⟩
      · obtain ⟨hm5, o2, E2⟩ := ME_put (N := N) hn h5 (by omega) (nI t) 0
        have w := ME_w E2 (by omega)
        obtain ⟨g', rfl⟩ : ∃ q, g' = q + 1 := ⟨g' - 1, by omega⟩
        have h2 : f_LRd_readAtom_B N rfc (ui hc1 10 2 (hc1.1 10 2 + 1)) (nI d) = some (0, hc') := h2
        refine Or.inl ⟨e, hc', hm5, h1, ?_, ?_, h4, E2⟩
        · rw [h2, bi_some, if_pos rfl]
        · rw [h3, bd_some, o2, bd_some, if_neg w]
          simp only [lp_1, f_Mod_term_L21, jn_eq, show ((-1 : Int32) = 42) = False by decide, show ((-1 : Int32) = 47) = False by decide, ↓reduceIte]
      · have h3 : f_LRd_readAtom_B N rfc (ui hc1 10 2 (hc1.1 10 2 + 1)) (nI d) = some (1, hc') := h3
        have l1 : (cs ++ xs.map clT).length = cs.length + xs.length := by rw [List.length_append, List.length_map]
        have l2 : (ts ++ xs).length = ts.length + xs.length := by rw [List.length_append]
        obtain ⟨hc3, a1, C3⟩ := CS_add (N := N) h5 (by omega) (-(nI c))
        obtain ⟨hm3, a2, M3⟩ := MS_put (N := N) hn h6 (by omega) t 0
        have a2 : f_Mod_put N hm' (nI t) 0 = some hm3 := a2
        rw [h3, bi_some, if_neg (show ¬ (1 : Int32) = 0 by decide), a1, bd_some, h4, bd_some, a2, bd_some, if_pos M3.2.2.1]
        have l3 : (cs ++ xs.map clT ++ [-(nI c)]).length = cs.length + xs.length + 1 := by rw [List.length_append, l1]; rfl
        have l4 : (ts ++ xs ++ [(t, 0)]).length = ts.length + xs.length + 1 := by rw [List.length_append, l2]; rfl
        have hr := ih (z - q') (by omega) q' (x + 1) _ _ hc3 hm3 g g' rfl (by omega) (by omega) C3 M3 h1 (by omega) (by omega) (by omega)
        rcases hr with ⟨e, hc4, hm4, y1, y2, y3, y4, y5⟩ | ⟨q2, ys, hc4, hm4, y1, y2, y3, y4, y5, y6, y7, y8⟩
        · exact Or.inl ⟨e, hc4, hm4, y1, y2, y3, y4, y5⟩
        · refine Or.inr ⟨q2, xs ++ [(t, 0)] ++ ys, hc4, hm4, y1, ?_, y3, y4, ?_, ?_, ?_, ?_⟩
          · rw [List.length_append, List.length_append]; show xs.length + 1 + ys.length + p ≤ q2; omega
          · rw [List.map_append, List.map_append, ← List.append_assoc, ← List.append_assoc, List.map_cons, List.map_nil, ht, ← ho]; exact y5
          · rw [← List.append_assoc, ← List.append_assoc]; exact y6
          · intro x0 hx0
            rw [← List.append_assoc]
            exact y7 _ (Gd_bin hx0 h7 t2 t9 hop)
          · intro t' ht'
            rw [List.mem_append, List.mem_append, List.mem_singleton] at ht'
            rcases ht' with (w | w) | w
            · exact h8 t' w
            · subst w; exact ⟨t12, fun w2 => absurd w2 (by show ¬ t = 0; omega), fun w2 => absurd w2 (by show ¬ t = 1; omega)⟩
            · exact y8 t' w
    have n1 : (nI c = 42) = (c = 42) := nI_eq_i (b := 42) (by omega) (by decide)
    have n2 : (nI c = 47) = (c = 47) := nI_eq_i (b := 47) (by omega) (by decide)
    have p1 : (mJ c = 42) = (c = 42) := mJ_eq (k := 42) hs (by decide) (by decide)
    have p2 : (mJ c = 47) = (c = 47) := mJ_eq (k := 47) hs (by decide) (by decide)
    by_cases k1 : c = 42
    · have := one 4 42 (by decide) (by decide) (by decide) (by decide) (fun a b ha hb => op2_4 a b) (by rw [k1]; rfl) (by omega)
      rw [eq_true k1] at n1 p1
      rw [m1, bi_some]
      simp only [lp_1, f_LRd_readTerm_L12, f_Mod_term_L21, x240, c1, c2, bi_some, jn_eq, bn_eq, n1, p1, ↓reduceIte, nI_1]
      exact this
    · rw [eq_false k1] at n1 p1
      by_cases k2 : c = 47
      · have := one 5 47 (by decide) (by decide) (by decide) (by decide) (fun a b ha hb => op2_5 a b ha) (by rw [k2]; rfl) (by omega)
        rw [eq_true k2] at n2 p2
        rw [m1, bi_some]
        simp only [lp_1, f_LRd_readTerm_L12, f_Mod_term_L21, x240, c1, c2, bi_some, jn_eq, bn_eq, n1, n2, p1, p2, ↓reduceIte, nI_1]
        exact this
      · rw [eq_false k2] at n2 p2
        refine Or.inr ⟨q, [], hc1, hm1, b2, by show 0 + p ≤ q; omega, ?_, ?_, by rw [List.map_nil, List.append_nil]; exact C1, by rw [List.append_nil]; exact M1, fun x0 h => by rw [List.append_nil]; exact h, fun t ht => absurd ht (by simp)⟩
        · simp only [lp_1, f_LRd_readTerm_L12, x240, c1, c2, bi_some, jn_eq, bn_eq, n1, n2, ↓reduceIte]
        · rw [m1, bi_some]
          simp only [lp_1, f_Mod_term_L21, jn_eq, bn_eq, p1, p2, ↓reduceIte]
theorem term_2 (hL : Lc N z T n hc0 hm0) {rfc : mu_H → Int32 → Option (Int32 × mu_H)} {rfm : mu_H → Option mu_H} {d b k : Nat} (hb : 241 ≤ b) (hb2 : b < 500) (hk : k ≤ 30) (HE : Pr z n hc0 hm0 (fun h => f_LRd_readAtom_B N rfc h (nI d)) (f_Mod_atom_B N rfm) d b (fun xs => Gd k xs isN)) : Pr z n hc0 hm0 (fun h => f_LRd_readTerm_B N rfc h (nI d)) (f_Mod_term_B N rfm) d (b + 1) (fun xs => Gd (k + 1) xs isN) := by
  intro hc hm p cs ts hC hM hp hcs hts
  have hN := hL.2.2.2
  have hz := hL.1.1
  show Rs hc0 hm0 z n (f_LRd_readTerm_B N rfc hc (nI d)) (f_Mod_term_B N rfm hm) p d cs ts (b + 1) _
  rw [f_LRd_readTerm_B, f_Mod_term_B]
  rcases HE _ _ p cs ts hC hM hp hcs hts with ⟨e, hc', hm', h1, h2, h3, h4, h5⟩ | ⟨q', xs, hc', hm', h1, h2, h3, h4, h5, h6, h7, h8⟩
  · have h2 : f_LRd_readAtom_B N rfc hc (nI d) = some (0, hc') := h2
    refine Or.inl ⟨e, hc', hm', h1, ?_, ?_, h4, ME_mono h5 (by omega)⟩
    · rw [h2, bi_some, if_pos rfl]
    · obtain ⟨N', rfl⟩ : ∃ q, N = q + 1 := ⟨N - 1, by omega⟩
      rw [h3, bd_some, jn_eq, if_neg (ME_w h5 (by omega))]
      simp only [lp_1, f_Mod_term_L21, jn_eq, show ((-1 : Int32) = 42) = False by decide, show ((-1 : Int32) = 47) = False by decide, ↓reduceIte]
  · have h3 : f_LRd_readAtom_B N rfc hc (nI d) = some (1, hc') := h3
    have hne := Gd_ne h7 (by omega)
    have l1 : (cs ++ xs.map clT).length = cs.length + xs.length := by rw [List.length_append, List.length_map]
    have l2 : (ts ++ xs).length = ts.length + xs.length := by rw [List.length_append]
    rw [h3, bi_some, if_neg (show ¬ (1 : Int32) = 0 by decide), h4, bd_some, jn_eq, if_pos h6.2.2.1]
    have hr := term_L hL hb hb2 HE (z - q') q' 0 _ _ hc' hm' N N rfl (by omega) (by omega) h5 h6 h1 (by omega) (by omega) (by omega)
    rcases hr with ⟨e, hc4, hm4, y1, y2, y3, y4, y5⟩ | ⟨q2, ys, hc4, hm4, y1, y2, y3, y4, y5, y6, y7, y8⟩
    · exact Or.inl ⟨e, hc4, hm4, y1, y2, y3, y4, y5⟩
    · refine Or.inr ⟨q2, xs ++ ys, hc4, hm4, y1, ?_, y3, y4, ?_, ?_, y7 _ (Gd_mono h7 (by omega)), ?_⟩
      · rw [List.length_append]; omega
      · rw [List.map_append, ← List.append_assoc]; exact y5
      · rw [← List.append_assoc]; exact y6
      · intro t' ht'
        rw [List.mem_append] at ht'
        rcases ht' with w | w
        · exact h8 t' w
        · exact y8 t' w
theorem sum_L (hL : Lc N z T n hc0 hm0) {rfc : mu_H → Int32 → Option (Int32 × mu_H)} {rfm : mu_H → Option mu_H} {d b k : Nat} (hb : 241 ≤ b) (hb2 : b < 500) (HE : Pr z n hc0 hm0 (fun h => f_LRd_readTerm_B N rfc h (nI d)) (f_Mod_term_B N rfm) d b (fun xs => Gd k xs isN)) : ∀ f p x cs ts hc hm g g', z - p = f → f < g → f + 1 < g' → CS hc0 hc p cs → MS hm0 n hm p d ts → p ≤ z → cs.length ≤ p → ts.length ≤ p → x + 1 ≤ p → Rs hc0 hm0 z n (lp (f_LRd_readSum_L12 N rfc (nI d)) g (nI x, hc)) (bi (f_Mod_look N hm) fun x h => lp (f_Mod_sum_L21 N rfm) g' (x, h)) p d cs ts (b + 1) (fun xs => ∀ x0, Gd (k + 1) x0 isN → Gd (k + 1) (x0 ++ xs) isN) := by
  obtain ⟨hTc, hTm, hn, hN⟩ := hL
  have hz := hTc.1
  have h10 : ((1 : Int32) = 0) = False := by decide
  intro f
  induction f using Nat.strongRecOn with
  | _ f ih =>
    intro p x cs ts hc hm g g' hf hg hg' hC hM hp hcs hts hx
    obtain ⟨g, rfl⟩ : ∃ q, g = q + 1 := ⟨g - 1, by omega⟩
    obtain ⟨g', rfl⟩ : ∃ q, g' = q + 1 := ⟨g' - 1, by omega⟩
    obtain ⟨hc1, c1, C1⟩ := CS_next hTc hN hC hp
    obtain ⟨hm1, m1, M1⟩ := MS_look hTm hN hM hp
    obtain ⟨b1, b2, b3⟩ := nb_p (T := T) hp
    have hs := sg_lt hTm (nb T z p)
    have c2 := CS_nx0 (N := N) hTc hN C1 b2 b3
    generalize hq : nb T z p = q at *
    generalize hcc : sg T z q = c at *
    have x240 : ((240 : Int32) ≤ nI x) = False := eq_false (fun w => by have := (nI_leI (a := 240) (by decide) (by omega)).mp w; omega)
    have one : ∀ (t : Nat) (o : Int32), clT (t, 0) = -o → 2 ≤ t → t < 12 → ¬ t = 9 → (∀ a b, isN a → isN b → ∃ v, isN v ∧ op2 t a b = some v) → nI c = o → 0 < c →
        Rs hc0 hm0 z n (bi (f_LRd_readTerm_B N rfc (ui hc1 10 2 (hc1.1 10 2 + 1)) (nI d)) fun x16 h17 => if x16 = 0 then some (0, h17) else (f_Law_add N h17 11 (-(nI c))).bind fun h19 => lp (f_LRd_readSum_L12 N rfc (nI d)) g (nI (x + 1), h19))
          ((f_Mod_term_B N rfm (ui hm1 51 3 (hm1.1 51 3 + 1))).bind fun h10 => (f_Mod_put N h10 (nI t) 0).bind fun h13 => if h13.1 51 4 = -1 then bi (f_Mod_look N h13) fun x17 h18 => lp (f_Mod_sum_L21 N rfm) g' (x17, h18) else lp (f_Mod_sum_L21 N rfm) g' (-1, h13)) p d cs ts (b + 1) (fun xs => ∀ x0, Gd (k + 1) x0 isN → Gd (k + 1) (x0 ++ xs) isN) := by
      intro t o ht t2 t12 t9 hop ho c0
      have hin := sg_in (T := T) (z := z) (p := q) (by omega)
      have C2 := CS_inc C1
      have M2 := MS_inc M1
      rcases HE _ _ (q + 1) cs ts C2 M2 (by omega) (by omega) (by omega) with ⟨e, hc', hm', h1, h2, h3, h4, h5⟩ | ⟨q', xs, hc', hm', h1, h2, h3, h4, h5, h6, h7, h8⟩
      · obtain ⟨hm5, o2, E2⟩ := ME_put (N := N) hn h5 (by omega) (nI t) 0
        have w := ME_w E2 (by omega)
        obtain ⟨g', rfl⟩ : ∃ q, g' = q + 1 := ⟨g' - 1, by omega⟩
        have h2 : f_LRd_readTerm_B N rfc (ui hc1 10 2 (hc1.1 10 2 + 1)) (nI d) = some (0, hc') := h2
        refine Or.inl ⟨e, hc', hm5, h1, ?_, ?_, h4, E2⟩
        · rw [h2, bi_some, if_pos rfl]
        · rw [h3, bd_some, o2, bd_some, if_neg w]
          simp only [lp_1, f_Mod_sum_L21, jn_eq, show ((-1 : Int32) = 43) = False by decide, show ((-1 : Int32) = 45) = False by decide, ↓reduceIte]
      · have h3 : f_LRd_readTerm_B N rfc (ui hc1 10 2 (hc1.1 10 2 + 1)) (nI d) = some (1, hc') := h3
        have l1 : (cs ++ xs.map clT).length = cs.length + xs.length := by rw [List.length_append, List.length_map]
        have l2 : (ts ++ xs).length = ts.length + xs.length := by rw [List.length_append]
        obtain ⟨hc3, a1, C3⟩ := CS_add (N := N) h5 (by omega) (-(nI c))
        obtain ⟨hm3, a2, M3⟩ := MS_put (N := N) hn h6 (by omega) t 0
        have a2 : f_Mod_put N hm' (nI t) 0 = some hm3 := a2
        rw [h3, bi_some, if_neg (show ¬ (1 : Int32) = 0 by decide), a1, bd_some, h4, bd_some, a2, bd_some, if_pos M3.2.2.1]
        have l3 : (cs ++ xs.map clT ++ [-(nI c)]).length = cs.length + xs.length + 1 := by rw [List.length_append, l1]; rfl
        have l4 : (ts ++ xs ++ [(t, 0)]).length = ts.length + xs.length + 1 := by rw [List.length_append, l2]; rfl
        have hr := ih (z - q') (by omega) q' (x + 1) _ _ hc3 hm3 g g' rfl (by omega) (by omega) C3 M3 h1 (by omega) (by omega) (by omega)
        rcases hr with ⟨e, hc4, hm4, y1, y2, y3, y4, y5⟩ | ⟨q2, ys, hc4, hm4, y1, y2, y3, y4, y5, y6, y7, y8⟩
        · exact Or.inl ⟨e, hc4, hm4, y1, y2, y3, y4, y5⟩
        · refine Or.inr ⟨q2, xs ++ [(t, 0)] ++ ys, hc4, hm4, y1, ?_, y3, y4, ?_, ?_, ?_, ?_⟩
          · rw [List.length_append, List.length_append]; show xs.length + 1 + ys.length + p ≤ q2; omega
          · rw [List.map_append, List.map_append, ← List.append_assoc, ← List.append_assoc, List.map_cons, List.map_nil, ht, ← ho]; exact y5
          · rw [← List.append_assoc, ← List.append_assoc]; exact y6
          · intro x0 hx0
            rw [← List.append_assoc]
            exact y7 _ (Gd_bin hx0 h7 t2 t9 hop)
          · intro t' ht'
            rw [List.mem_append, List.mem_append, List.mem_singleton] at ht'
            rcases ht' with (w | w) | w
            · exact h8 t' w
            · subst w; exact ⟨t12, fun w2 => absurd w2 (by show ¬ t = 0; omega), fun w2 => absurd w2 (by show ¬ t = 1; omega)⟩
            · exact y8 t' w
    have n1 : (nI c = 43) = (c = 43) := nI_eq_i (b := 43) (by omega) (by decide)
    have n2 : (nI c = 45) = (c = 45) := nI_eq_i (b := 45) (by omega) (by decide)
    have p1 : (mJ c = 43) = (c = 43) := mJ_eq (k := 43) hs (by decide) (by decide)
    have p2 : (mJ c = 45) = (c = 45) := mJ_eq (k := 45) hs (by decide) (by decide)
    by_cases k1 : c = 43
    · have := one 2 43 (by decide) (by decide) (by decide) (by decide) (fun a b ha hb => op2_2 a b) (by rw [k1]; rfl) (by omega)
      rw [eq_true k1] at n1 p1
      rw [m1, bi_some]
      simp only [lp_1, f_LRd_readSum_L12, f_Mod_sum_L21, x240, c1, c2, bi_some, jn_eq, bn_eq, n1, p1, ↓reduceIte, nI_1]
      exact this
    · rw [eq_false k1] at n1 p1
      by_cases k2 : c = 45
      · have := one 3 45 (by decide) (by decide) (by decide) (by decide) (fun a b ha hb => op2_3 a b) (by rw [k2]; rfl) (by omega)
        rw [eq_true k2] at n2 p2
        rw [m1, bi_some]
        simp only [lp_1, f_LRd_readSum_L12, f_Mod_sum_L21, x240, c1, c2, bi_some, jn_eq, bn_eq, n1, n2, p1, p2, ↓reduceIte, nI_1]
        exact this
      · rw [eq_false k2] at n2 p2
        refine Or.inr ⟨q, [], hc1, hm1, b2, by show 0 + p ≤ q; omega, ?_, ?_, by rw [List.map_nil, List.append_nil]; exact C1, by rw [List.append_nil]; exact M1, fun x0 h => by rw [List.append_nil]; exact h, fun t ht => absurd ht (by simp)⟩
        · simp only [lp_1, f_LRd_readSum_L12, x240, c1, c2, bi_some, jn_eq, bn_eq, n1, n2, ↓reduceIte]
        · rw [m1, bi_some]
          simp only [lp_1, f_Mod_sum_L21, jn_eq, bn_eq, p1, p2, ↓reduceIte]
theorem sum_2 (hL : Lc N z T n hc0 hm0) {rfc : mu_H → Int32 → Option (Int32 × mu_H)} {rfm : mu_H → Option mu_H} {d b k : Nat} (hb : 241 ≤ b) (hb2 : b < 500) (hk : k ≤ 30) (HE : Pr z n hc0 hm0 (fun h => f_LRd_readTerm_B N rfc h (nI d)) (f_Mod_term_B N rfm) d b (fun xs => Gd k xs isN)) : Pr z n hc0 hm0 (fun h => f_LRd_readSum_B N rfc h (nI d)) (f_Mod_sum_B N rfm) d (b + 1) (fun xs => Gd (k + 1) xs isN) := by
  intro hc hm p cs ts hC hM hp hcs hts
  have hN := hL.2.2.2
  have hz := hL.1.1
  show Rs hc0 hm0 z n (f_LRd_readSum_B N rfc hc (nI d)) (f_Mod_sum_B N rfm hm) p d cs ts (b + 1) _
  rw [f_LRd_readSum_B, f_Mod_sum_B]
  rcases HE _ _ p cs ts hC hM hp hcs hts with ⟨e, hc', hm', h1, h2, h3, h4, h5⟩ | ⟨q', xs, hc', hm', h1, h2, h3, h4, h5, h6, h7, h8⟩
  · have h2 : f_LRd_readTerm_B N rfc hc (nI d) = some (0, hc') := h2
    refine Or.inl ⟨e, hc', hm', h1, ?_, ?_, h4, ME_mono h5 (by omega)⟩
    · rw [h2, bi_some, if_pos rfl]
    · obtain ⟨N', rfl⟩ : ∃ q, N = q + 1 := ⟨N - 1, by omega⟩
      rw [h3, bd_some, jn_eq, if_neg (ME_w h5 (by omega))]
      simp only [lp_1, f_Mod_sum_L21, jn_eq, show ((-1 : Int32) = 43) = False by decide, show ((-1 : Int32) = 45) = False by decide, ↓reduceIte]
  · have h3 : f_LRd_readTerm_B N rfc hc (nI d) = some (1, hc') := h3
    have hne := Gd_ne h7 (by omega)
    have l1 : (cs ++ xs.map clT).length = cs.length + xs.length := by rw [List.length_append, List.length_map]
    have l2 : (ts ++ xs).length = ts.length + xs.length := by rw [List.length_append]
    rw [h3, bi_some, if_neg (show ¬ (1 : Int32) = 0 by decide), h4, bd_some, jn_eq, if_pos h6.2.2.1]
    have hr := sum_L hL hb hb2 HE (z - q') q' 0 _ _ hc' hm' N N rfl (by omega) (by omega) h5 h6 h1 (by omega) (by omega) (by omega)
    rcases hr with ⟨e, hc4, hm4, y1, y2, y3, y4, y5⟩ | ⟨q2, ys, hc4, hm4, y1, y2, y3, y4, y5, y6, y7, y8⟩
    · exact Or.inl ⟨e, hc4, hm4, y1, y2, y3, y4, y5⟩
    · refine Or.inr ⟨q2, xs ++ ys, hc4, hm4, y1, ?_, y3, y4, ?_, ?_, y7 _ (Gd_mono h7 (by omega)), ?_⟩
      · rw [List.length_append]; omega
      · rw [List.map_append, ← List.append_assoc]; exact y5
      · rw [← List.append_assoc]; exact y6
      · intro t' ht'
        rw [List.mem_append] at ht'
        rcases ht' with w | w
        · exact h8 t' w
        · exact y8 t' w
/-- a sum at depth d, with enough left to go deeper -/
theorem sum_d (hL : Lc N z T n hc0 hm0) : ∀ j d g, d + j = 6 → j < g → Pr z n hc0 hm0 (fun h => lp (f_LRd_readSum_R N) g (h, nI d)) (lp (f_Mod_sum_R N) g) d (243 + 2 * j) (fun xs => Gd (15 - 2 * d) xs isN) := by
  intro j
  induction j with
  | zero =>
    intro d g hd hg
    obtain ⟨g, rfl⟩ : ∃ q, g = q + 1 := ⟨g - 1, by omega⟩
    have ha := atom_2 hL (rfc := fun h a1 => lp (f_LRd_readSum_R N) g (h, a1)) (rfm := lp (f_Mod_sum_R N) g) (d := d) (b := 241) (by omega) (by omega) (by omega) (fun q => by omega)
    have ht := term_2 hL (by omega) (by omega) (by omega) ha
    have hs := sum_2 hL (by omega) (by omega) (by omega) ht
    intro hc hm p cs ts hC hM hp hcs hts
    exact Rs_G (hs hc hm p cs ts hC hM hp hcs hts) (by omega) (fun xs h => Gd_mono h (by omega))
  | succ j ih =>
    intro d g hd hg
    obtain ⟨g, rfl⟩ : ∃ q, g = q + 1 := ⟨g - 1, by omega⟩
    have h1 := ih (d + 1) g (by omega) (by omega)
    rw [show 15 - 2 * (d + 1) = 13 - 2 * d by omega] at h1
    have ha := atom_2 hL (rfc := fun h a1 => lp (f_LRd_readSum_R N) g (h, a1)) (rfm := lp (f_Mod_sum_R N) g) (d := d) (b := 243 + 2 * j) (by omega) (by omega) (by omega) (fun _ => h1)
    have ht := term_2 hL (by omega) (by omega) (by omega) ha
    have hs := sum_2 hL (by omega) (by omega) (by omega) ht
    intro hc hm p cs ts hC hM hp hcs hts
    exact Rs_G (hs hc hm p cs ts hC hM hp hcs hts) (by omega) (fun xs h => Gd_mono h (by omega))
theorem sum_q (hL : Lc N z T n hc0 hm0) {d : Nat} (hd : d ≤ 6) : Pr z n hc0 hm0 (fun h => f_LRd_readSum N h (nI d)) (f_Mod_sum N) d 260 (fun xs => Gd (15 - 2 * d) xs isN) := by
  intro hc hm p cs ts hC hM hp hcs hts
  exact Rs_G (sum_d hL (6 - d) d 10 (by omega) (by omega) hc hm p cs ts hC hM hp hcs hts) (by omega) (fun xs h => h)
end Sums
