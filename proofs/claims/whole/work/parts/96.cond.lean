/-! reading a law: units, truths, conditions -/
section Conds
variable {N z n : Nat} {T : Nat → Nat} {hc0 hm0 : mu_H}
theorem bd_as {α β γ : Type} {X : Option α} {f : α → Option β} {g : β → Option γ} {y : β} (h : X.bind f = some y) : (X.bind fun a => (f a).bind g) = g y := by
  cases X with
  | none => exact absurd h (by simp)
  | some x =>
    have h : f x = some y := h
    show (f x).bind g = g y
    rw [h]; rfl
theorem and_L (hL : Lc N z T n hc0 hm0) {rfc : mu_H → Int32 → Int32 → Option (Int32 × mu_H)} {rfm : mu_H → Option mu_H} {d b k : Nat} (hb : 241 ≤ b) (hb2 : b < 500) (HE : Pr z n hc0 hm0 (fun h => rfc h (nI d) 0) (rfm) d b (fun xs => Gd k xs isB)) : ∀ f p x cs ts hc hm g g', z - p = f → f < g → f + 1 < g' → CS hc0 hc p cs → MS hm0 n hm p d ts → p ≤ z → cs.length ≤ p → ts.length ≤ p → x + 1 ≤ p → Rs hc0 hm0 z n (lp (f_LRd_readTruth_L13 N rfc (nI d)) g (nI x, hc)) (lp (f_Mod_goOnAnd_L0 N rfm) g' hm) p d cs ts (b + 1) (fun xs => ∀ x0, Gd (k + 1) x0 isB → Gd (k + 1) (x0 ++ xs) isB) := by
  obtain ⟨hTc, hTm, hn, hN⟩ := hL
  have hz := hTc.1
  intro f
  induction f using Nat.strongRecOn with
  | _ f ih =>
    intro p x cs ts hc hm g g' hf hg hg' hC hM hp hcs hts hx
    obtain ⟨g, rfl⟩ : ∃ q, g = q + 1 := ⟨g - 1, by omega⟩
    obtain ⟨g', rfl⟩ : ∃ q, g' = q + 1 := ⟨g' - 1, by omega⟩
    obtain ⟨hc1, c1, C1⟩ := CS_next hTc hN hC hp
    obtain ⟨hm1, m1, M1⟩ := MS_look hTm hN hM hp
    obtain ⟨b1, b2, b3⟩ := nb_p (T := T) hp
    have hs := sg_lt hTm (nb T z p)
    generalize hq : nb T z p = q at *
    generalize hcc : sg T z q = c at *
    have x240 : ((240 : Int32) ≤ nI x) = False := eq_false (fun w => by have := (nI_leI (a := 240) (by decide) (by omega)).mp w; omega)
    have w0 : (hm.1 51 4 = -1) = True := eq_true hM.2.2.1
    have n1 : (nI c = 38) = (c = 38) := nI_eq_i (b := 38) (by omega) (by decide)
    have p1 : (mJ c = 38) = (c = 38) := mJ_eq (k := 38) hs (by decide) (by decide)
    by_cases k1 : c = 38
    · have hin := sg_in (T := T) (z := z) (p := q) (by omega)
      rw [eq_true k1] at n1 p1
      have C2 := CS_inc C1
      have M2 := MS_inc M1
      have ht : clT (10, 0) = -38 := by decide
      simp only [lp_1, f_LRd_readTruth_L13, f_Mod_goOnAnd_L0, x240, w0, c1, m1, bi_some, bn_eq, n1, p1, ↓reduceIte, nI_1]
      rcases HE _ _ (q + 1) cs ts C2 M2 (by omega) (by omega) (by omega) with ⟨e, hc', hm', h1, h2, h3, h4, h5⟩ | ⟨q', xs, hc', hm', h1, h2, h3, h4, h5, h6, h7, h8⟩
      · obtain ⟨hm5, o2, E2⟩ := ME_put (N := N) hn h5 (by omega) 10 0
        have w := eq_false (ME_w E2 (by omega))
        obtain ⟨g', rfl⟩ : ∃ q, g' = q + 1 := ⟨g' - 1, by omega⟩
        refine Or.inl ⟨e, hc', hm5, h1, ?_, ?_, h4, E2⟩
        · have h2 : rfc (ui hc1 10 2 (hc1.1 10 2 + 1)) (nI d) 0 = some (0, hc') := h2
          rw [h2, bi_some, if_pos rfl]
        · have h3 : rfm (ui hm1 51 3 (hm1.1 51 3 + 1)) = some hm' := h3
          rw [h3, bd_some, o2, bd_some]
          simp only [lp_1, f_Mod_goOnAnd_L0, w, ↓reduceIte]
      · have h3 : rfc (ui hc1 10 2 (hc1.1 10 2 + 1)) (nI d) 0 = some (1, hc') := h3
        have h4 : rfm (ui hm1 51 3 (hm1.1 51 3 + 1)) = some hm' := h4
        have l1 : (cs ++ xs.map clT).length = cs.length + xs.length := by rw [List.length_append, List.length_map]
        have l2 : (ts ++ xs).length = ts.length + xs.length := by rw [List.length_append]
        obtain ⟨hc3, a1, C3⟩ := CS_add (N := N) h5 (by omega) (-38)
        obtain ⟨hm3, a2, M3⟩ := MS_put (N := N) hn h6 (by omega) 10 0
        have a2 : f_Mod_put N hm' 10 0 = some hm3 := a2
        rw [h3, bi_some, if_neg (show ¬ (1 : Int32) = 0 by decide), a1, bd_some, h4, bd_some, a2, bd_some]
        have l3 : (cs ++ xs.map clT ++ [(-38 : Int32)]).length = cs.length + xs.length + 1 := by rw [List.length_append, l1]; rfl
        have l4 : (ts ++ xs ++ [(10, 0)]).length = ts.length + xs.length + 1 := by rw [List.length_append, l2]; rfl
        have hr := ih (z - q') (by omega) q' (x + 1) _ _ hc3 hm3 g g' rfl (by omega) (by omega) C3 M3 h1 (by omega) (by omega) (by omega)
        rcases hr with ⟨e, hc4, hm4, y1, y2, y3, y4, y5⟩ | ⟨q2, ys, hc4, hm4, y1, y2, y3, y4, y5, y6, y7, y8⟩
        · exact Or.inl ⟨e, hc4, hm4, y1, y2, y3, y4, y5⟩
        · refine Or.inr ⟨q2, xs ++ [(10, 0)] ++ ys, hc4, hm4, y1, ?_, y3, y4, ?_, ?_, ?_, ?_⟩
          · rw [List.length_append, List.length_append]; show xs.length + 1 + ys.length + p ≤ q2; omega
          · rw [List.map_append, List.map_append, ← List.append_assoc, ← List.append_assoc, List.map_cons, List.map_nil, ht]; exact y5
          · rw [← List.append_assoc, ← List.append_assoc]; exact y6
          · intro x0 hx0
            rw [← List.append_assoc]
            exact y7 _ (Gd_bin hx0 h7 (by decide) (by decide) (fun a b ha hb => op2_b 10 (Or.inl rfl) a b ha hb))
          · intro t' ht'
            rw [List.mem_append, List.mem_append, List.mem_singleton] at ht'
            rcases ht' with (w | w) | w
            · exact h8 t' w
            · subst w; exact ⟨by show 10 < 12; decide, fun w2 => absurd w2 (by show ¬ 10 = 0; decide), fun w2 => absurd w2 (by show ¬ 10 = 1; decide)⟩
            · exact y8 t' w
    · rw [eq_false k1] at n1 p1
      refine Or.inr ⟨q, [], hc1, hm1, b2, by show 0 + p ≤ q; omega, ?_, ?_, by rw [List.map_nil, List.append_nil]; exact C1, by rw [List.append_nil]; exact M1, fun x0 h => by rw [List.append_nil]; exact h, fun t ht => absurd ht (by simp)⟩
      · simp only [lp_1, f_LRd_readTruth_L13, x240, c1, bi_some, n1, ↓reduceIte]
      · simp only [lp_1, f_Mod_goOnAnd_L0, w0, m1, bi_some, p1, ↓reduceIte]
theorem and_e {rfm : mu_H → Option mu_H} {h : mu_H} {e b : Nat} (hN : 3000 ≤ N) (hE : ME hm0 n h e b) (he : e < 1000) : f_Mod_goOnAnd_B N rfm h = some h := by
  have w := eq_false (ME_w hE he)
  obtain ⟨N', rfl⟩ : ∃ q, N = q + 1 := ⟨N - 1, by omega⟩
  simp only [f_Mod_goOnAnd_B, lp_1, f_Mod_goOnAnd_L0, w, ↓reduceIte]
theorem or_L (hL : Lc N z T n hc0 hm0) {rfc : mu_H → Int32 → Int32 → Option (Int32 × mu_H)} {rfm : mu_H → Option mu_H} {d b k : Nat} (hb : 241 ≤ b) (hb2 : b < 500) (HE : Pr z n hc0 hm0 (fun h => f_LRd_readTruth_B N rfc h (nI d) 0) (fun h => (rfm h).bind (f_Mod_goOnAnd_B N rfm)) d b (fun xs => Gd k xs isB)) : ∀ f p x cs ts hc hm g g', z - p = f → f < g → f + 1 < g' → CS hc0 hc p cs → MS hm0 n hm p d ts → p ≤ z → cs.length ≤ p → ts.length ≤ p → x + 1 ≤ p → Rs hc0 hm0 z n (lp (f_LRd_readCondition_L13 N rfc (nI d)) g (nI x, hc)) (lp (f_Mod_goOnOr_L0 N rfm) g' hm) p d cs ts (b + 1) (fun xs => ∀ x0, Gd (k + 1) x0 isB → Gd (k + 1) (x0 ++ xs) isB) := by
  obtain ⟨hTc, hTm, hn, hN⟩ := hL
  have hz := hTc.1
  intro f
  induction f using Nat.strongRecOn with
  | _ f ih =>
    intro p x cs ts hc hm g g' hf hg hg' hC hM hp hcs hts hx
    obtain ⟨g, rfl⟩ : ∃ q, g = q + 1 := ⟨g - 1, by omega⟩
    obtain ⟨g', rfl⟩ : ∃ q, g' = q + 1 := ⟨g' - 1, by omega⟩
    obtain ⟨hc1, c1, C1⟩ := CS_next hTc hN hC hp
    obtain ⟨hm1, m1, M1⟩ := MS_look hTm hN hM hp
    obtain ⟨b1, b2, b3⟩ := nb_p (T := T) hp
    have hs := sg_lt hTm (nb T z p)
    generalize hq : nb T z p = q at *
    generalize hcc : sg T z q = c at *
    have x240 : ((240 : Int32) ≤ nI x) = False := eq_false (fun w => by have := (nI_leI (a := 240) (by decide) (by omega)).mp w; omega)
    have w0 : (hm.1 51 4 = -1) = True := eq_true hM.2.2.1
    have n1 : (nI c = 124) = (c = 124) := nI_eq_i (b := 124) (by omega) (by decide)
    have p1 : (mJ c = 124) = (c = 124) := mJ_eq (k := 124) hs (by decide) (by decide)
    by_cases k1 : c = 124
    · have hin := sg_in (T := T) (z := z) (p := q) (by omega)
      rw [eq_true k1] at n1 p1
      have C2 := CS_inc C1
      have M2 := MS_inc M1
      have ht : clT (11, 0) = -124 := by decide
      simp only [lp_1, f_LRd_readCondition_L13, f_Mod_goOnOr_L0, x240, w0, c1, m1, bi_some, bn_eq, n1, p1, ↓reduceIte, nI_1]
      rcases HE _ _ (q + 1) cs ts C2 M2 (by omega) (by omega) (by omega) with ⟨e, hc', hm', h1, h2, h3, h4, h5⟩ | ⟨q', xs, hc', hm', h1, h2, h3, h4, h5, h6, h7, h8⟩
      · obtain ⟨hm5, o2, E2⟩ := ME_put (N := N) hn h5 (by omega) 11 0
        have w := eq_false (ME_w E2 (by omega))
        obtain ⟨g', rfl⟩ : ∃ q, g' = q + 1 := ⟨g' - 1, by omega⟩
        refine Or.inl ⟨e, hc', hm5, h1, ?_, ?_, h4, E2⟩
        · have h2 : f_LRd_readTruth_B N rfc (ui hc1 10 2 (hc1.1 10 2 + 1)) (nI d) 0 = some (0, hc') := h2
          rw [h2, bi_some, if_pos rfl]
        · have h3 : (rfm (ui hm1 51 3 (hm1.1 51 3 + 1))).bind (f_Mod_goOnAnd_B N rfm) = some hm' := h3
          rw [bd_as h3, o2, bd_some]
          simp only [lp_1, f_Mod_goOnOr_L0, w, ↓reduceIte]
      · have h3 : f_LRd_readTruth_B N rfc (ui hc1 10 2 (hc1.1 10 2 + 1)) (nI d) 0 = some (1, hc') := h3
        have h4 : (rfm (ui hm1 51 3 (hm1.1 51 3 + 1))).bind (f_Mod_goOnAnd_B N rfm) = some hm' := h4
        have l1 : (cs ++ xs.map clT).length = cs.length + xs.length := by rw [List.length_append, List.length_map]
        have l2 : (ts ++ xs).length = ts.length + xs.length := by rw [List.length_append]
        obtain ⟨hc3, a1, C3⟩ := CS_add (N := N) h5 (by omega) (-124)
        obtain ⟨hm3, a2, M3⟩ := MS_put (N := N) hn h6 (by omega) 11 0
        have a2 : f_Mod_put N hm' 11 0 = some hm3 := a2
        rw [h3, bi_some, if_neg (show ¬ (1 : Int32) = 0 by decide), a1, bd_some, bd_as h4, a2, bd_some]
        have l3 : (cs ++ xs.map clT ++ [(-124 : Int32)]).length = cs.length + xs.length + 1 := by rw [List.length_append, l1]; rfl
        have l4 : (ts ++ xs ++ [(11, 0)]).length = ts.length + xs.length + 1 := by rw [List.length_append, l2]; rfl
        have hr := ih (z - q') (by omega) q' (x + 1) _ _ hc3 hm3 g g' rfl (by omega) (by omega) C3 M3 h1 (by omega) (by omega) (by omega)
        rcases hr with ⟨e, hc4, hm4, y1, y2, y3, y4, y5⟩ | ⟨q2, ys, hc4, hm4, y1, y2, y3, y4, y5, y6, y7, y8⟩
        · exact Or.inl ⟨e, hc4, hm4, y1, y2, y3, y4, y5⟩
        · refine Or.inr ⟨q2, xs ++ [(11, 0)] ++ ys, hc4, hm4, y1, ?_, y3, y4, ?_, ?_, ?_, ?_⟩
          · rw [List.length_append, List.length_append]; show xs.length + 1 + ys.length + p ≤ q2; omega
          · rw [List.map_append, List.map_append, ← List.append_assoc, ← List.append_assoc, List.map_cons, List.map_nil, ht]; exact y5
          · rw [← List.append_assoc, ← List.append_assoc]; exact y6
          · intro x0 hx0
            rw [← List.append_assoc]
            exact y7 _ (Gd_bin hx0 h7 (by decide) (by decide) (fun a b ha hb => op2_b 11 (Or.inr rfl) a b ha hb))
          · intro t' ht'
            rw [List.mem_append, List.mem_append, List.mem_singleton] at ht'
            rcases ht' with (w | w) | w
            · exact h8 t' w
            · subst w; exact ⟨by show 11 < 12; decide, fun w2 => absurd w2 (by show ¬ 11 = 0; decide), fun w2 => absurd w2 (by show ¬ 11 = 1; decide)⟩
            · exact y8 t' w
    · rw [eq_false k1] at n1 p1
      refine Or.inr ⟨q, [], hc1, hm1, b2, by show 0 + p ≤ q; omega, ?_, ?_, by rw [List.map_nil, List.append_nil]; exact C1, by rw [List.append_nil]; exact M1, fun x0 h => by rw [List.append_nil]; exact h, fun t ht => absurd ht (by simp)⟩
      · simp only [lp_1, f_LRd_readCondition_L13, x240, c1, bi_some, n1, ↓reduceIte]
      · simp only [lp_1, f_Mod_goOnOr_L0, w0, m1, bi_some, p1, ↓reduceIte]
theorem or_e {rfm : mu_H → Option mu_H} {h : mu_H} {e b : Nat} (hN : 3000 ≤ N) (hE : ME hm0 n h e b) (he : e < 1000) : f_Mod_goOnOr_B N rfm h = some h := by
  have w := eq_false (ME_w hE he)
  obtain ⟨N', rfl⟩ : ∃ q, N = q + 1 := ⟨N - 1, by omega⟩
  simp only [f_Mod_goOnOr_B, lp_1, f_Mod_goOnOr_L0, w, ↓reduceIte]
theorem seq_r {X : Option (Int32 × mu_H)} {Y : Option mu_H} {CL : mu_H → Option (Int32 × mu_H)} {ML : mu_H → Option mu_H} {p d b b' : Nat} {cs : List Int32} {ts : List Tok} {G H G' : List Tok → Prop} (hX : Rs hc0 hm0 z n X Y p d cs ts b G) (hcs : cs.length ≤ p) (hts : ts.length ≤ p) (hl : ∀ hc hm p cs ts, CS hc0 hc p cs → MS hm0 n hm p d ts → p ≤ z → cs.length ≤ p → ts.length ≤ p → 1 ≤ p → Rs hc0 hm0 z n (CL hc) (ML hm) p d cs ts b' H) (he : ∀ h e, ME hm0 n h e b → e ≤ z → ML h = some h) (hbb : b ≤ b') (h1 : ∀ xs, G xs → 1 ≤ xs.length + p) (hG : ∀ xs ys, G xs → H ys → G' (xs ++ ys)) : Rs hc0 hm0 z n (bi X fun x1 h2 => if x1 = 0 then some (0, h2) else CL h2) (Y.bind ML) p d cs ts b' G' := by
  rcases hX with ⟨e, hc', hm', a1, a2, a3, a4, a5⟩ | ⟨q', xs, hc', hm', a1, a2, a3, a4, a5, a6, a7, a8⟩
  · refine Or.inl ⟨e, hc', hm', a1, ?_, ?_, a4, ME_mono a5 hbb⟩
    · rw [a2, bi_some, if_pos rfl]
    · rw [a3, bd_some, he hm' e a5 a1]
  · have l1 : (cs ++ xs.map clT).length = cs.length + xs.length := by rw [List.length_append, List.length_map]
    have l2 : (ts ++ xs).length = ts.length + xs.length := by rw [List.length_append]
    have := h1 xs a7
    rw [a3, bi_some, if_neg (show ¬ (1 : Int32) = 0 by decide), a4, bd_some]
    rcases hl hc' hm' q' _ _ a5 a6 a1 (by omega) (by omega) (by omega) with ⟨e, hc4, hm4, y1, y2, y3, y4, y5⟩ | ⟨q2, ys, hc4, hm4, y1, y2, y3, y4, y5, y6, y7, y8⟩
    · exact Or.inl ⟨e, hc4, hm4, y1, y2, y3, y4, y5⟩
    · refine Or.inr ⟨q2, xs ++ ys, hc4, hm4, y1, ?_, y3, y4, ?_, ?_, hG xs ys a7 y7, ?_⟩
      · rw [List.length_append]; omega
      · rw [List.map_append, ← List.append_assoc]; exact y5
      · rw [← List.append_assoc]; exact y6
      · intro t' ht'
        rw [List.mem_append] at ht'
        rcases ht' with w | w
        · exact a8 t' w
        · exact y8 t' w
/-- a truth whose first unit has been read -/
theorem truth_r (hL : Lc N z T n hc0 hm0) {rfc : mu_H → Int32 → Int32 → Option (Int32 × mu_H)} {rfm : mu_H → Option mu_H} {d b k : Nat} (hb : 241 ≤ b) (hb2 : b < 490) (HE : Pr z n hc0 hm0 (fun h => rfc h (nI d) 0) rfm d b (fun xs => Gd k xs isB)) {X : Option (Int32 × mu_H)} {Y : Option mu_H} {p b1 : Nat} {cs : List Int32} {ts : List Tok} {G G' : List Tok → Prop} (hX : Rs hc0 hm0 z n X Y p d cs ts b1 G) (hb1 : b1 ≤ b + 1) (hcs : cs.length ≤ p) (hts : ts.length ≤ p) (h1 : ∀ xs, G xs → 1 ≤ xs.length + p) (hG : ∀ xs ys, G xs → (∀ x0, Gd (k + 1) x0 isB → Gd (k + 1) (x0 ++ ys) isB) → G' (xs ++ ys)) : Rs hc0 hm0 z n (bi X fun x1 h2 => if x1 = 0 then some (0, h2) else lp (f_LRd_readTruth_L13 N rfc (nI d)) N (0, h2)) (Y.bind (f_Mod_goOnAnd_B N rfm)) p d cs ts (b + 1) G' := by
  have hz := hL.1.1
  have hN := hL.2.2.2
  exact seq_r (H := fun ys => ∀ x0, Gd (k + 1) x0 isB → Gd (k + 1) (x0 ++ ys) isB) hX hcs hts (fun hc hm p cs ts C M a1 a2 a3 a4 => and_L hL hb (by omega) HE (z - p) p 0 cs ts hc hm N N rfl (by omega) (by omega) C M a1 a2 a3 (by omega)) (fun h e E he => and_e hN E (by omega)) hb1 h1 hG
theorem truth_2 (hL : Lc N z T n hc0 hm0) {rfc : mu_H → Int32 → Int32 → Option (Int32 × mu_H)} {rfm : mu_H → Option mu_H} {d b k : Nat} (hb : 241 ≤ b) (hb2 : b < 490) (hk : k ≤ 30) (HE : Pr z n hc0 hm0 (fun h => rfc h (nI d) 0) rfm d b (fun xs => Gd k xs isB)) : Pr z n hc0 hm0 (fun h => f_LRd_readTruth_B N rfc h (nI d) 0) (fun h => (rfm h).bind (f_Mod_goOnAnd_B N rfm)) d (b + 1) (fun xs => Gd (k + 1) xs isB) := by
  intro hc hm p cs ts hC hM hp hcs hts
  exact truth_r hL hb hb2 HE (HE hc hm p cs ts hC hM hp hcs hts) (by omega) hcs hts (fun xs h => by have := Gd_ne h (by omega); omega) (fun xs ys h1 h2 => h2 xs (Gd_mono h1 (by omega)))
/-- a condition whose first truth has been read -/
theorem cond_r (hL : Lc N z T n hc0 hm0) {rfc : mu_H → Int32 → Int32 → Option (Int32 × mu_H)} {rfm : mu_H → Option mu_H} {d b k : Nat} (hb : 241 ≤ b) (hb2 : b < 490) (hk : k ≤ 29) (HE : Pr z n hc0 hm0 (fun h => rfc h (nI d) 0) rfm d b (fun xs => Gd k xs isB)) {X : Option (Int32 × mu_H)} {Y : Option mu_H} {p : Nat} {cs : List Int32} {ts : List Tok} {G G' : List Tok → Prop} (hX : Rs hc0 hm0 z n X Y p d cs ts (b + 1) G) (hcs : cs.length ≤ p) (hts : ts.length ≤ p) (h1 : ∀ xs, G xs → 1 ≤ xs.length + p) (hG : ∀ xs ys, G xs → (∀ x0, Gd (k + 2) x0 isB → Gd (k + 2) (x0 ++ ys) isB) → G' (xs ++ ys)) : Rs hc0 hm0 z n (bi X fun x1 h2 => if x1 = 0 then some (0, h2) else lp (f_LRd_readCondition_L13 N rfc (nI d)) N (0, h2)) (Y.bind (f_Mod_goOnOr_B N rfm)) p d cs ts (b + 2) G' := by
  have hz := hL.1.1
  have hN := hL.2.2.2
  exact seq_r (H := fun ys => ∀ x0, Gd (k + 2) x0 isB → Gd (k + 2) (x0 ++ ys) isB) hX hcs hts (fun hc hm p cs ts C M a1 a2 a3 a4 => or_L hL (by omega) (by omega) (truth_2 hL hb hb2 (by omega) HE) (z - p) p 0 cs ts hc hm N N rfl (by omega) (by omega) C M a1 a2 a3 (by omega)) (fun h e E he => or_e hN E (by omega)) (by omega) h1 hG
theorem bd_id {α : Type} {X : Option α} : (X.bind fun x => some x) = X := by cases X <;> rfl
theorem bd_bd {α β γ : Type} {X : Option α} {f : α → Option β} {g : β → Option γ} : (X.bind fun a => (f a).bind g) = (X.bind f).bind g := by cases X <;> rfl
theorem cond_2 (hL : Lc N z T n hc0 hm0) {rfc : mu_H → Int32 → Int32 → Option (Int32 × mu_H)} {rfm : mu_H → Option mu_H} {d b k : Nat} (hb : 241 ≤ b) (hb2 : b < 490) (hk : k ≤ 29) (HE : Pr z n hc0 hm0 (fun h => rfc h (nI d) 0) rfm d b (fun xs => Gd k xs isB)) : Pr z n hc0 hm0 (fun h => f_LRd_readCondition_B N rfc h (nI d) 0) (f_Mod_condition_B N rfm) d (b + 2) (fun xs => Gd (k + 2) xs isB) := by
  intro hc hm p cs ts hC hM hp hcs hts
  have := cond_r hL hb hb2 hk HE (truth_2 hL hb hb2 (by omega) HE hc hm p cs ts hC hM hp hcs hts) hcs hts (fun xs h => by have := Gd_ne h (by omega); omega) (G' := fun xs => Gd (k + 2) xs isB) (fun xs ys h1 h2 => h2 xs (Gd_mono h1 (by omega)))
  have e : f_Mod_condition_B N rfm hm = ((rfm hm).bind (f_Mod_goOnAnd_B N rfm)).bind (f_Mod_goOnOr_B N rfm) := by
    rw [f_Mod_condition_B]
    simp only [bd_id]
    rw [bd_bd]
  show Rs hc0 hm0 z n (f_LRd_readCondition_B N rfc hc (nI d) 0) (f_Mod_condition_B N rfm hm) p d cs ts (b + 2) _
  rw [e]
  exact this
/-- = < > -/
def cp (c : Nat) : Nat := if c = 61 then 6 else if c = 60 then 7 else 8
theorem cp_o {c : Nat} (h : c = 61 ∨ c = 60 ∨ c = 62) : clT (cp c, 0) = -(nI c) ∧ 2 ≤ cp c ∧ cp c < 12 ∧ ¬ cp c = 9 ∧ ∀ a b, isN a → isN b → ∃ v, isB v ∧ op2 (cp c) a b = some v := by
  rcases h with rfl | rfl | rfl
  · exact ⟨by decide, by decide, by decide, by decide, fun a b _ _ => op2_6 a b⟩
  · exact ⟨by decide, by decide, by decide, by decide, fun a b _ _ => op2_7 a b⟩
  · exact ⟨by decide, by decide, by decide, by decide, fun a b _ _ => op2_8 a b⟩
def CP (N : Nat) (d : Nat) (h6 : mu_H) : Option (Int32 × mu_H) := bi (f_LRd_next N h6) fun x7 h8 => (f_LRd_isComparison N h8 x7).bind fun x10 => if x10 = 0 then some (0, h8) else bn (ui h8 10 2 ((h8.1 10 2) + 1)) fun h11 => bi (f_LRd_readSum N h11 (nI d)) fun x12 h13 => if x12 = 0 then some (0, h13) else (f_Law_add N h13 11 (-x7)).bind fun h15 => some (1, h15)
theorem sgn_c {c : Nat} (hs : c < 256) {h : mu_H} : (f_LRd_isComparison N h (nI c) = some (if c = 61 ∨ c = 60 ∨ c = 62 then 1 else 0)) ∧ f_Mod_isSign N h (mJ c) = some (if c = 61 ∨ c = 60 ∨ c = 62 then 1 else 0) := by
  have n1 : (nI c = 61) = (c = 61) := nI_eq_i (b := 61) (by omega) (by decide)
  have n2 : (nI c = 60) = (c = 60) := nI_eq_i (b := 60) (by omega) (by decide)
  have n3 : (nI c = 62) = (c = 62) := nI_eq_i (b := 62) (by omega) (by decide)
  have p1 : (mJ c = 61) = (c = 61) := mJ_eq (k := 61) hs (by decide) (by decide)
  have p2 : (mJ c = 60) = (c = 60) := mJ_eq (k := 60) hs (by decide) (by decide)
  have p3 : (mJ c = 62) = (c = 62) := mJ_eq (k := 62) hs (by decide) (by decide)
  simp only [f_LRd_isComparison, f_Mod_isSign, n1, n2, n3, p1, p2, p3]
  by_cases k1 : c = 61
  · simp [k1]
  by_cases k2 : c = 60
  · simp [k2]
  by_cases k3 : c = 62
  · simp [k3]
  simp [k1, k2, k3]
theorem cmp_2 (hL : Lc N z T n hc0 hm0) {d : Nat} (hd : d ≤ 6) : Pr z n hc0 hm0 (CP N d) (f_Mod_compare N) d 261 (fun xs => ∀ x0, Gd (16 - 2 * d) x0 isN → Gd (16 - 2 * d) (x0 ++ xs) isB) := by
  intro hc hm p cs ts hC hM hp hcs hts
  have hS := sum_q hL hd
  obtain ⟨hTc, hTm, hn, hN⟩ := hL
  have hz := hTc.1
  obtain ⟨hc1, c1, C1⟩ := CS_next hTc hN hC hp
  obtain ⟨hm1, m1, M1⟩ := MS_look hTm hN hM hp
  obtain ⟨b1, b2, b3⟩ := nb_p (T := T) hp
  have hs := sg_lt hTm (nb T z p)
  generalize hq : nb T z p = q at *
  generalize hcc : sg T z q = c at *
  have w0 : (hm.1 51 4 = -1) = True := eq_true hM.2.2.1
  have s1 := (sgn_c (N := N) hs (h := hc1)).1
  have s2 := (sgn_c (N := N) hs (h := hm1)).2
  by_cases k1 : c = 61 ∨ c = 60 ∨ c = 62
  · obtain ⟨o1, o2, o3, o4, o5⟩ := cp_o k1
    rw [if_pos k1] at s1 s2
    have hin := sg_in (T := T) (z := z) (p := q) (by omega)
    have C2 := CS_inc C1
    have M2 := MS_inc M1
    have jj : ∀ h6 : mu_H, (if mJ c = 61 then (f_Mod_put N h6 6 0).bind fun h9 => some h9 else if mJ c = 60 then (f_Mod_put N h6 7 0).bind fun h9 => some h9 else (f_Mod_put N h6 8 0).bind fun h9 => some h9) = f_Mod_put N h6 (nI (cp c)) 0 := by
      intro h6
      rcases k1 with rfl | rfl | rfl
      · rw [if_pos (by decide), bd_id]; rfl
      · rw [if_neg (by decide), if_pos (by decide), bd_id]; rfl
      · rw [if_neg (by decide), if_neg (by decide), bd_id]; rfl
    show Rs hc0 hm0 z n (CP N d hc) (f_Mod_compare N hm) p d cs ts 261 _
    simp only [CP, f_Mod_compare, w0, c1, m1, bi_some, jn_eq, bn_eq, s1, s2, bd_some, show ((1 : Int32) = 0) = False by decide, ↓reduceIte, jj]
    rcases hS _ _ (q + 1) cs ts C2 M2 (by omega) (by omega) (by omega) with ⟨e, hc', hm', h1, h2, h3, h4, h5⟩ | ⟨q', xs, hc', hm', h1, h2, h3, h4, h5, h6, h7, h8⟩
    · obtain ⟨hm5, o2, E2⟩ := ME_put (N := N) hn h5 (by omega) (nI (cp c)) 0
      have h2 : f_LRd_readSum N (ui hc1 10 2 (hc1.1 10 2 + 1)) (nI d) = some (0, hc') := h2
      refine Or.inl ⟨e, hc', hm5, h1, ?_, ?_, h4, E2⟩
      · rw [h2, bi_some, if_pos rfl]
      · rw [h3, bd_some, o2]
    · have h3 : f_LRd_readSum N (ui hc1 10 2 (hc1.1 10 2 + 1)) (nI d) = some (1, hc') := h3
      have l1 : (cs ++ xs.map clT).length = cs.length + xs.length := by rw [List.length_append, List.length_map]
      have l2 : (ts ++ xs).length = ts.length + xs.length := by rw [List.length_append]
      obtain ⟨hc3, a1, C3⟩ := CS_add (N := N) h5 (by omega) (-(nI c))
      obtain ⟨hm3, a2, M3⟩ := MS_put (N := N) hn h6 (by omega) (cp c) 0
      have a2 : f_Mod_put N hm' (nI (cp c)) 0 = some hm3 := a2
      refine Or.inr ⟨q', xs ++ [(cp c, 0)], hc3, hm3, h1, ?_, ?_, ?_, ?_, ?_, ?_, ?_⟩
      · rw [List.length_append]; show xs.length + 1 + p ≤ q'; omega
      · rw [h3, bi_some, if_neg (show ¬ (1 : Int32) = 0 by decide), a1, bd_some]
      · rw [h4, bd_some, a2]
      · rw [List.map_append, ← List.append_assoc, List.map_cons, List.map_nil, o1]; exact C3
      · rw [← List.append_assoc]; exact M3
      · intro x0 hx0
        rw [show 16 - 2 * d = 15 - 2 * d + 1 by omega] at hx0 ⊢
        exact Gd_bin hx0 h7 o2 o4 o5
      · intro t' ht'
        rw [List.mem_append, List.mem_singleton] at ht'
        rcases ht' with w | w
        · exact h8 t' w
        · subst w; exact ⟨o3, fun w2 => absurd w2 (by show ¬ cp c = 0; omega), fun w2 => absurd w2 (by show ¬ cp c = 1; omega)⟩
  · rw [if_neg k1] at s1 s2
    obtain ⟨hm2, o1, E2⟩ := MS_bad (N := N) (b := 261) M1 (by omega)
    refine Or.inl ⟨q, hc1, hm2, b2, ?_, ?_, CS_E C1, E2⟩
    · simp only [CP, c1, bi_some, bn_eq, s1, bd_some, ↓reduceIte]
    · simp only [f_Mod_compare, w0, m1, bi_some, jn_eq, bn_eq, s2, bd_some, ↓reduceIte, o1]
theorem unit_2 (hL : Lc N z T n hc0 hm0) {rfc : mu_H → Int32 → Int32 → Option (Int32 × mu_H)} {rfm : mu_H → Option mu_H} {d b : Nat} (hd : d ≤ 6) (hb : 262 ≤ b) (hb2 : b < 480) (IH : d < 6 → Pr z n hc0 hm0 (fun h => rfc h (nI (d + 1)) 0) rfm (d + 1) b (fun xs => Gd (14 - 2 * d) xs isB)) : Pr z n hc0 hm0 (fun h => f_LRd_readUnit_B N rfc h (nI d) 0) (f_Mod_unit_B N rfm) d (b + 2) (fun xs => Gd (16 - 2 * d) xs isB) := by
  intro hc hm p cs ts hC hM hp hcs hts
  have hS := sum_q hL hd
  have hL0 := hL
  obtain ⟨hTc, hTm, hn, hN⟩ := hL
  have hz := hTc.1
  obtain ⟨hc1, c1, C1⟩ := CS_next hTc hN hC hp
  obtain ⟨hm1, m1, M1⟩ := MS_look hTm hN hM hp
  obtain ⟨b1, b2, b3⟩ := nb_p (T := T) hp
  have hs := sg_lt hTm (nb T z p)
  generalize hq : nb T z p = q at *
  generalize hcc : sg T z q = c at *
  have h10 : ((1 : Int32) = 0) = False := by decide
  have n1 : (nI c = 33) = (c = 33) := nI_eq_i (b := 33) (by omega) (by decide)
  have n2 : (nI c = 40) = (c = 40) := nI_eq_i (b := 40) (by omega) (by decide)
  have p1 : (mJ c = 33) = (c = 33) := mJ_eq (k := 33) hs (by decide) (by decide)
  have p2 : (mJ c = 40) = (c = 40) := mJ_eq (k := 40) hs (by decide) (by decide)
  show Rs hc0 hm0 z n (f_LRd_readUnit_B N rfc hc (nI d) 0) (f_Mod_unit_B N rfm hm) p d cs ts (b + 2) _
  by_cases k1 : c = 33
  · rw [eq_true k1] at n1 p1
    rw [eq_false (show ¬ c = 40 by omega)] at n2
    have hin := sg_in (T := T) (z := z) (p := q) (by omega)
    simp only [f_LRd_readUnit_B, f_Mod_unit_B, c1, m1, bi_some, jn_eq, bn_eq, n1, n2, p1, ↓reduceIte]
    by_cases k6 : d < 6
    · obtain ⟨hm2, o1, M2⟩ := opens_d (N := N) M1 k6
      have C2 := CS_inc C1
      rw [if_pos (show nI d < (6 : Int32) from (nI_ltI (b := 6) (by omega) (by decide)).mpr k6), o1, bd_some, if_pos M2.2.2.1, nI_1]
      rcases IH k6 _ _ (q + 1) cs ts C2 M2 (by omega) (by omega) (by omega) with ⟨e, hc', hm', h1, h2, h3, h4, h5⟩ | ⟨q', xs, hc', hm', h1, h2, h3, h4, h5, h6, h7, h8⟩
      · obtain ⟨hm5, o2, E2⟩ := ME_put (N := N) hn h5 (by omega) 9 0
        have h2 : rfc (ui hc1 10 2 (hc1.1 10 2 + 1)) (nI (d + 1)) 0 = some (0, hc') := h2
        refine Or.inl ⟨e, hc', ui hm5 51 5 (hm5.1 51 5 - 1), h1, ?_, ?_, h4, ME_5 (ME_mono E2 (show b + 1 ≤ b + 2 by omega))⟩
        · rw [h2, bi_some, if_pos rfl]
        · rw [h3, bd_some, o2, bd_some]
      · have h3 : rfc (ui hc1 10 2 (hc1.1 10 2 + 1)) (nI (d + 1)) 0 = some (1, hc') := h3
        have l1 : (cs ++ xs.map clT).length = cs.length + xs.length := by rw [List.length_append, List.length_map]
        have l2 : (ts ++ xs).length = ts.length + xs.length := by rw [List.length_append]
        obtain ⟨hc3, a1, C3⟩ := CS_add (N := N) h5 (by omega) (-33)
        obtain ⟨hm3, a2, M3⟩ := MS_put (N := N) hn h6 (by omega) 9 0
        have a2 : f_Mod_put N hm' 9 0 = some hm3 := a2
        have M4 := MS_d (d' := d) M3
        refine Or.inr ⟨q', xs ++ [(9, 0)], hc3, ui hm3 51 5 (nI d), h1, ?_, ?_, ?_, ?_, ?_, Gd_mono (Gd_not h7) (by omega), ?_⟩
        · rw [List.length_append]; show xs.length + 1 + p ≤ q'; omega
        · rw [h3, bi_some, if_neg (show ¬ (1 : Int32) = 0 by decide), a1, bd_some]
        · rw [h4, bd_some, a2, bd_some, M3.2.2.2.1, sub1 (by omega)]
        · rw [List.map_append, ← List.append_assoc, List.map_cons, List.map_nil, show clT (9, 0) = -33 by decide]; exact C3
        · rw [← List.append_assoc]; exact M4
        · intro t' ht'
          rw [List.mem_append, List.mem_singleton] at ht'
          rcases ht' with w | w
          · exact h8 t' w
          · subst w; exact ⟨by show 9 < 12; decide, fun w2 => absurd w2 (by show ¬ (9 : Nat) = 0; decide), fun w2 => absurd w2 (by show ¬ (9 : Nat) = 1; decide)⟩
    · have d6 : d = 6 := by omega
      subst d6
      obtain ⟨hm2, o1, E2⟩ := opens_6 (N := N) (b := b + 2) M1 (by omega)
      refine Or.inl ⟨q, hc1, hm2, b2, ?_, ?_, CS_E C1, E2⟩
      · rw [if_neg (show ¬ nI 6 < (6 : Int32) by decide)]
      · rw [o1, bd_some, if_neg (ME_w E2 (by omega))]
  rw [eq_false k1] at n1 p1
  by_cases k2 : c = 40
  · rw [eq_true k2] at n2 p2
    have hin := sg_in (T := T) (z := z) (p := q) (by omega)
    simp only [f_LRd_readUnit_B, f_Mod_unit_B, c1, m1, bi_some, jn_eq, bn_eq, n1, n2, p1, p2, ↓reduceIte]
    by_cases k6 : d < 6
    · obtain ⟨hm2, o1, M2⟩ := opens_d (N := N) M1 k6
      have C2 := CS_inc C1
      rw [if_pos (show nI d < (6 : Int32) from (nI_ltI (b := 6) (by omega) (by decide)).mpr k6), o1, bd_some, if_pos M2.2.2.1, nI_1]
      have hK := cond_2 hL0 (by omega) (by omega) (by omega) (IH k6)
      rcases hK _ _ (q + 1) cs ts C2 M2 (by omega) (by omega) (by omega) with ⟨e, hc', hm', h1, h2, h3, h4, h5⟩ | ⟨q', xs, hc', hm', h1, h2, h3, h4, h5, h6, h7, h8⟩
      · obtain ⟨hm5, o2, E2⟩ := closes_e (N := N) (c := 41) h5 (by omega)
        refine Or.inl ⟨e, hc', hm5, h1, ?_, ?_, h4, E2⟩
        · have h2 : f_LRd_readCondition_B N rfc (ui hc1 10 2 (hc1.1 10 2 + 1)) (nI (d + 1)) 0 = some (0, hc') := h2
          rw [h2, bi_some, if_pos rfl]
        · rw [h3, bd_some, o2, bd_some]
      · have h3 : f_LRd_readCondition_B N rfc (ui hc1 10 2 (hc1.1 10 2 + 1)) (nI (d + 1)) 0 = some (1, hc') := h3
        have hts2 : (ts ++ xs).length ≤ 240 := by rw [List.length_append]; omega
        obtain ⟨hm5, o2, o3⟩ := closes_d (N := N) (b := b + 2) (c := 41) hTm hN h6 h1 (by omega) (by omega) (by decide) (by decide)
        have o2 : f_Mod_closes N hm' 41 = some hm5 := o2
        have hsk := CS_skip (N := N) (c := 41) hTc hN h5 h1 (by decide) (by decide)
        obtain ⟨y1, y2, y3⟩ := nb_p (T := T) h1
        rcases hsk with ⟨s1, s2, hc5, s3, s4⟩ | ⟨s1, hc5, s3, s4⟩
        · have s3 : f_LRd_skip N hc' 41 = some (1, hc5) := s3
          rcases o3 with ⟨-, M5⟩ | ⟨o4, -⟩
          · refine Or.inr ⟨nb T z q' + 1, xs, hc5, hm5, by omega, by omega, ?_, ?_, s4, M5, Gd_mono h7 (by omega), h8⟩
            · rw [h3, bi_some, if_neg (show ¬ (1 : Int32) = 0 by decide), s3, bi_some, if_neg (show ¬ (1 : Int32) = 0 by decide)]
            · rw [h4, bd_some, o2, bd_some]
          · exact absurd s1 o4
        · have s3 : f_LRd_skip N hc' 41 = some (0, hc5) := s3
          rcases o3 with ⟨o4, -⟩ | ⟨-, E5⟩
          · exact absurd o4 s1
          · refine Or.inl ⟨nb T z q', hc5, hm5, y2, ?_, ?_, CS_E s4, E5⟩
            · rw [h3, bi_some, if_neg (show ¬ (1 : Int32) = 0 by decide), s3, bi_some, if_pos rfl]
            · rw [h4, bd_some, o2, bd_some]
    · have d6 : d = 6 := by omega
      subst d6
      obtain ⟨hm2, o1, E2⟩ := opens_6 (N := N) (b := b + 2) M1 (by omega)
      refine Or.inl ⟨q, hc1, hm2, b2, ?_, ?_, CS_E C1, E2⟩
      · rw [if_neg (show ¬ nI 6 < (6 : Int32) by decide)]
      · rw [o1, bd_some, if_neg (ME_w E2 (by omega))]
  rw [eq_false k2] at n2 p2
  have eC : f_LRd_readUnit_B N rfc hc (nI d) 0 = bi (f_LRd_readSum N hc1 (nI d)) fun x16 h17 => if x16 = 0 then some (0, h17) else CP N d h17 := by
    simp only [f_LRd_readUnit_B, CP, c1, bi_some, jn_eq, n1, n2, ↓reduceIte]
  have eM : f_Mod_unit_B N rfm hm = (f_Mod_sum N hm1).bind fun h4 => if h4.1 51 4 = -1 then f_Mod_compare N h4 else some h4 := by
    simp only [f_Mod_unit_B, m1, bi_some, p1, p2, ↓reduceIte, bd_id]
  rw [eC, eM]
  have hX := hS _ _ q cs ts C1 M1 b2 (by omega) (by omega)
  have hR : Rs hc0 hm0 z n (bi (f_LRd_readSum N hc1 (nI d)) fun x16 h17 => if x16 = 0 then some (0, h17) else CP N d h17) ((f_Mod_sum N hm1).bind fun h4 => if h4.1 51 4 = -1 then f_Mod_compare N h4 else some h4) q d cs ts 261 (fun xs => Gd (16 - 2 * d) xs isB) :=
    seq_r (H := fun xs => ∀ x0, Gd (16 - 2 * d) x0 isN → Gd (16 - 2 * d) (x0 ++ xs) isB) hX (by omega) (by omega) (fun hc hm p cs ts C M a1 a2 a3 _ => by
      show Rs hc0 hm0 z n (CP N d hc) (if hm.1 51 4 = -1 then f_Mod_compare N hm else some hm) p d cs ts 261 _
      rw [if_pos M.2.2.1]
      exact cmp_2 hL0 hd hc hm p cs ts C M a1 a2 a3) (fun h e E he => by
      show (if h.1 51 4 = -1 then f_Mod_compare N h else some h) = some h
      rw [if_neg (ME_w E (by omega))]) (by omega) (fun xs h => by have := Gd_ne h (by omega); omega) (fun xs ys h1 h2 => h2 xs (Gd_mono h1 (by omega)))
  rcases hR with ⟨e, hc', hm', h1, h2, h3, h4, h5⟩ | ⟨q', xs, hc', hm', h1, h2, h3, h4, h5, h6, h7, h8⟩
  · exact Or.inl ⟨e, hc', hm', h1, h2, h3, h4, ME_mono h5 (by omega)⟩
  · exact Or.inr ⟨q', xs, hc', hm', h1, by omega, h3, h4, h5, h6, h7, h8⟩
theorem unit_d (hL : Lc N z T n hc0 hm0) : ∀ j d g, d + j = 6 → j < g → Pr z n hc0 hm0 (fun h => lp (f_LRd_readUnit_R N) g (h, nI d, 0)) (lp (f_Mod_unit_R N) g) d (264 + 2 * j) (fun xs => Gd (16 - 2 * d) xs isB) := by
  intro j
  induction j with
  | zero =>
    intro d g hd hg
    obtain ⟨g, rfl⟩ : ∃ q, g = q + 1 := ⟨g - 1, by omega⟩
    exact unit_2 hL (rfc := fun h a1 a2 => lp (f_LRd_readUnit_R N) g (h, a1, a2)) (rfm := lp (f_Mod_unit_R N) g) (d := d) (b := 262) (by omega) (by omega) (by omega) (fun q => by omega)
  | succ j ih =>
    intro d g hd hg
    obtain ⟨g, rfl⟩ : ∃ q, g = q + 1 := ⟨g - 1, by omega⟩
    have h1 := ih (d + 1) g (by omega) (by omega)
    rw [show 16 - 2 * (d + 1) = 14 - 2 * d by omega] at h1
    exact unit_2 hL (rfc := fun h a1 a2 => lp (f_LRd_readUnit_R N) g (h, a1, a2)) (rfm := lp (f_Mod_unit_R N) g) (d := d) (b := 264 + 2 * j) (by omega) (by omega) (by omega) (fun _ => h1)
theorem unit_q (hL : Lc N z T n hc0 hm0) : Pr z n hc0 hm0 (fun h => f_LRd_readUnit N h (nI 0) 0) (f_Mod_unit N) 0 276 (fun xs => Gd 16 xs isB) := unit_d hL 6 0 10 (by omega) (by omega)
/-- the condition of a clause that begins with ! or ( -/
theorem cond_q (hL : Lc N z T n hc0 hm0) : Pr z n hc0 hm0 (fun h => f_LRd_readCondition N h 0 0) (f_Mod_condition N) 0 278 (fun xs => Gd 18 xs isB) := cond_2 hL (by omega) (by omega) (by omega) (unit_q hL)
/-- the condition of a clause whose first sum has been read -/
theorem cond_b (hL : Lc N z T n hc0 hm0) {hc hm : mu_H} {p : Nat} {cs : List Int32} {ts : List Tok} (hC : CS hc0 hc p cs) (hM : MS hm0 n hm p 0 ts) (hp : p ≤ z) (hcs : cs.length ≤ p) (hts : ts.length ≤ p) (h1 : 1 ≤ p) (hb : ¬ sg T z p = 32) : Rs hc0 hm0 z n (f_LRd_readCondition N hc 0 1) ((f_Mod_compare N hm).bind fun h => (f_Mod_goOnAnd N h).bind fun h => f_Mod_goOnOr N h) p 0 cs ts 278 (fun xs => ∀ x0, Gd 16 x0 isN → Gd 18 (x0 ++ xs) isB) := by
  have hL0 := hL
  obtain ⟨hTc, hTm, hn, hN⟩ := hL
  have c1 := CS_nx0 (N := N) hTc hN hC hp hb
  have hU : f_LRd_readUnit N hc 0 1 = CP N 0 hc := by
    rw [f_LRd_readUnit, lp_1]
    simp only [f_LRd_readUnit_R, f_LRd_readUnit_B, CP, c1, bi_some, jn_eq, show ((1 : Int32) = 0) = False by decide, ↓reduceIte]
    rfl
  have hX := cmp_2 hL0 (d := 0) (by decide) hc hm p cs ts hC hM hp hcs hts
  have hT := truth_r hL0 (rfc := f_LRd_readUnit N) (by omega) (by omega) (unit_q hL0) hX (by omega) hcs hts (fun xs _ => by omega) (G' := fun xs => ∀ x0, Gd 16 x0 isN → Gd 17 (x0 ++ xs) isB) (fun xs ys g1 g2 x0 hx0 => by
    rw [← List.append_assoc]
    exact g2 _ (Gd_mono (g1 x0 hx0) (by omega)))
  have hK := cond_r hL0 (rfc := f_LRd_readUnit N) (by omega) (by omega) (by omega) (unit_q hL0) hT hcs hts (fun xs _ => by omega) (G' := fun xs => ∀ x0, Gd 16 x0 isN → Gd 18 (x0 ++ xs) isB) (fun xs ys g1 g2 x0 hx0 => by
    rw [← List.append_assoc]
    exact g2 _ (Gd_mono (g1 x0 hx0) (by omega)))
  rw [bd_bd]
  have e : f_LRd_readCondition N hc 0 1 = bi (bi (CP N 0 hc) fun x1 h2 => if x1 = 0 then some (0, h2) else lp (f_LRd_readTruth_L13 N (f_LRd_readUnit N) (nI 0)) N (0, h2)) fun x1 h2 => if x1 = 0 then some (0, h2) else lp (f_LRd_readCondition_L13 N (f_LRd_readUnit N) (nI 0)) N (0, h2) := by
    rw [f_LRd_readCondition, f_LRd_readCondition_B, f_LRd_readTruth_B, hU]
    rfl
  rw [e]
  exact hK
end Conds
