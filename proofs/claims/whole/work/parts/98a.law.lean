/-! reading a law: a clause by both -/
section Law2
variable {N z n : Nat} {T : Nat → Nat} {hc0 hS hB : mu_H}
/-- what a clause begins with, at the model -/
def Ba (hS : mu_H) (n : Nat) (h : mu_H) (cl : List Cla) : Prop := MG n hS h ∧ h.1 56 n = nI cl.length ∧ mix n (h.1 57) (h.1 58) (h.1 59) 0 0 cl ∧ h.1 57 (140 * n + cl.length) = nI (fl_t cl).length
theorem Ba_F {h : mu_H} {cl : List Cla} (hB0 : Ba hS n hB cl) (hF : MF n hB h) : Ba hS n h cl := by
  obtain ⟨a, b, c, d⟩ := hB0
  refine ⟨MG_trans a (MG_F hF), ?_, ?_, ?_⟩
  · rw [hF.1.1 56 (by decide) (by decide)]; exact b
  · rw [hF.1.1 57 (by decide) (by decide), hF.1.1 58 (by decide) (by decide), hF.1.1 59 (by decide) (by decide)]; exact c
  · rw [hF.1.1 57 (by decide) (by decide)]; exact d
theorem Ba_58 {h : mu_H} {cl : List Cla} {x : Int32} (hB0 : Ba hS n h cl) : Ba hS n (ui h 58 (140 * n + cl.length) x) cl := by
  obtain ⟨a, b, c, d⟩ := hB0
  refine ⟨MG_trans a (MG_58 (by omega)), ?_, ?_, ?_⟩
  · rw [ui_n (by decide)]; exact b
  · rw [ui_n (by decide), ui_s, ui_n (by decide)]
    exact mix_cg cl 0 0 c (fun k hk => ⟨rfl, by rw [upd_n (by omega)], rfl⟩)
  · rw [ui_n (by decide)]; exact d
theorem Tm_51 {h h' : mu_H} (hT : Tm h z T) (e1 : h'.1 51 2 = h.1 51 2) (e2 : h'.1 52 = h.1 52) : Tm h' z T := by
  rw [Tm, e1, e2]; exact hT
theorem MF_T {h : mu_H} (hF : MF n hB h) (hT : Tm hB z T) : Tm h z T := Tm_fr hF.1 (by decide) (by decide) hT
theorem tail_2 (hL : Lc N z T n hc0 hB) {cl : List Cla} {y0 : List Tok} {x : Int32} {hcA : mu_H} {Y : Option mu_H} {p pA : Nat} {G : List Tok → Prop} (hR : Rs hc0 hB z n (f_LRd_readCondition N hcA 0 x) Y pA 0 (lay 0 cl ++ y0.map clT) (fl_t cl ++ y0) 278 G) (hG : ∀ xs, G xs → Gd 18 (y0 ++ xs) isB) (hok0 : ∀ t ∈ y0, okT t) (hb : Ba hS n hB cl) (hcl : cl.length < 140) (l1 : (lay 0 cl).length + y0.length + 2 ≤ pA) (l2 : (fl_t cl).length + y0.length + 2 ≤ pA) (l3 : p + 2 ≤ pA) : RC hc0 hS z n (K15 N x hcA) (Y.bind fun h => J15 N (nI (140 * n + cl.length)) 1 h) p cl := by
  obtain ⟨hTc, hTm, hn, hN⟩ := hL
  have hz := hTc.1
  have i2 : ix (nI (140 * n + cl.length)) 700 = true := ix_nI (by omega) (by decide)
  have c2 := nI_clamp (show 140 * n + cl.length < 2147483648 by omega)
  have i1 : ix (nI n) 5 = true := ix_nI (by omega) (by decide)
  have c1 := nI_clamp (show n < 2147483648 by omega)
  have h10 : ((1 : Int32) = 0) = False := by decide
  rcases hR with ⟨e, hc', hm', a1, a2, a3, a4, a5⟩ | ⟨q, xs, hc', hm', a1, a2, a3, a4, a5, a6, a7, a8⟩
  · have E1 := GE_E hb.1 a5
    have E2 : GE hS n (ui hm' 58 (140 * n + cl.length) (hm'.1 57 (140 * n + cl.length))) e := ⟨MG_trans E1.1 (MG_58 (by omega)), by rw [ui_n (by decide)]; exact E1.2.1, by rw [ui_n (by decide)]; exact E1.2.2⟩
    obtain ⟨h', e1, E3⟩ := fin_e E2 hn (k := 140 * n + cl.length) (by omega) (by omega)
    refine Or.inl ⟨e, hc', h', a1, ?_, ?_, a4, E3⟩
    · rw [K15, a2, bi_some, if_pos rfl]
    · simp only [a3, bd_some, J15, i2, gd_t, bn_eq, c2, h10, GE_w E2 (show e < 1000 by omega), ↓reduceIte, e1]
  · have hg := hG xs a7
    have hne := Gd_ne hg (by omega)
    rw [List.append_assoc, ← List.map_append] at a5
    rw [List.append_assoc] at a6
    have hoky : ∀ t ∈ y0 ++ xs, okT t := fun t ht => by
      rcases List.mem_append.mp ht with w | w
      · exact hok0 t w
      · exact a8 t w
    have ly : (y0 ++ xs).length = y0.length + xs.length := List.length_append
    generalize hy : y0 ++ xs = ys at *
    have lc : (lay 0 cl ++ ys.map clT).length = (lay 0 cl).length + ys.length := by rw [List.length_append, List.length_map]
    have lt : (fl_t cl ++ ys).length = (fl_t cl).length + ys.length := by rw [List.length_append]
    have hb1 := Ba_F hb a6.1
    have hT1 := MF_T a6.1 hTm
    -- behind the condition
    obtain ⟨h18, e18⟩ : ∃ h18, h18 = ui hm' 58 (140 * n + cl.length) (hm'.1 57 (140 * n + cl.length)) := ⟨_, rfl⟩
    have hb18 : Ba hS n h18 cl := by rw [e18]; exact Ba_58 hb1
    have M18 : MS h18 n h18 q 0 (fl_t cl ++ ys) := MS_re a6 (by rw [e18, ui_n (by decide)]) (by rw [e18, ui_n (by decide)]) (by rw [e18, ui_n (by decide)]) (by rw [e18, ui_n (by decide)])
    have hT18 : Tm h18 z T := Tm_51 hT1 (by rw [e18, ui_n (by decide)]) (by rw [e18, ui_n (by decide)])
    obtain ⟨h24, m1, M24⟩ := MS_look hT18 hN M18 a1
    have hs := sg_lt hT18 (nb T z q)
    obtain ⟨b1, b2, b3⟩ := nb_p (T := T) a1
    have w18 : (h18.1 51 4 = -1) = True := eq_true M18.2.2.1
    have hsk := CS_skip (N := N) (c := 63) hTc hN a5 a1 (by decide) (by decide)
    have p63 : (mJ (sg T z (nb T z q)) = 63) = (sg T z (nb T z q) = 63) := mJ_eq (k := 63) hs (by decide) (by decide)
    rcases hsk with ⟨s1, s2, hc5, s3, C5⟩ | ⟨s1, hc5, s3, C5⟩
    · have s3 : f_LRd_skip N hc' 63 = some (1, hc5) := s3
      rw [eq_true s1] at p63
      generalize nb T z q = r at *
      have M26 := MS_inc M24
      obtain ⟨h27, e27⟩ : ∃ h27, h27 = ui (ui h24 51 3 (h24.1 51 3 + 1)) 58 (140 * n + cl.length) (nI (fl_t cl ++ ys).length) := ⟨_, rfl⟩
      have M27 : MS h27 n h27 (r + 1) 0 (fl_t cl ++ ys) := MS_re M26 (by rw [e27, ui_n (by decide)]) (by rw [e27, ui_n (by decide)]) (by rw [e27, ui_n (by decide)]) (by rw [e27, ui_n (by decide)])
      have hb27 : Ba hS n h27 cl := by rw [e27]; exact Ba_58 (Ba_F hb18 M26.1)
      have hT27 : Tm h27 z T := Tm_51 (MF_T M26.1 hT18) (by rw [e27, ui_n (by decide)]) (by rw [e27, ui_n (by decide)])
      have k58 : h27.1 58 (140 * n + cl.length) = nI ((fl_t cl).length + ys.length) := by rw [e27, ui_s, upd_s, lt]
      have t26 := M26.2.2.2.2.1
      have t55 := M26.2.2.2.2.2.1
      obtain ⟨hc6, d1, C6⟩ := CS_add (N := N) C5 (by omega) (-1000)
      have lc6 : (lay 0 cl ++ ys.map clT ++ [(-1000 : Int32)]).length = (lay 0 cl).length + ys.length + 1 := by rw [List.length_append, lc]; rfl
      have hSm := sum_q (d := 0) ⟨hTc, hT27, hn, hN⟩ (by decide) hc6 h27 (r + 1) _ _ C6 M27 (by omega) (by omega) (by omega)
      have eY : (Y.bind fun h => J15 N (nI (140 * n + cl.length)) 1 h) = (f_Mod_sum N h27).bind fun h28 => J19 (nI (140 * n + cl.length)) h28 := by
        simp only [a4, bd_some, J15, i2, gd_t, bn_eq, c2, h10, ← e18, w18, m1, bi_some, p63, ↓reduceIte, t26, i1, c1, t55, ← e27]
      have eX : K15 N x hcA = bi (f_LRd_readSum N hc6 0) fun x25 h26 => if x25 = 0 then some (0, h26) else (f_Law_add N h26 11 (-59)).bind fun h28 => (f_Law_leapFrom N h28 11 (nI (lay 0 cl ++ ys.map clT).length)).bind fun h29 => some (1, h29) := by
        simp only [K15, a3, bi_some, h10, s3, ↓reduceIte, f_Law_size, C5.2.2.1, bd_some, d1]
      rw [eX, eY]
      rcases hSm with ⟨e, hc7, hm7, y1, y2, y3, y4, y5⟩ | ⟨q2, zs, hc7, hm7, y1, y2, y3, y4, y5, y6, y7, y8⟩
      · have y2 : f_LRd_readSum N hc6 0 = some (0, hc7) := y2
        have E1 := GE_E hb27.1 y5
        obtain ⟨h', e1, E3⟩ := fin_e E1 hn (k := 140 * n + cl.length) (by omega) (by omega)
        refine Or.inl ⟨e, hc7, h', y1, ?_, ?_, y4, E3⟩
        · rw [y2, bi_some, if_pos rfl]
        · rw [y3, bd_some, e1]
      · have y3 : f_LRd_readSum N hc6 0 = some (1, hc7) := y3
        have hb7 := Ba_F hb27 y6.1
        have lz : (lay 0 cl ++ ys.map clT ++ [(-1000 : Int32)] ++ zs.map clT).length = (lay 0 cl).length + ys.length + 1 + zs.length := by rw [List.length_append, lc6, List.length_map]
        obtain ⟨hc8, d2, C8⟩ := CS_add (N := N) y5 (by omega) (-59)
        have ea : lay 0 cl ++ ys.map clT ++ [(-1000 : Int32)] ++ zs.map clT ++ [-59] = (lay 0 cl ++ ys.map clT) ++ (-1000) :: (zs.map clT ++ [-59]) := by
          simp only [List.append_assoc, List.cons_append, List.nil_append]
        rw [ea] at C8
        have lf : ((lay 0 cl ++ ys.map clT) ++ (-1000 : Int32) :: (zs.map clT ++ [-59])).length = (lay 0 cl).length + ys.length + zs.length + 2 := by
          rw [← ea, List.length_append, lz]; show _ + 1 = _; omega
        obtain ⟨hc9, d3, C9⟩ := CS_leap (N := N) C8 (by omega)
        rw [lf] at C9
        have hcne : ¬ ((ys, zs) : Cla).1 = [] := fun w => by
          have w : ys = [] := w
          rw [w] at hne; exact absurd hne (by decide)
        have elay : lay 0 (cl ++ [(ys, zs)]) = (lay 0 cl ++ ys.map clT) ++ (-1000 - nI ((lay 0 cl).length + ys.length + zs.length + 2)) :: (zs.map clT ++ [-59]) := by
          rw [lay_snoc, ofC_1 hcne, Nat.zero_add]
          simp only [List.append_assoc, List.cons_append, List.nil_append]
        rw [List.append_assoc] at y6
        obtain ⟨h', e1, W⟩ := fin_s (c := (ys, zs)) hn hcl hb7.1 y6 hb7.2.1 hb7.2.2.1 hb7.2.2.2 (by rw [y6.1.1.1 58 (by decide) (by decide)]; exact k58)
        refine Or.inr ⟨q2, (ys, zs), hc9, h', y1, by omega, ?_, ?_, by rw [elay]; exact C9, W, ⟨Or.inr hg, y7, ?_⟩, ?_, ?_⟩
        · rw [y3, bi_some, if_neg (show ¬ (1 : Int32) = 0 by decide), d2, bd_some, d3, bd_some]
        · rw [y4, bd_some, e1]
        · intro t ht
          rcases List.mem_append.mp ht with w | w
          · exact hoky t w
          · exact y8 t w
        · rw [elay, List.length_append, lc, List.length_cons, List.length_append, List.length_map]
          show (lay 0 cl).length + ys.length + (zs.length + 1 + 1) ≤ q2
          omega
        · rw [flt_snoc, List.length_append, List.length_append]
          show (fl_t cl).length + (ys.length + zs.length) ≤ q2
          omega
    · have s3 : f_LRd_skip N hc' 63 = some (0, hc5) := s3
      rw [eq_false s1] at p63
      obtain ⟨hm9, o1, E9⟩ := MS_bad (N := N) (b := 500) M24 (by omega)
      refine Or.inl ⟨nb T z q, hc5, hm9, b2, ?_, ?_, CS_E C5, GE_E hb18.1 E9⟩
      · simp only [K15, a3, bi_some, h10, s3, ↓reduceIte]
      · simp only [a4, bd_some, J15, i2, gd_t, bn_eq, c2, h10, ← e18, w18, m1, bi_some, p63, ↓reduceIte, o1]
theorem J15_0 {h : mu_H} {k : Nat} (hk : k < 700) : J15 N (nI k) 0 h = J19 (nI k) (ui h 58 k (h.1 57 k)) := by
  rw [J15, ix_nI hk (by decide), gd_t, gd_t, bn_eq, nI_clamp (show k < 2147483648 by omega), if_pos rfl]
theorem J12_e {h h' : mu_H} {x1 : Int32} (e1 : f_Mod_sum N h = some h') (hw : ¬ h'.1 51 4 = -1) : J12 N x1 0 h = J15 N x1 0 h' := by
  rw [J12, if_pos rfl, e1, bd_some, if_neg hw]
theorem J12_n {h h' h'' : mu_H} {x1 x2 : Int32} (e1 : f_Mod_sum N h = some h') (hw : h'.1 51 4 = -1) (e2 : f_Mod_look N h' = some (x2, h'')) (e3 : f_Mod_isSign N h'' x2 = some 0) : J12 N x1 0 h = J15 N x1 0 h'' := by
  rw [J12, if_pos rfl, e1, bd_some, if_pos hw, e2, bi_some, e3, bd_some, if_pos rfl]
/-- behind y and : -/
theorem body_2 (hL : Lc N z T n hc0 hB) {cl : List Cla} {hc : mu_H} {p p2 : Nat} (hC : CS hc0 hc p2 (lay 0 cl)) (hM : MS hB n hB p2 0 (fl_t cl)) (hb : Ba hS n hB cl) (hcl : cl.length < 140) (hp : p2 ≤ z) (l1 : (lay 0 cl).length + 2 ≤ p2) (l2 : (fl_t cl).length + 2 ≤ p2) (l3 : p + 2 ≤ p2) : RC hc0 hS z n (K5 N hc) (bi (f_Mod_look N hB) fun x9 h10 => if x9 = 33 then J12 N (nI (140 * n + cl.length)) 1 h10 else bi (f_Mod_look N h10) fun x46 h47 => if x46 = 40 then J12 N (nI (140 * n + cl.length)) 1 h47 else J12 N (nI (140 * n + cl.length)) 0 h47) p cl := by
  have hL0 := hL
  obtain ⟨hTc, hTm, hn, hN⟩ := hL
  have hz := hTc.1
  have h10 : ((1 : Int32) = 0) = False := by decide
  obtain ⟨hc1, c1, C1⟩ := CS_next hTc hN hC hp
  obtain ⟨hm1, m1, M1⟩ := MS_look hTm hN hM hp
  obtain ⟨b1, b2, b3⟩ := nb_p (T := T) hp
  have hs := sg_lt hTm (nb T z p2)
  have c2 := CS_nx0 (N := N) hTc hN C1 b2 b3
  have m2 := MS_lk0 (N := N) hTm hN M1 b2 b3
  have n1 : (nI (sg T z (nb T z p2)) = 33) = (sg T z (nb T z p2) = 33) := nI_eq_i (b := 33) (by omega) (by decide)
  have n2 : (nI (sg T z (nb T z p2)) = 40) = (sg T z (nb T z p2) = 40) := nI_eq_i (b := 40) (by omega) (by decide)
  have p1 : (mJ (sg T z (nb T z p2)) = 33) = (sg T z (nb T z p2) = 33) := mJ_eq (k := 33) hs (by decide) (by decide)
  have p2' : (mJ (sg T z (nb T z p2)) = 40) = (sg T z (nb T z p2) = 40) := mJ_eq (k := 40) hs (by decide) (by decide)
  generalize nb T z p2 = q at *
  by_cases k : sg T z q = 33 ∨ sg T z q = 40
  · have eX : K5 N hc = K15 N 0 hc1 := by
      rcases k with k | k
      · rw [eq_true k] at n1
        simp only [K5, c1, bi_some, n1, ↓reduceIte, K10, K13]
      · rw [eq_true k] at n2
        rw [eq_false (show ¬ sg T z q = 33 by omega)] at n1
        simp only [K5, c1, bi_some, n1, n2, ↓reduceIte, K10, K13, c2]
    have eY : (bi (f_Mod_look N hB) fun x9 h10 => if x9 = 33 then J12 N (nI (140 * n + cl.length)) 1 h10 else bi (f_Mod_look N h10) fun x46 h47 => if x46 = 40 then J12 N (nI (140 * n + cl.length)) 1 h47 else J12 N (nI (140 * n + cl.length)) 0 h47) = (f_Mod_condition N hm1).bind fun h43 => J15 N (nI (140 * n + cl.length)) 1 h43 := by
      rcases k with k | k
      · rw [eq_true k] at p1
        simp only [m1, bi_some, p1, ↓reduceIte, J12, h10]
      · rw [eq_true k] at p2'
        rw [eq_false (show ¬ sg T z q = 33 by omega)] at p1
        simp only [m1, bi_some, p1, p2', ↓reduceIte, J12, m2, h10]
    rw [eX, eY]
    have hR := cond_q hL0 hc1 hm1 q _ _ C1 M1 b2 (by omega) (by omega)
    have hR : Rs hc0 hB z n (f_LRd_readCondition N hc1 0 0) (f_Mod_condition N hm1) q 0 (lay 0 cl ++ ([] : List Tok).map clT) (fl_t cl ++ []) 278 (fun xs => Gd 18 xs isB) := by
      rw [List.map_nil, List.append_nil, List.append_nil]; exact hR
    exact tail_2 hL0 hR (fun xs h => h) (fun t ht => absurd ht (by simp)) hb hcl (by rw [List.length_nil]; omega) (by rw [List.length_nil]; omega) (by omega)
  · rw [eq_false (fun w => k (Or.inl w))] at n1 p1
    rw [eq_false (fun w => k (Or.inr w))] at n2 p2'
    have eX : K5 N hc = bi (f_LRd_readSum N hc1 0) fun x35 h36 => if x35 = 0 then some (0, h36) else K13 N 1 h36 := by
      simp only [K5, c1, bi_some, n1, n2, ↓reduceIte, K10, c2, h10]
    have eY : (bi (f_Mod_look N hB) fun x9 h10 => if x9 = 33 then J12 N (nI (140 * n + cl.length)) 1 h10 else bi (f_Mod_look N h10) fun x46 h47 => if x46 = 40 then J12 N (nI (140 * n + cl.length)) 1 h47 else J12 N (nI (140 * n + cl.length)) 0 h47) = J12 N (nI (140 * n + cl.length)) 0 hm1 := by
      simp only [m1, bi_some, p1, p2', ↓reduceIte, m2]
    rw [eX, eY]
    have i2 : ix (nI (140 * n + cl.length)) 700 = true := ix_nI (by omega) (by decide)
    have cc2 := nI_clamp (show 140 * n + cl.length < 2147483648 by omega)
    have hSm := sum_q (d := 0) hL0 (by decide) hc1 hm1 q _ _ C1 M1 b2 (by omega) (by omega)
    rcases hSm with ⟨e, hc7, hm7, y1, y2, y3, y4, y5⟩ | ⟨q2, zs, hc7, hm7, y1, y2, y3, y4, y5, y6, y7, y8⟩
    · have y2 : f_LRd_readSum N hc1 0 = some (0, hc7) := y2
      have E1 := GE_E hb.1 y5
      have E2 : GE hS n (ui hm7 58 (140 * n + cl.length) (hm7.1 57 (140 * n + cl.length))) e := ⟨MG_trans E1.1 (MG_58 (by omega)), by rw [ui_n (by decide)]; exact E1.2.1, by rw [ui_n (by decide)]; exact E1.2.2⟩
      obtain ⟨h', e1, E3⟩ := fin_e E2 hn (k := 140 * n + cl.length) (by omega) (by omega)
      refine Or.inl ⟨e, hc7, h', y1, ?_, ?_, y4, E3⟩
      · rw [y2, bi_some, if_pos rfl]
      · rw [J12_e y3 (fun w => by rw [GE_w E1 (by omega)] at w; exact w), J15_0 (by omega)]; exact e1
    · have y3 : f_LRd_readSum N hc1 0 = some (1, hc7) := y3
      have lc : (lay 0 cl ++ zs.map clT).length = (lay 0 cl).length + zs.length := by rw [List.length_append, List.length_map]
      have lt : (fl_t cl ++ zs).length = (fl_t cl).length + zs.length := by rw [List.length_append]
      have hb7 := Ba_F hb y6.1
      have w7 : (hm7.1 51 4 = -1) = True := eq_true y6.2.2.1
      obtain ⟨hc8, c8, C8⟩ := CS_next hTc hN y5 y1
      obtain ⟨hm8, m8, M8⟩ := MS_look hTm hN y6 y1
      obtain ⟨r1, r2, r3⟩ := nb_p (T := T) y1
      have hs8 := sg_lt hTm (nb T z q2)
      have g1 := (sgn_c (N := N) hs8 (h := hc8)).1
      have g2 := (sgn_c (N := N) hs8 (h := hm8)).2
      generalize nb T z q2 = r at *
      have hb8 := Ba_F hb M8.1
      by_cases ks : sg T z r = 61 ∨ sg T z r = 60 ∨ sg T z r = 62
      · rw [if_pos ks] at g1 g2
        have eX2 : (bi (f_LRd_readSum N hc1 0) fun x35 h36 => if x35 = 0 then some (0, h36) else K13 N 1 h36) = K15 N 1 hc8 := by
          simp only [y3, bi_some, h10, ↓reduceIte, K13, c8, g1, bd_some]
        have eY2 : J12 N (nI (140 * n + cl.length)) 0 hm1 = ((f_Mod_compare N hm8).bind fun h => (f_Mod_goOnAnd N h).bind fun h => f_Mod_goOnOr N h).bind fun h => J15 N (nI (140 * n + cl.length)) 1 h := by
          simp only [J12, y4, bd_some, ↓reduceIte, w7, m8, bi_some, g2, h10]
          rw [bd_bd, bd_bd]
          congr 1
          rw [bd_bd]
        rw [eX2, eY2]
        have hR := cond_b hL0 C8 M8 r2 (by omega) (by omega) (by omega) r3
        exact tail_2 hL0 hR (fun xs h => h zs (Gd_mono y7 (by omega))) y8 hb hcl (by omega) (by omega) (by omega)
      · rw [if_neg ks] at g1 g2
        obtain ⟨hc9, d1, C9⟩ := CS_add (N := N) C8 (by omega) (-59)
        obtain ⟨h18, e18⟩ : ∃ h18, h18 = ui hm8 58 (140 * n + cl.length) (hm8.1 57 (140 * n + cl.length)) := ⟨_, rfl⟩
        have hb18 : Ba hS n h18 cl := by rw [e18]; exact Ba_58 hb8
        have M18 : MS h18 n h18 r 0 (fl_t cl ++ zs) := MS_re M8 (by rw [e18, ui_n (by decide)]) (by rw [e18, ui_n (by decide)]) (by rw [e18, ui_n (by decide)]) (by rw [e18, ui_n (by decide)])
        obtain ⟨h', e1, W⟩ := fin_s (c := ([], zs)) hn hcl hb18.1 M18 hb18.2.1 hb18.2.2.1 hb18.2.2.2 (by rw [e18, ui_s, upd_s]; exact hb8.2.2.2)
        have elay : lay 0 (cl ++ [([], zs)]) = lay 0 cl ++ zs.map clT ++ [-59] := by
          rw [lay_snoc, ofC_0 rfl, List.append_assoc]
        refine Or.inr ⟨r, ([], zs), hc9, h', r2, by omega, ?_, ?_, by rw [elay]; exact C9, W, ⟨Or.inl rfl, y7, fun t ht => y8 t ht⟩, ?_, ?_⟩
        · simp only [y3, bi_some, h10, ↓reduceIte, K13, c8, g1, bd_some, d1]
        · rw [J12_n y4 y6.2.2.1 m8 g2, J15_0 (by omega), ← e18]; exact e1
        · rw [elay, List.length_append, lc]; show _ + 1 ≤ r; omega
        · rw [flt_snoc, List.length_append]; show (fl_t cl).length + zs.length ≤ r; omega
end Law2
