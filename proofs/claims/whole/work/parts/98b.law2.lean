/-! reading a law: whole -/
section Law3
variable {N z n : Nat} {T : Nat → Nat} {hc0 hS : mu_H}
theorem clause_2 (hTc : Tc hc0 z T) (hTm : Tm hS z T) (hn : n ≤ 4) (hN : 3000 ≤ N) {cl : List Cla} {hc hm : mu_H} {p : Nat} (hC : CS hc0 hc p (lay 0 cl)) (hW : LW hS n hm p cl) (hp : p ≤ z) (l1 : (lay 0 cl).length ≤ p) (l2 : (fl_t cl).length ≤ p) (l3 : cl.length * 2 ≤ p) : RC hc0 hS z n (f_LRd_readClause N hc) (f_Mod_clause N hm) p cl := by
  have hz := hTc.1
  obtain ⟨g0, hM, w56, wmix⟩ := hW
  have hT0 : Tm hm z T := Tm_fr g0.1 (by decide) (by decide) hTm
  have t14 := hM.2.2.2.2.1
  have i1 : ix (nI n) 5 = true := ix_nI (by omega) (by decide)
  have c1 := nI_clamp (show n < 2147483648 by omega)
  have x1e : 140 * nI n + nI cl.length = nI (140 * n + cl.length) := by
    rw [show (140 : Int32) = nI 140 from rfl, pk_mul, nI_add]
  have eM : f_Mod_clause N hm = bi (f_Mod_look N hm) fun x53 h54 => if x53 = 121 then M2 N (nI (140 * n + cl.length)) h54 else (f_Mod_bad N h54).bind fun h56 => M2 N (nI (140 * n + cl.length)) h56 := by
    rw [cl_m, t14, i1, gd_t, bn_eq, c1, w56, x1e, if_pos hM.2.2.1]
  obtain ⟨hm1, m1, M1⟩ := MS_look hT0 hN hM hp
  have hs := sg_lt hT0 (nb T z p)
  obtain ⟨b1, b2, b3⟩ := nb_p (T := T) hp
  rw [cl_c, eM, m1, bi_some]
  rcases CS_skip (N := N) (c := 121) hTc hN hC hp (by decide) (by decide) with ⟨s1, s2, hc1, s3, C1⟩ | ⟨s1, hc1, s3, C1⟩
  · have s3 : f_LRd_skip N hc 121 = some (1, hc1) := s3
    rw [s3, bi_some, if_neg (show ¬ (1 : Int32) = 0 by decide), if_pos (show mJ (sg T z (nb T z p)) = (121 : Int32) by rw [s1]; rfl)]
    generalize nb T z p = q at *
    have M2' := MS_inc M1
    have hT2 := MF_T M2'.1 hT0
    obtain ⟨hm3, m3, M3⟩ := MS_look hT2 hN (MS_se M2') (show q + 1 ≤ z by omega)
    have hs3 := sg_lt hT2 (nb T z (q + 1))
    obtain ⟨d1, d2, d3⟩ := nb_p (T := T) (show q + 1 ≤ z by omega)
    have eM2 : M2 N (nI (140 * n + cl.length)) hm1 = if mJ (sg T z (nb T z (q + 1))) = 58 then M5 N (nI (140 * n + cl.length)) hm3 else (f_Mod_bad N hm3).bind fun h52 => M5 N (nI (140 * n + cl.length)) h52 := by
      rw [M2, bn_eq, if_pos M2'.2.2.1, m3, bi_some]
    rw [eM2]
    have G3 : MG n hS hm3 := MG_trans g0 (MG_F (MF_trans M2'.1 M3.1))
    rcases CS_skip (N := N) (c := 58) hTc hN C1 (by omega) (by decide) (by decide) with ⟨t1, t2, hc2, t3, C2⟩ | ⟨t1, hc2, t3, C2⟩
    · have t3 : f_LRd_skip N hc1 58 = some (1, hc2) := t3
      rw [t3, bi_some, if_neg (show ¬ (1 : Int32) = 0 by decide), if_pos (show mJ (sg T z (nb T z (q + 1))) = (58 : Int32) by rw [t1]; rfl)]
      generalize nb T z (q + 1) = r at *
      have M4 := MS_inc M3
      have F4 := MF_trans M2'.1 M4.1
      have t4 := M4.2.2.2.2.1
      have t55 := M4.2.2.2.2.2.1
      obtain ⟨hB, eB⟩ : ∃ hB, hB = ui (ui hm3 51 3 (hm3.1 51 3 + 1)) 57 (140 * n + cl.length) (nI (fl_t cl).length) := ⟨_, rfl⟩
      have MB : MS hB n hB (r + 1) 0 (fl_t cl) := MS_re M4 (by rw [eB, ui_n (by decide)]) (by rw [eB, ui_n (by decide)]) (by rw [eB, ui_n (by decide)]) (by rw [eB, ui_n (by decide)])
      have hTB : Tm hB z T := Tm_51 (MF_T F4 hT0) (by rw [eB, ui_n (by decide)]) (by rw [eB, ui_n (by decide)])
      have hBa : Ba hS n hB cl := by
        refine ⟨?_, ?_, ?_, ?_⟩
        · rw [eB]; exact MG_trans (MG_trans g0 (MG_F F4)) (MG_57 (by omega))
        · rw [eB, ui_n (by decide), F4.1.1 56 (by decide) (by decide)]; exact w56
        · rw [show hB.1 57 = upd (hm.1 57) (140 * n + cl.length) (nI (fl_t cl).length) from by rw [eB, ui_s, F4.1.1 57 (by decide) (by decide)], show hB.1 58 = hm.1 58 from by rw [eB, ui_n (by decide), F4.1.1 58 (by decide) (by decide)], show hB.1 59 = hm.1 59 from by rw [eB, ui_n (by decide), F4.1.1 59 (by decide) (by decide)]]
          exact mix_cg cl 0 0 wmix (fun k hk => ⟨by rw [upd_n (by omega)], rfl, rfl⟩)
        · rw [eB, ui_s, upd_s]
      have i2 : ix (nI (140 * n + cl.length)) 700 = true := ix_nI (by omega) (by decide)
      have c2 := nI_clamp (show 140 * n + cl.length < 2147483648 by omega)
      have eM5 : M5 N (nI (140 * n + cl.length)) hm3 = bi (f_Mod_look N hB) fun x9 h10 => if x9 = 33 then J12 N (nI (140 * n + cl.length)) 1 h10 else bi (f_Mod_look N h10) fun x46 h47 => if x46 = 40 then J12 N (nI (140 * n + cl.length)) 1 h47 else J12 N (nI (140 * n + cl.length)) 0 h47 := by
        rw [M5, bn_eq, if_pos M4.2.2.1, t4, i1, gd_t, i2, gd_t, bn_eq, c1, c2, t55, ← eB]
      rw [eM5]
      exact body_2 ⟨hTc, hTB, hn, hN⟩ C2 MB hBa (by omega) (by omega) (by omega) (by omega) (by omega)
    · have t3 : f_LRd_skip N hc1 58 = some (0, hc2) := t3
      rw [t3, bi_some, if_pos rfl, if_neg (show ¬ mJ (sg T z (nb T z (q + 1))) = (58 : Int32) from fun w => t1 ((mJ_n (k := 58) hs3 (by decide) (by decide)).mp w))]
      obtain ⟨hm9, o1, E9⟩ := MS_bad (N := N) (b := 500) M3 (by omega)
      have E10 : GE hS n hm9 (nb T z (q + 1)) := ⟨MG_trans (MG_trans g0 (MG_F M2'.1)) (MG_F E9.1), E9.2.1, E9.2.2.1⟩
      obtain ⟨h', e1, E11⟩ := M5_e (N := N) (x1 := nI (140 * n + cl.length)) E10 (by omega)
      exact Or.inl ⟨nb T z (q + 1), hc2, h', d2, rfl, by rw [o1, bd_some, e1], CS_E C2, E11⟩
  · have s3 : f_LRd_skip N hc 121 = some (0, hc1) := s3
    rw [s3, bi_some, if_pos rfl, if_neg (show ¬ mJ (sg T z (nb T z p)) = (121 : Int32) from fun w => s1 ((mJ_n (k := 121) hs (by decide) (by decide)).mp w))]
    obtain ⟨hm9, o1, E9⟩ := MS_bad (N := N) (b := 500) M1 (by omega)
    have E10 : GE hS n hm9 (nb T z p) := GE_E g0 E9
    obtain ⟨h', e1, E11⟩ := M2_e (N := N) (x1 := nI (140 * n + cl.length)) E10 (by omega)
    exact Or.inl ⟨nb T z p, hc1, h', b2, rfl, by rw [o1, bd_some, e1], CS_E C1, E11⟩
/-- what comes of a law -/
def RLw (hc0 hS : mu_H) (n : Nat) (X Y : Option (Int32 × mu_H)) : Prop :=
  (∃ e hc' hm', e ≤ 240 ∧ X = some (nI e, hc') ∧ Y = some (nI e, hm') ∧ sc [10, 11, 12] hc0 hc' ∧ MG n hS hm') ∨
  (∃ q cl hc' hm', X = some (-1, hc') ∧ Y = some (-1, hm') ∧ CS hc0 hc' q (lay 0 cl) ∧ LW hS n hm' q cl ∧ (∀ c ∈ cl, okC c) ∧ (lay 0 cl).length ≤ 240)
def kL : mu_H → Option (Int32 × mu_H) := fun h4 => some (h4.1 10 2, h4)
def kM (N : Nat) : mu_H → Option (Int32 × mu_H) := fun h4 => bi (f_Mod_atEnd N h4) fun x5 h6 => some (x5, h6)
theorem law_L (hTc : Tc hc0 z T) (hTm : Tm hS z T) (hn : n ≤ 4) (hN : 3000 ≤ N) : ∀ f p x cl hc hm g g', z - p = f → f < g → f + 1 < g' → CS hc0 hc p (lay 0 cl) → LW hS n hm p cl → p ≤ z → (lay 0 cl).length ≤ p → (fl_t cl).length ≤ p → cl.length * 2 ≤ p → (∀ c ∈ cl, okC c) → x ≤ p → RLw hc0 hS n (lp (f_LRd_firstWrong_L14 N kL kL kL) g (nI x, hc)) ((f_Mod_clause N hm).bind fun h2 => lp (f_Mod_readLaw_L9 N (kM N)) g' h2) := by
  have hz := hTc.1
  intro f
  induction f using Nat.strongRecOn with
  | _ f ih =>
    intro p x cl hc hm g g' hf hg hg' hC hW hp l1 l2 l3 hok hx
    obtain ⟨g, rfl⟩ : ∃ q, g = q + 1 := ⟨g - 1, by omega⟩
    obtain ⟨g', rfl⟩ : ∃ q, g' = q + 1 := ⟨g' - 1, by omega⟩
    have h0 : ¬ (240 : Int32) < nI x := fun w => by
      have := (nI_ltI (a := 240) (by decide) (by omega)).mp w
      omega
    rw [lp_1, f_LRd_firstWrong_L14, if_neg h0]
    rcases clause_2 hTc hTm hn hN hC hW hp l1 l2 l3 with ⟨e, hc', hm', a1, a2, a3, a4, a5⟩ | ⟨q, c, hc', hm', a1, a2, a3, a4, a5, a6, a7, a8, a9⟩
    · refine Or.inl ⟨e, hc', hm', by omega, ?_, ?_, a4.1, a5.1⟩
      · rw [a2, bi_some, if_pos rfl, kL, a4.2]
      · have hw := GE_w a5 (show e < 1000 by omega)
        rw [a3, bd_some, lp_1, f_Mod_readLaw_L9]
        simp only [show (nI e = -1) = False from neg1 (by omega), ↓reduceIte, kM, f_Mod_atEnd, jn_eq, bi_some, a5.2.1]
    · rw [a3, bi_some, if_neg (show ¬ (1 : Int32) = 0 by decide), a4, bd_some, lp_1, f_Mod_readLaw_L9]
      obtain ⟨g1, M1, w56, wmix⟩ := a6
      have hT1 : Tm hm' z T := Tm_fr g1.1 (by decide) (by decide) hTm
      obtain ⟨hc2, c2, C2⟩ := CS_next hTc hN a5 a1
      obtain ⟨hm2, m2, M2⟩ := MS_look hT1 hN M1 a1
      have hs := sg_lt hT1 (nb T z q)
      obtain ⟨b1, b2, b3⟩ := nb_p (T := T) a1
      rw [c2, bi_some, if_pos M1.2.2.1, m2, bi_some]
      have hok' : ∀ c' ∈ cl ++ [c], okC c' := fun c' h' => by
        rcases List.mem_append.mp h' with w | w
        · exact hok c' w
        · rw [List.mem_singleton] at w; rw [w]; exact a7
      have lcl : (cl ++ [c]).length = cl.length + 1 := by rw [List.length_append]; rfl
      have m3 := MS_lk0 (N := N) hT1 hN M2 b2 b3
      have W2 : LW hS n hm2 (nb T z q) (cl ++ [c]) := ⟨MG_trans g1 (MG_F M2.1), MS_se M2, by rw [M2.1.1.1 56 (by decide) (by decide)]; exact w56, by rw [M2.1.1.1 57 (by decide) (by decide), M2.1.1.1 58 (by decide) (by decide), M2.1.1.1 59 (by decide) (by decide)]; exact wmix⟩
      by_cases k0 : sg T z (nb T z q) = 0
      · refine Or.inr ⟨nb T z q, cl ++ [c], hc2, hm2, ?_, ?_, C2, W2, hok', by omega⟩
        · rw [if_pos (by rw [k0]; rfl)]
        · rw [k0, show mJ 0 = (-1 : Int32) from rfl, if_neg (show ¬ (-1 : Int32) = 59 by decide)]
          rw [k0, show mJ 0 = (-1 : Int32) from rfl] at m3
          simp only [kM, f_Mod_atEnd, jn_eq, eq_true M2.2.2.1, ↓reduceIte, m3, bi_some, M2.2.2.1]
      · rw [if_neg (show ¬ nI (sg T z (nb T z q)) = 0 from fun w => k0 ((nI_z (by omega)).mp w))]
        have n0 := nb_n (T := T) (z := z) b3
        have hsk := CS_skip (N := N) (c := 59) hTc hN C2 b2 (by decide) (by decide)
        rw [n0] at hsk
        rcases hsk with ⟨s1, s2, hc3, s3, C3⟩ | ⟨s1, hc3, s3, C3⟩
        · have s3 : f_LRd_skip N hc2 59 = some (1, hc3) := s3
          rw [s3, bi_some, if_neg (show ¬ (1 : Int32) = 0 by decide), if_pos (show mJ (sg T z (nb T z q)) = (59 : Int32) by rw [s1]; rfl), bn_eq, nI_1]
          have M3 := MS_inc M2
          have W3 : LW hS n (ui hm2 51 3 (hm2.1 51 3 + 1)) (nb T z q + 1) (cl ++ [c]) := ⟨MG_trans g1 (MG_F M3.1), MS_se M3, by rw [M3.1.1.1 56 (by decide) (by decide)]; exact w56, by rw [M3.1.1.1 57 (by decide) (by decide), M3.1.1.1 58 (by decide) (by decide), M3.1.1.1 59 (by decide) (by decide)]; exact wmix⟩
          exact ih (z - (nb T z q + 1)) (by omega) (nb T z q + 1) (x + 1) (cl ++ [c]) hc3 _ g g' rfl (by omega) (by omega) C3 W3 (by omega) (by omega) (by omega) (by omega) hok' (by omega)
        · have s3 : f_LRd_skip N hc2 59 = some (0, hc3) := s3
          rw [s3, bi_some, if_pos rfl, if_neg (show ¬ mJ (sg T z (nb T z q)) = (59 : Int32) from fun w => s1 ((mJ_n (k := 59) hs (by decide) (by decide)).mp w))]
          obtain ⟨hm4, o1, E4⟩ := MS_bad (N := N) (b := 500) M2 (by omega)
          refine Or.inl ⟨nb T z q, hc3, hm4, by omega, ?_, ?_, C3.1, MG_trans g1 (MG_F E4.1)⟩
          · rw [kL, C3.2.1]
          · have nz : (mJ (sg T z (nb T z q)) = -1) = False := eq_false (fun w => k0 ((mJ_1 hs).mp w))
            simp only [kM, f_Mod_atEnd, jn_eq, eq_true M2.2.2.1, ↓reduceIte, m3, bi_some, nz, o1, bd_some, E4.2.1]
theorem fw_c : f_LRd_firstWrong N hc0 = lp (f_LRd_firstWrong_L14 N kL kL kL) N (0, ui (ui hc0 10 2 0) 11 2 0) := rfl
theorem rl_m {x : Int32} : f_Mod_readLaw N hS x = (f_Mod_open N hS x).bind fun h1 => (f_Mod_clause N h1).bind fun h2 => lp (f_Mod_readLaw_L9 N (kM N)) N h2 := rfl
theorem law_2 (hTc : Tc hc0 z T) (hTm : Tm hS z T) (hn : n ≤ 4) (hN : 3000 ≤ N) : RLw hc0 hS n (f_LRd_firstWrong N hc0) (f_Mod_readLaw N hS (nI n)) := by
  have hz := hTc.1
  have i1 : ix (nI n) 5 = true := ix_nI (by omega) (by decide)
  have c1 := nI_clamp (show n < 2147483648 by omega)
  rw [fw_c, rl_m]
  have eo : f_Mod_open N hS (nI n) = some (ui (ui (ui (ui (ui (ui hS 51 14 (nI n)) 51 3 0) 51 4 (-1)) 51 5 0) 55 n 0) 56 n 0) := by
    rw [f_Mod_open, bn_eq, bn_eq, bn_eq, bn_eq, i1, gd_t, bn_eq, gd_t, bn_eq, c1]
  rw [eo, bd_some]
  have C0 : CS hc0 (ui (ui hc0 10 2 0) 11 2 0) 0 (lay 0 []) := by
    refine ⟨sc_trans (sc_ui (by decide)) (sc_ui (by decide)), ?_, ?_, fun i hi => absurd hi (by show ¬ i < 0; omega)⟩
    · rw [ui_n (by decide), ui_s, upd_s]; rfl
    · rw [ui_s, upd_s]; rfl
  have W0 : LW hS n (ui (ui (ui (ui (ui (ui hS 51 14 (nI n)) 51 3 0) 51 4 (-1)) 51 5 0) 55 n 0) 56 n 0) 0 [] := by
    refine ⟨MG_trans (MG_trans (MG_trans (MG_trans (MG_trans (MG_5 (by decide)) (MG_5 (by decide))) (MG_5 (by decide))) (MG_5 (by decide))) MG_55) MG_56, ⟨MF_refl, ?_, ?_, ?_, ?_, ?_, fun i hi => absurd hi (by show ¬ i < 0; omega)⟩, ?_, trivial⟩
    · rw [ui_n (by decide), ui_n (by decide), u5_n (by decide), u5_n (by decide), u5_s]; rfl
    · rw [ui_n (by decide), ui_n (by decide), u5_n (by decide), u5_s]
    · rw [ui_n (by decide), ui_n (by decide), u5_s]; rfl
    · rw [ui_n (by decide), ui_n (by decide), u5_n (by decide), u5_n (by decide), u5_n (by decide), u5_s]
    · rw [ui_n (by decide), ui_s, upd_s]; rfl
    · rw [ui_s, upd_s]; rfl
  exact law_L hTc hTm hn hN z 0 0 [] _ _ N N (by omega) (by omega) (by omega) C0 W0 (by omega) (by show 0 ≤ 0; omega) (by show 0 ≤ 0; omega) (by show 0 * 2 ≤ 0; omega) (fun c hc => absurd hc (by simp)) (by omega)
end Law3
