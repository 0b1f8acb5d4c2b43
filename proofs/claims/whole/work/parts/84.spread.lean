/-! the class's ways, over its cells -/
def eaH (h : mu_H) (r : Nat) : Nat := tn (pA h r)
def ebH (h : mu_H) (r : Nat) : Nat := tn (pB h r)
def wrH (h : mu_H) (r : Nat) : Nat := tn (h.1 15 r)
def lnH (h : mu_H) (r : Nat) : Nat := 512 * wrH h r + 2 ^ r
def WRw (X : Nat → Int32) (D : Nat → Nat) : Nat → Int32 := fun p => if p < 8 then nI (D p) else X p
theorem wr_upd {X : Nat → Int32} {D : Nat → Nat} {a x : Nat} (ha : a < 8) : upd (WRw X D) a (nI x) = WRw X (uN D a x) := by
  funext p
  by_cases c : p = a
  · subst c; rw [upd_s, WRw, if_pos ha, uN_s]
  · rw [upd_n c, WRw, WRw, uN_n c]
theorem mmin_n {a b : Nat} (ha : a < 2147483648) (hb : b < 2147483648) : z_mmin (nI a) (nI b) = nI (min a b) := by
  rw [z_mmin]
  by_cases c : b < a
  · rw [if_pos ((nI_ltI hb ha).mpr c), Nat.min_eq_right (by omega)]
  · rw [if_neg (fun q => c ((nI_ltI hb ha).mp q)), Nat.min_eq_left (by omega)]
def Dw (h : mu_H) (s src : Nat) : Nat → Nat := Nat.repeat (rnw s (eaH h) (ebH h) (lnH h)) 7 (D0 src)
section Spread
variable {N s u : Nat} {hc hm : mu_H}
theorem gr_b (hp : Ipar (mg hc hm) s u) : (∀ r, r < s → eaH hc r < 8 ∧ ebH hc r < 8) ∧ (∀ r, r < s → ¬ eaH hc r = ebH hc r) ∧ ∀ r, r < s → pA hc r = nI (eaH hc r) ∧ pB hc r = nI (ebH hc r) := by
  have key : ∀ r, r < s → eaH hc r < 8 ∧ ebH hc r < 8 ∧ ¬ eaH hc r = ebH hc r ∧ pA hc r = nI (eaH hc r) ∧ pB hc r = nI (ebH hc r) := by
    intro r hr
    obtain ⟨-, a, b, c, -⟩ := hp.2.2.2.2.2.2.2.2.1 r hr
    obtain ⟨a1, a2⟩ := bN_tn (x := pA hc r) a (by decide)
    obtain ⟨b1, b2⟩ := bN_tn (x := pB hc r) b (by decide)
    have c : ¬ pA hc r = pB hc r := c
    refine ⟨Nat.lt_succ_of_le a1, Nat.lt_succ_of_le b1, fun q => c ?_, a2, b2⟩
    rw [a2, b2]
    exact congrArg nI q
  exact ⟨fun r hr => ⟨(key r hr).1, (key r hr).2.1⟩, fun r hr => (key r hr).2.2.1, fun r hr => (key r hr).2.2.2⟩
theorem spr_36 (hN : 3000 ≤ N) (hp : Ipar (mg hc hm) s u) (hw : ∀ r, r < s → wrH hc r ≤ 99 ∧ hc.1 15 r = nI (wrH hc r)) {X : Nat → Int32} {D : Nat → Nat} (hD : ∀ p, D p ≤ 1000000000) (k : mu_H → Option mu_H) : lp (f_Roa_spreadFrom_L36 N k) N (0, ur hc 38 (WRw X D)) = k (ur hc 38 (WRw X (rnw s (eaH hc) (ebH hc) (lnH hc) D))) := by
  have h9 := hp.1
  have e3 : hc.1 3 2 = nI s := hp.2.2.2.1
  obtain ⟨g1, g2, g3⟩ := gr_b hp
  refine lp_end (body := f_Roa_spreadFrom_L36 N k) (fun i => (nI i, ur hc 38 (WRw X (fold (rlx (eaH hc) (ebH hc) (lnH hc)) D i)))) s (v := k (ur hc 38 (WRw X (rnw s (eaH hc) (ebH hc) (lnH hc) D)))) ?_ ?_ (f := N) (by omega)
  · intro i hi rec
    simp only [fold]
    have hle : ∀ p, fold (rlx (eaH hc) (ebH hc) (lnH hc)) D i p ≤ 1000000000 := fun p => Nat.le_trans (rnw_le p i) (hD p)
    generalize fold (rlx (eaH hc) (ebH hc) (lnH hc)) D i = E at hle
    obtain ⟨ga, gb⟩ := g1 i hi
    obtain ⟨pa, pb⟩ := g3 i hi
    obtain ⟨w1, w2⟩ := hw i hi
    have h2i : 2 ^ i ≤ 2 ^ 8 := Nat.pow_le_pow_right (by decide) (by omega)
    have h8 : 2 ^ 8 = 256 := rfl
    have hln : nI (wrH hc i) * 512 + (1 : Int32) <<< (nI i &&& 31) = nI (lnH hc i) := by
      rw [sh_1 (by omega), show (512 : Int32) = nI 512 from rfl, pk_mul, nI_add, lnH, Nat.mul_comm]
    have hl2 : lnH hc i ≤ 60000 := by rw [lnH]; omega
    have la := hle (eaH hc i)
    have lb := hle (ebH hc i)
    have x15 : (ur hc 38 (WRw X E)).1 15 = hc.1 15 := ur_n (by decide)
    have wE : ∀ (F : Nat → Nat) (p : Nat), p < 8 → WRw X F p = nI (F p) := fun F p hp => if_pos hp
    have m1 : z_mmin (nI (E (eaH hc i))) (nI (E (ebH hc i)) + nI (lnH hc i)) = nI (min (E (eaH hc i)) (E (ebH hc i) + lnH hc i)) := by
      rw [nI_add, mmin_n (by omega) (by omega)]
    have hne := g2 i hi
    obtain ⟨E1, hE1⟩ : ∃ E1, E1 = uN E (eaH hc i) (min (E (eaH hc i)) (E (ebH hc i) + lnH hc i)) := ⟨_, rfl⟩
    have la1 : E1 (eaH hc i) ≤ 1000000000 := by rw [hE1, uN_s]; omega
    have lb1 : E1 (ebH hc i) ≤ 1000000000 := by rw [hE1, uN_n (fun q => hne q.symm)]; exact lb
    have m2 : z_mmin (nI (E1 (ebH hc i))) (nI (E1 (eaH hc i)) + nI (lnH hc i)) = nI (min (E1 (ebH hc i)) (E1 (eaH hc i) + lnH hc i)) := by
      rw [nI_add, mmin_n (by omega) (by omega)]
    have hr : rlx (eaH hc) (ebH hc) (lnH hc) i E = uN E1 (ebH hc i) (min (E1 (ebH hc i)) (E1 (eaH hc i) + lnH hc i)) := by rw [rlx, ← hE1]
    rw [hr]
    have hwv := wearS (N := N) (h := ur hc 38 (WRw X E)) (o := 14) (show i < 34 by omega)
    rw [show (ur hc 38 (WRw X E)).1 (14 + 1) i = nI (wrH hc i) from by rw [show 14 + 1 = 15 from rfl, x15]; exact w2] at hwv
    have o0 : f_Par_ofStretch N (ur hc 38 (WRw X E)) 3 (nI i) 0 = some (nI (eaH hc i)) := by
      rw [ofS0 (by omega)]; exact congrArg some pa
    have o1 : f_Par_ofStretch N (ur hc 38 (WRw X E)) 3 (nI i) 1 = some (nI (ebH hc i)) := by
      rw [ofS1 (by omega)]; exact congrArg some pb
    have hst : f_Par_stretches N (ur hc 38 (WRw X E)) 3 = some (nI s) := by
      rw [← e3]; rfl
    rw [f_Roa_spreadFrom_L36, hst, bd_some, if_neg (fun q => by have := (nI_leI (by omega) (by omega)).mp q; omega), hwv, bd_some, bn_eq, hln, o0, bd_some, o1, bd_some, ix_nI ga (by decide), gd_t, ix_nI gb (by decide), gd_t, gd_t, bn_eq, nI_clamp (by omega), nI_clamp (by omega), ur_1, wE E _ ga, wE E _ gb, m1, ui_ur, wr_upd ga, ← hE1, gd_t, gd_t, gd_t, bn_eq, ur_1, wE E1 _ ga, wE E1 _ gb, m2, ui_ur, wr_upd gb, nI_1]
  · intro rec
    have hst : f_Par_stretches N (ur hc 38 (WRw X (fold (rlx (eaH hc) (ebH hc) (lnH hc)) D s))) 3 = some (nI s) := by
      rw [← e3]; rfl
    rw [f_Roa_spreadFrom_L36, hst, bd_some, if_pos ((nI_leI (by omega) (by omega)).mpr (Nat.le_refl s)), rnw]
theorem spr_from (hN : 3000 ≤ N) (hp : Ipar (mg hc hm) s u) (hw : ∀ r, r < s → wrH hc r ≤ 99 ∧ hc.1 15 r = nI (wrH hc r)) {src : Nat} (hsrc : src < 8) : ∃ X, f_Roa_spreadFrom N hc (nI src) = some (ur hc 38 (WRw X (Dw hc s src))) := by
  have h9 := hp.1
  obtain ⟨-, g2, -⟩ := gr_b hp
  have hf := fill_c (N := N) (h := hc) (q := 38) (n := 8) (v := 1000000000) (by omega) (by decide)
  refine ⟨hc.1 38, ?_⟩
  have e0 : upd (fun k => if k < 8 then 1000000000 else hc.1 38 k) src 0 = WRw (hc.1 38) (D0 src) := by
    funext p
    by_cases c : p = src
    · subst c; rw [upd_s, WRw, if_pos hsrc, D0, if_pos rfl]; rfl
    · rw [upd_n c, WRw, D0, if_neg c]; rfl
  have n0 : ¬ nI src < 0 := nI_pos (by omega)
  have n8 : ¬ (8 : Int32) ≤ nI src := nI_ge (b := 8) (by omega) (by decide)
  have hle := fun k => (D7 (s := s) (ln := lnH hc) g2 src k).2.2
  have key := lp_end (body := f_Roa_spreadFrom_L28 N) (fun i => (nI (i + 1), ur hc 38 (WRw (hc.1 38) (Nat.repeat (rnw s (eaH hc) (ebH hc) (lnH hc)) i (D0 src))))) 7 (v := some (ur hc 38 (WRw (hc.1 38) (Dw hc s src)))) (fun i hi rec => by
    have h3 := spr_36 (N := N) (X := hc.1 38) hN hp hw (hle i) (fun h8 => rec (nI (i + 1) + 1, h8))
    have n8 : ¬ (8 : Int32) ≤ nI (i + 1) := nI_ge (b := 8) (by omega) (by decide)
    rw [f_Roa_spreadFrom_L28, if_neg n8, jn_eq, h3, nI_1]
    rfl) (fun rec => by
    rw [f_Roa_spreadFrom_L28, if_pos (show (8 : Int32) ≤ nI (7 + 1) by decide)]
    rfl) (f := N) (by omega)
  rw [f_Roa_spreadFrom, hf, bd_some, jn_eq, if_neg n0, if_neg n8, ix_nI hsrc (by decide), gd_t, bn_eq, nI_clamp (by omega), ui_ur, e0]
  exact key
end Spread
