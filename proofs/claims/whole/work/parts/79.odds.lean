/-! odds -/
section Odds
variable {N s u r ch : Nat} {hc hm : mu_H}
/-- where a wear comes to: with frost, without -/
def upf (h : mu_H) (r w : Nat) : Nat := wn h True (h.1 15) r w
def unf (h : mu_H) (r w : Nat) : Nat := wn h False (h.1 15) r w
theorem up_b {h : mu_H} {r w : Nat} : upf h r w ≤ 99 ∧ unf h r w ≤ 99 ∧ (w ≤ 99 → w ≤ upf h r w ∧ w ≤ unf h r w) := by
  rw [upf, unf, wn, wn]
  omega
def PRw (X : Nat → Int32) (Q : Nat → Nat) : Nat → Int32 := fun t => if t < 100 then nI (Q t) else X t
/-- the class's row with the last i wears done -/
def Pst (h : mu_H) (r ch : Nat) (Q : Nat → Nat) (i t : Nat) : Nat := (if t + i < 100 then Q t else 0) + sig (fun k => ctr Q ch (upf h r) (unf h r) (99 - k) t) i
theorem Pst_w {Q : Nat → Nat} {i : Nat} (hi : i < 100) : Pst hc r ch Q i (99 - i) = Q (99 - i) := by
  rw [Pst, if_pos (by omega), sig_0 (fun k hk => ?_), Nat.add_zero]
  have hb := (up_b (h := hc) (r := r) (w := 99 - k)).2.2 (by omega)
  rw [ctr, if_neg (by omega), if_neg (by omega)]
theorem Pst_s {Q : Nat → Nat} {i t : Nat} (hi : i < 100) (ht : t < 100) : Pst hc r ch Q (i + 1) t = ((if t = 99 - i then 0 else Pst hc r ch Q i t) + (if upf hc r (99 - i) = t then Q (99 - i) * ch / 100 else 0)) + (if unf hc r (99 - i) = t then Q (99 - i) - Q (99 - i) * ch / 100 else 0) := by
  rw [Pst, sig_s, ctr]
  by_cases c : t = 99 - i
  · have e := Pst_w (hc := hc) (r := r) (ch := ch) (Q := Q) hi
    rw [Pst, if_pos (by omega)] at e
    rw [if_pos c, if_neg (by omega), c]
    omega
  · rw [if_neg c, Pst]
    by_cases d : t + i < 100
    · rw [if_pos d, if_pos (by omega)]; omega
    · rw [if_neg d, if_neg (by omega)]; omega
theorem spr_c (hN : 3000 ≤ N) (hp : Ipar (mg hc hm) s u) (hr : r < s) (hwe : bN (hc.1 15 (9 + r)) 9) (hch : ch ≤ 100) {X : Nat → Int32} {Q : Nat → Nat} (hQ : ∀ t, Q t ≤ 1000000000) : f_Out_spreadParts N (ur hc 47 (PRw X Q)) (nI r) (nI ch) = some (ur hc 47 (PRw X (nxq ch (upf hc r) (unf hc r) Q))) := by
  have h9 := hp.1
  have key := lp_end (body := f_Out_spreadParts_L3 N (nI r) (nI ch)) (fun i => (if i = 100 then -1 else nI (99 - i), ur hc 47 (PRw X (Pst hc r ch Q i)))) 100 (v := some (ur hc 47 (PRw X (Pst hc r ch Q 100)))) ?_ ?_ (f := N) (by omega)
  · have e0 : PRw X (Pst hc r ch Q 0) = PRw X Q := by
      funext t
      rw [PRw, PRw]
      by_cases c : t < 100
      · rw [if_pos c, if_pos c, Pst, if_pos (by omega)]; rfl
      · rw [if_neg c, if_neg c]
    have e1 : PRw X (Pst hc r ch Q 100) = PRw X (nxq ch (upf hc r) (unf hc r) Q) := by
      funext t
      rw [PRw, PRw]
      by_cases c : t < 100
      · rw [if_pos c, if_pos c, Pst, if_neg (by omega), nxq, ← sig_rev 100, Nat.zero_add]
        exact congrArg nI (sig_eq (fun k hk => by rw [show 99 - (100 - 1 - k) = k by omega]))
      · rw [if_neg c, if_neg c]
    simp only [e0, e1] at key
    exact key
  · intro i hi rec
    obtain ⟨w, hw⟩ : ∃ w, w = 99 - i := ⟨_, rfl⟩
    have hw99 : w ≤ 99 := by omega
    have hi1 : ¬ i = 100 := by omega
    simp only [if_neg hi1, ← hw]
    obtain ⟨b1, b2, -⟩ := up_b (h := hc) (r := r) (w := w)
    have hqw := hQ w
    have x4 : PRw X (Pst hc r ch Q i) w = nI (Q w) := by
      rw [PRw, if_pos (by omega), hw, Pst_w (by omega)]
    have hcold := cold_le (q := Q w) hch
    have hmul : Q w * ch ≤ Q w * 100 := Nat.mul_le_mul_left _ hch
    have x5 : ((nI (Q w)).toInt64 * (nI ch).toInt64 / 100).toInt32 = nI (Q w * ch / 100) := by
      rw [nI_64 (by omega), nI_64 (by omega), lI_mul, show (100 : Int64) = lI 100 from rfl, lI_div (by omega) (by decide) (by decide), lI_32]
    have hpX : ∀ P : Nat → Int32, Ipar (mg (ur hc 47 P) hm) s u := fun P => Ipar_fr (mg_same (A := [47]) (B := []) (K := []) (sc_ur (by decide)) sM_refl) (by decide) (by decide) hp
    have w1 : ∀ P : Nat → Int32, f_Lab_wornOn N (ur hc 47 P) (nI r) (nI w) 1 = some (nI (upf hc r w)) := fun P => wn_c (N := N) (R := hc.1 15) (f := 1) (hpX P) hr hw99 hwe True (ur_n (by decide)) (by rw [if_pos trivial])
    have w0 : ∀ P : Nat → Int32, f_Lab_wornOn N (ur hc 47 P) (nI r) (nI w) 0 = some (nI (unf hc r w)) := fun P => wn_c (N := N) (R := hc.1 15) (f := 0) (hpX P) hr hw99 hwe False (ur_n (by decide)) (by rw [if_neg (fun q => q)])
    have x45 : nI (Q w) - nI (Q w * ch / 100) = nI (Q w - Q w * ch / 100) := sub_n hcold (by omega)
    -- the three writes
    obtain ⟨P0, hP0⟩ : ∃ P0, P0 = PRw X (Pst hc r ch Q i) := ⟨_, rfl⟩
    rw [← hP0] at x4
    have hrow : upd (upd (upd P0 w 0) (upf hc r w) (upd P0 w 0 (upf hc r w) + nI (Q w * ch / 100))) (unf hc r w) (upd (upd P0 w 0) (upf hc r w) (upd P0 w 0 (upf hc r w) + nI (Q w * ch / 100)) (unf hc r w) + nI (Q w - Q w * ch / 100)) = PRw X (Pst hc r ch Q (i + 1)) := by
      have ad : ∀ (f : Nat → Int32) (a x t : Nat), upd f a (f a + nI x) t = f t + nI (if a = t then x else 0) := by
        intro f a x t
        by_cases c : t = a
        · subst c; rw [upd_s, if_pos rfl]
        · rw [upd_n c, if_neg (fun q => c q.symm)]; exact (Int32.add_zero _).symm
      funext t
      rw [ad, ad]
      have e6 : upd P0 w 0 t = if t < 100 then nI (if t = w then 0 else Pst hc r ch Q i t) else X t := by
        by_cases c : t = w
        · subst c; rw [upd_s, if_pos (by omega), if_pos rfl]; rfl
        · rw [upd_n c, hP0, PRw, if_neg c]
      rw [e6, PRw]
      by_cases c : t < 100
      · rw [if_pos c, if_pos c, Pst_s (by omega) c, nI_add, nI_add, ← hw]
      · rw [if_neg c, if_neg c, if_neg (by omega), if_neg (by omega)]
        rw [show nI 0 = (0 : Int32) from rfl, Int32.add_zero, Int32.add_zero]
    have nx : nI w + -1 = (if i + 1 = 100 then -1 else nI (99 - (i + 1))) := by
      by_cases c : i + 1 = 100
      · rw [if_pos c, show w = 0 by omega]; rfl
      · rw [if_neg c, ← Int32.sub_eq_add_neg, show 99 - (i + 1) = w - 1 by omega]
        exact sub_r (m := 1) (show 1 ≤ w by omega) (by omega)
    have n0 : ¬ nI w < 0 := nI_pos (by omega)
    rw [← nx, ← hrow, ← hP0]
    simp only [f_Out_spreadParts_L3, if_neg n0, ix_nI (show w < 100 by omega) (by decide), gd_t, nI_clamp (show w < 2147483648 by omega), ur_1, x4, ↓bn_eq, x5, ui_ur, w1, bd_some, ix_nI (show upf hc r w < 100 by omega) (by decide), nI_clamp (show upf hc r w < 2147483648 by omega), w0, ix_nI (show unf hc r w < 100 by omega) (by decide), nI_clamp (show unf hc r w < 2147483648 by omega), x45]
  · intro rec
    simp only [f_Out_spreadParts_L3, if_true, if_pos (show (-1 : Int32) < 0 by decide)]
/-- the model's rows -/
def LRw (Y : Nat → Int64) (Q : Nat → Nat) : Nat → Int64 := fun t => if t < 100 then lI (Q t) else Y t
theorem ul_78 {h : mu_H} {A T : Nat → Int64} {k : Nat} {x : Int64} : ul (url (url h 76 A) 77 T) 76 k x = url (url h 76 (vp_updL A k x)) 77 T := by
  refine Prod.ext rfl ?_
  funext c
  show (if c = 76 then vp_updL ((url (url h 76 A) 77 T).2 76) k x else (url (url h 76 A) 77 T).2 c) = (url (url h 76 (vp_updL A k x)) 77 T).2 c
  simp only [url_g]
  by_cases e : c = 76
  · subst e; simp
  · by_cases f : c = 77 <;> simp [e, f]
theorem lr_upd {Y : Nat → Int64} {Q Q' : Nat → Nat} {a : Nat} {x : Int64} (hx : a < 100 → x = lI (Q' a)) (ha : a < 100) (h : ∀ t, t < 100 → t ≠ a → Q' t = Q t) : vp_updL (LRw Y Q) a x = LRw Y Q' := by
  funext t
  by_cases c : t = a
  · subst c; rw [updL_s, LRw, if_pos ha]; exact hx ha
  · rw [updL_n c, LRw, LRw]
    by_cases d : t < 100
    · rw [if_pos d, if_pos d, h t d c]
    · rw [if_neg d, if_neg d]
end Odds
