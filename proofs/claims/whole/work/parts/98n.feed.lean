/-! feed -/
section Feed
variable {N : Nat}
def bY (x : Int32) (j : Nat) : Nat := tn ((x >>> (nI (24 - 8 * j) &&& 31)) &&& 255)
theorem and255 (y : Int32) : ∃ b, b ≤ 255 ∧ y &&& 255 = nI b := by
  refine ⟨(y.toBitVec &&& 255#32).toNat, ?_, ?_⟩
  · rw [BitVec.toNat_and]
    exact Nat.and_le_right
  · apply Int32.toBitVec_inj.mp
    show y.toBitVec &&& 255#32 = BitVec.ofNat 32 (y.toBitVec &&& 255#32).toNat
    rw [BitVec.ofNat_toNat, BitVec.setWidth_eq]
theorem bY_b (x : Int32) (j : Nat) : bY x j ≤ 255 ∧ (x >>> (nI (24 - 8 * j) &&& 31)) &&& 255 = nI (bY x j) := by
  obtain ⟨b, h1, h2⟩ := and255 (x >>> (nI (24 - 8 * j) &&& 31))
  have : bY x j = b := by rw [bY, h2]; exact tn_n (by omega)
  rw [this]; exact ⟨h1, h2⟩
theorem sh_eq (x : Int32) (s : Nat) (hs : s = 24 ∨ s = 16 ∨ s = 8 ∨ s = 0) : ((x.toUInt32 >>> ((nI s).toUInt32 &&& Int32.toUInt32 31)).toInt32) &&& 255 = (x >>> (nI s &&& 31)) &&& 255 := by
  apply Int32.toBitVec_inj.mp
  have key : ∀ s : Nat, s ≤ 24 → (x.toBitVec >>> s) &&& 255#32 = (x.toBitVec.sshiftRight s) &&& 255#32 := by
    intro s hs
    apply BitVec.eq_of_getLsbD_eq
    intro i hi
    rw [BitVec.getLsbD_and, BitVec.getLsbD_and, BitVec.getLsbD_ushiftRight, BitVec.getLsbD_sshiftRight]
    by_cases q : i < 8
    · have e1 : decide (32 ≤ i) = false := decide_eq_false (by omega)
      rw [e1, if_pos (by omega)]; rfl
    · have : (255#32).getLsbD i = false := by
        have h8 : (255#32).toNat < 2 ^ i := Nat.lt_of_lt_of_le (show 255 < 2 ^ 8 by decide) (Nat.pow_le_pow_right (by decide) (by omega))
        exact Nat.testBit_lt_two_pow h8
      rw [this, Bool.and_false, Bool.and_false]
  rcases hs with rfl | rfl | rfl | rfl
  · exact key 24 (by decide)
  · exact key 16 (by decide)
  · exact key 8 (by decide)
  · exact key 0 (by decide)
theorem bY_c (x : Int32) {j : Nat} (hj : j < 4) : ((x.toUInt32 >>> ((nI (24 - 8 * j)).toUInt32 &&& Int32.toUInt32 31)).toInt32) &&& 255 = nI (bY x j) := by
  rw [sh_eq x (24 - 8 * j) (by omega)]
  exact (bY_b x j).2
theorem nar_d : ∀ b : Fin 256, (vp_nar .byte (nI b.val).toInt8.toInt32) &&& 255 = nI b.val := by decide +kernel
theorem nar_32 : vp_nar .byte (nI 32).toInt8.toInt32 = 32 := by decide +kernel
/-- a tape and a byte more -/
def ad (v : Nat) (S : Nat × (Nat → Nat)) : Nat × (Nat → Nat) := if v = 0 then S else (S.1 + 1, uN S.2 S.1 v)
def AC (h0 h : mu_H) (S : Nat × (Nat → Nat)) : Prop := sc [1, 2] h0 h ∧ h.1 1 1 = nI S.1 ∧ ∀ i, i < S.1 → h.1 2 i &&& 255 = nI (S.2 i) ∧ (S.2 i = 32 → h.1 2 i = 32)
def AM (h0 h : mu_H) (S : Nat × (Nat → Nat)) : Prop := sM [52] [2] h0 h ∧ h.1 51 2 = nI S.1 ∧ ∀ i, i < S.1 → h.1 52 i = nI (S.2 i)
def sq (v : Nat → Nat) (S : Nat × (Nat → Nat)) (k : Nat) : Nat × (Nat → Nat) := fold (fun k => ad (v k)) S k
def cq (v : Nat → Nat) (k : Nat) : Nat := fold (fun k c => if v k = 0 then c else c + 1) 0 k
theorem sq_l {v : Nat → Nat} {S : Nat × (Nat → Nat)} : ∀ k, (sq v S k).1 = S.1 + cq v k := by
  intro k
  induction k with
  | zero => rfl
  | succ k ih =>
    show (ad (v k) (sq v S k)).1 = S.1 + (if v k = 0 then cq v k else cq v k + 1)
    rw [ad]
    by_cases c : v k = 0
    · rw [if_pos c, if_pos c, ih]
    · rw [if_neg c, if_neg c]; show (sq v S k).1 + 1 = _; rw [ih]; omega
theorem cq_m {v : Nat → Nat} {k : Nat} : cq v k ≤ cq v (k + 1) := by
  show cq v k ≤ (if v k = 0 then cq v k else cq v k + 1)
  split <;> omega
theorem cq_le {v : Nat → Nat} {k : Nat} : ∀ n, cq v k ≤ cq v (k + n) := by
  intro n
  induction n with
  | zero => exact Nat.le_refl _
  | succ n ih => exact Nat.le_trans ih cq_m
theorem sq_b {v : Nat → Nat} {S : Nat × (Nat → Nat)} (hv : ∀ k, v k ≤ 255) (hS : ∀ i, i < S.1 → S.2 i ≤ 255 ∧ S.2 i ≠ 0) : ∀ k, ∀ i, i < (sq v S k).1 → (sq v S k).2 i ≤ 255 ∧ (sq v S k).2 i ≠ 0 := by
  intro k
  induction k with
  | zero => exact hS
  | succ k ih =>
    show ∀ i, i < (ad (v k) (sq v S k)).1 → (ad (v k) (sq v S k)).2 i ≤ 255 ∧ (ad (v k) (sq v S k)).2 i ≠ 0
    rw [ad]
    by_cases c : v k = 0
    · rw [if_pos c]; exact ih
    · rw [if_neg c]
      intro i hi
      show uN (sq v S k).2 (sq v S k).1 (v k) i ≤ 255 ∧ uN (sq v S k).2 (sq v S k).1 (v k) i ≠ 0
      by_cases q : i = (sq v S k).1
      · rw [q, uN_s]; exact ⟨hv k, c⟩
      · rw [uN_n q]; exact ih i (by have hi : i < (sq v S k).1 + 1 := hi; omega)
/-- one byte at the class -/
theorem ad_c {hc0 h : mu_H} {S : Nat × (Nat → Nat)} {x : Int32} {j : Nat} (hj : j < 4) (hA : AC hc0 h S) (hb : (ad (bY x j) S).1 ≤ 240) (rec : (Int32 × mu_H) → Option mu_H) : ∃ h', AC hc0 h' (ad (bY x j) S) ∧ f_Tap_add_L3 x rec (nI (24 - 8 * j), h) = rec (nI (24 - 8 * j) + (-8), h') := by
  obtain ⟨a1, a2, a3⟩ := hA
  have hx := bY_c x hj
  have hbb := (bY_b x j).1
  rw [ad] at hb ⊢
  by_cases c : bY x j = 0
  · rw [if_pos c] at hb ⊢
    refine ⟨h, ⟨a1, a2, a3⟩, ?_⟩
    rw [c] at hx
    have hx : (x.toUInt32 >>> ((nI (24 - 8 * j)).toUInt32 &&& Int32.toUInt32 31)).toInt32 &&& 255 = 0 := hx
    rw [f_Tap_add_L3, if_neg (nI_pos (by omega)), bn_eq, hx, jn_eq, if_pos rfl]
  · rw [if_neg c] at hb ⊢
    have hb : S.1 + 1 ≤ 240 := hb
    have nz : (nI (bY x j) = 0) = False := eq_false (fun w => c ((nI_z (by omega)).mp w))
    have n240 : ((240 : Int32) ≤ nI S.1) = False := eq_false (fun w => by have := (nI_leI (a := 240) (by decide) (by omega)).mp w; omega)
    have neg : (nI (24 - 8 * j) < 0) = False := eq_false (nI_pos (by omega))
    have i1 : ix (nI S.1) 240 = true := ix_nI (by omega) (by decide)
    have c1 := nI_clamp (show S.1 < 2147483648 by omega)
    have q1 : (ui h 2 S.1 (vp_nar .byte (nI (bY x j)).toInt8.toInt32)).1 1 1 = nI S.1 := by rw [ui_n (by decide)]; exact a2
    refine ⟨ui (ui h 2 S.1 (vp_nar .byte (nI (bY x j)).toInt8.toInt32)) 1 1 (nI (S.1 + 1)), ⟨sc_trans (sc_trans a1 (sc_ui (by decide))) (sc_ui (by decide)), ?_, fun i hi => ?_⟩, ?_⟩
    · rw [ui_s, upd_s]
    · have hi : i < S.1 + 1 := hi
      show _ = nI (uN S.2 S.1 (bY x j) i) ∧ (uN S.2 S.1 (bY x j) i = 32 → _ = 32)
      rw [ui_n (by decide), ui_s]
      by_cases q : i = S.1
      · rw [q, upd_s, uN_s]; exact ⟨nar_d ⟨bY x j, by omega⟩, fun w => by rw [w]; exact nar_32⟩
      · rw [upd_n q, uN_n q]; exact a3 i (by omega)
    · simp only [f_Tap_add_L3, neg, ↓reduceIte, bn_eq, hx, jn_eq, nz, a2, n240, i1, gd_t, c1, q1, nI_1]
theorem m8 : nI (24 - 8 * 0) + (-8) = nI (24 - 8 * 1) ∧ nI (24 - 8 * 1) + (-8) = nI (24 - 8 * 2) ∧ nI (24 - 8 * 2) + (-8) = nI (24 - 8 * 3) ∧ nI (24 - 8 * 3) + (-8) = (-8 : Int32) := by decide
theorem add_c {hc0 h : mu_H} {v : Nat → Nat} {S : Nat × (Nat → Nat)} {x : Int32} {k : Nat} (hN : 3000 ≤ N) (hv : ∀ j, j < 4 → v (k + j) = bY x j) (hA : AC hc0 h (sq v S k)) (hb : (sq v S (k + 4)).1 ≤ 240) : ∃ h', f_Tap_add N h x = some h' ∧ AC hc0 h' (sq v S (k + 4)) := by
  obtain ⟨M, rfl⟩ : ∃ q, N = q + 5 := ⟨N - 5, by omega⟩
  obtain ⟨e0, e1, e2, e3⟩ := m8
  have l := fun n => sq_l (v := v) (S := S) n
  have m1 : cq v k ≤ cq v (k + 1) := cq_m
  have m2 : cq v (k + 1) ≤ cq v (k + 2) := cq_m
  have m3 : cq v (k + 2) ≤ cq v (k + 3) := cq_m
  have m4 : cq v (k + 3) ≤ cq v (k + 4) := cq_m
  have l1 := l (k + 1)
  have l2 := l (k + 2)
  have l3 := l (k + 3)
  have l4 := l (k + 4)
  have s1 : ad (bY x 0) (sq v S k) = sq v S (k + 1) := by rw [← hv 0 (by decide)]; rfl
  have s2 : ad (bY x 1) (sq v S (k + 1)) = sq v S (k + 2) := by rw [← hv 1 (by decide)]; rfl
  have s3 : ad (bY x 2) (sq v S (k + 2)) = sq v S (k + 3) := by rw [← hv 2 (by decide)]; rfl
  have s4 : ad (bY x 3) (sq v S (k + 3)) = sq v S (k + 4) := by rw [← hv 3 (by decide)]; rfl
  obtain ⟨h1, A1, f1⟩ := ad_c (x := x) (j := 0) (by decide) hA (by rw [s1]; omega) (lp (f_Tap_add_L3 x) (M + 4))
  rw [s1] at A1
  obtain ⟨h2, A2, f2⟩ := ad_c (x := x) (j := 1) (by decide) A1 (by rw [s2]; omega) (lp (f_Tap_add_L3 x) (M + 3))
  rw [s2] at A2
  obtain ⟨h3, A3, f3⟩ := ad_c (x := x) (j := 2) (by decide) A2 (by rw [s3]; omega) (lp (f_Tap_add_L3 x) (M + 2))
  rw [s3] at A3
  obtain ⟨h4, A4, f4⟩ := ad_c (x := x) (j := 3) (by decide) A3 (by rw [s4]; omega) (lp (f_Tap_add_L3 x) (M + 1))
  rw [s4] at A4
  refine ⟨h4, ?_, A4⟩
  show lp (f_Tap_add_L3 x) (M + 5) (nI (24 - 8 * 0), h) = some h4
  rw [lp_1, f1, e0, lp_1, f2, e1, lp_1, f3, e2, lp_1, f4, e3, lp_1, f_Tap_add_L3, if_pos (show (-8 : Int32) < 0 by decide)]
theorem sig_1 {x : Int32} {j c : Nat} (hj : j < 4) (hc : c < 100) (rec : (Int32 × Int32) → Option Int32) : f_Tap_signsIn_L5 x rec (nI c, nI (24 - 8 * j)) = rec (nI (if bY x j = 0 then c else c + 1), nI (24 - 8 * j) + (-8)) := by
  have hx := bY_c x hj
  have hbb := (bY_b x j).1
  have neg : (nI (24 - 8 * j) < 0) = False := eq_false (nI_pos (by omega))
  by_cases q : bY x j = 0
  · rw [q] at hx
    have hx : (x.toUInt32 >>> ((nI (24 - 8 * j)).toUInt32 &&& Int32.toUInt32 31)).toInt32 &&& 255 = 0 := hx
    rw [if_pos q]
    simp only [f_Tap_signsIn_L5, neg, ↓reduceIte, jn_eq, hx]
  · have nz : (nI (bY x j) = 0) = False := eq_false (fun w => q ((nI_z (by omega)).mp w))
    rw [if_neg q]
    simp only [f_Tap_signsIn_L5, neg, ↓reduceIte, jn_eq, hx, nz, nI_1]
theorem sig_c {h : mu_H} {v : Nat → Nat} {x : Int32} {k : Nat} (hN : 3000 ≤ N) (hv : ∀ j, j < 4 → v (k + j) = bY x j) : ∃ c, c ≤ 4 ∧ f_Tap_signsIn N h x = some (nI c) ∧ cq v (k + 4) = cq v k + c := by
  obtain ⟨M, rfl⟩ : ∃ q, N = q + 5 := ⟨N - 5, by omega⟩
  obtain ⟨e0, e1, e2, e3⟩ := m8
  have h0 := hv 0 (by decide)
  have h1 := hv 1 (by decide)
  have h2 := hv 2 (by decide)
  have h3 := hv 3 (by decide)
  obtain ⟨c1, x1⟩ : ∃ c1, c1 = (if bY x 0 = 0 then 0 else 0 + 1) := ⟨_, rfl⟩
  obtain ⟨c2, x2⟩ : ∃ c2, c2 = (if bY x 1 = 0 then c1 else c1 + 1) := ⟨_, rfl⟩
  obtain ⟨c3, x3⟩ : ∃ c3, c3 = (if bY x 2 = 0 then c2 else c2 + 1) := ⟨_, rfl⟩
  obtain ⟨c4, x4⟩ : ∃ c4, c4 = (if bY x 3 = 0 then c3 else c3 + 1) := ⟨_, rfl⟩
  have y1 : c1 ≤ 1 := by rw [x1]; split <;> omega
  have y2 : c2 ≤ 2 := by rw [x2]; split <;> omega
  have y3 : c3 ≤ 3 := by rw [x3]; split <;> omega
  have y4 : c4 ≤ 4 := by rw [x4]; split <;> omega
  refine ⟨c4, y4, ?_, ?_⟩
  · show lp (f_Tap_signsIn_L5 x) (M + 5) (nI 0, nI (24 - 8 * 0)) = some (nI c4)
    rw [lp_1, sig_1 (by decide) (by decide), ← x1, e0, lp_1, sig_1 (by decide) (by omega), ← x2, e1, lp_1, sig_1 (by decide) (by omega), ← x3, e2, lp_1, sig_1 (by decide) (by omega), ← x4, e3, lp_1, f_Tap_signsIn_L5, if_pos (show (-8 : Int32) < 0 by decide)]
  · have z1 : cq v (k + 1) = cq v k + c1 := by
      show (if v k = 0 then cq v k else cq v k + 1) = _
      have h0 : v k = bY x 0 := h0
      rw [h0, x1]; split <;> omega
    have z2 : cq v (k + 2) = cq v k + c2 := by
      show (if v (k + 1) = 0 then cq v (k + 1) else cq v (k + 1) + 1) = _
      rw [h1, z1, x2]; split <;> omega
    have z3 : cq v (k + 3) = cq v k + c3 := by
      show (if v (k + 2) = 0 then cq v (k + 2) else cq v (k + 2) + 1) = _
      rw [h2, z2, x3]; split <;> omega
    show (if v (k + 3) = 0 then cq v (k + 3) else cq v (k + 3) + 1) = _
    rw [h3, z3, x4]; split <;> omega
/-! the model -/
def wd (a b c d e : Int32) (k : Nat) : Int32 := if k < 4 then a else if k < 8 then b else if k < 12 then c else if k < 16 then d else e
def vY (a b c d e : Int32) (k : Nat) : Nat := bY (wd a b c d e k) (k % 4)
theorem byte_m {h : mu_H} {a b c d e : Int32} {k : Nat} (hk : k < 20) : f_Mod_byteOf N h a b c d e (nI k) = some (nI (vY a b c d e k)) := by
  have i0 : nI k / 4 = nI (k / 4) := div_r (m := 4) (by decide) (by decide) (by omega)
  have i1 : nI (k / 4) * 4 = nI (k / 4 * 4) := by rw [show (4 : Int32) = nI 4 from rfl, pk_mul]
  have i2 : nI k - nI (k / 4 * 4) = nI (k % 4) := by
    rw [sub_n (by omega) (by omega)]; congr 1; omega
  have i3 : 8 * nI (k % 4) = nI (8 * (k % 4)) := by rw [show (8 : Int32) = nI 8 from rfl, pk_mul]
  have i4 : 24 - nI (8 * (k % 4)) = nI (24 - 8 * (k % 4)) := by
    rw [show (24 : Int32) = nI 24 from rfl, sub_n (by omega) (by omega)]
  have l4 : ((4 : Int32) ≤ nI k) = (4 ≤ k) := nI_le_i (a := 4) (by decide) (by omega)
  have l8 : ((8 : Int32) ≤ nI k) = (8 ≤ k) := nI_le_i (a := 8) (by decide) (by omega)
  have l12 : ((12 : Int32) ≤ nI k) = (12 ≤ k) := nI_le_i (a := 12) (by decide) (by omega)
  have l16 : ((16 : Int32) ≤ nI k) = (16 ≤ k) := nI_le_i (a := 16) (by decide) (by omega)
  simp only [f_Mod_byteOf, jn_eq, i0, i1, i2, i3, i4, l4, l8, l12, l16, (bY_b _ _).2]
  rw [vY, wd]
  by_cases q1 : 4 ≤ k
  · rw [if_pos q1, if_neg (show ¬ k < 4 by omega)]
    by_cases q2 : 8 ≤ k
    · rw [if_pos q2, if_neg (show ¬ k < 8 by omega)]
      by_cases q3 : 12 ≤ k
      · rw [if_pos q3, if_neg (show ¬ k < 12 by omega)]
        by_cases q4 : 16 ≤ k
        · rw [if_pos q4, if_neg (show ¬ k < 16 by omega)]
        · rw [if_neg q4, if_pos (show k < 16 by omega)]
      · rw [if_neg q3, if_pos (show k < 12 by omega)]
    · rw [if_neg q2, if_pos (show k < 8 by omega)]
  · rw [if_neg q1, if_pos (show k < 4 by omega)]
theorem cnt_m {h : mu_H} {a b c d e : Int32} {k1 : Int32 → Option (Int32 × mu_H)} (hN : 3000 ≤ N) : lp (f_Mod_feed_L6 N h a b c d e k1) N (0, 0) = k1 (nI (cq (vY a b c d e) 20)) := by
  refine lp_end (body := f_Mod_feed_L6 N h a b c d e k1) (fun i => (nI (cq (vY a b c d e) i), nI i)) 20 ?_ ?_ (f := N) (by omega)
  · intro i hi rec
    show f_Mod_feed_L6 N h a b c d e k1 rec (nI (cq (vY a b c d e) i), nI i) = rec (nI (if vY a b c d e i = 0 then cq (vY a b c d e) i else cq (vY a b c d e) i + 1), nI (i + 1))
    have n20 : ((20 : Int32) ≤ nI i) = False := eq_false (fun w => by have := (nI_leI (a := 20) (by decide) (by omega)).mp w; omega)
    have vb := (bY_b (wd a b c d e i) (i % 4)).1
    have vb : vY a b c d e i ≤ 255 := vb
    have nz : (nI (vY a b c d e i) = 0) = (vY a b c d e i = 0) := propext (nI_z (by omega))
    simp only [f_Mod_feed_L6, n20, ↓reduceIte, byte_m hi, bd_some, jn_eq, bn_eq, nz, nI_1]
    by_cases q : vY a b c d e i = 0
    · rw [if_pos q, if_pos q, Int32.add_zero]
    · rw [if_neg q, if_neg q]
  · intro rec
    show f_Mod_feed_L6 N h a b c d e k1 rec (_, nI 20) = _
    rw [f_Mod_feed_L6, if_pos (show (20 : Int32) ≤ nI 20 by decide)]
theorem put_L {hm0 : mu_H} {a b c d e : Int32} {S : Nat × (Nat → Nat)} {k3 : mu_H → Option (Int32 × mu_H)} (hb : (sq (vY a b c d e) S 20).1 ≤ 240) : ∀ f k g h, k + f = 20 → f < g → AM hm0 h (sq (vY a b c d e) S k) → ∃ h', lp (f_Mod_feed_L62 N a b c d e k3) g (nI k, h) = k3 h' ∧ AM hm0 h' (sq (vY a b c d e) S 20) := by
  have l := fun n => sq_l (v := vY a b c d e) (S := S) n
  intro f
  induction f with
  | zero =>
    intro k g h hk hg hA
    obtain ⟨g, rfl⟩ : ∃ q, g = q + 1 := ⟨g - 1, by omega⟩
    have : k = 20 := by omega
    subst this
    refine ⟨h, ?_, hA⟩
    rw [lp_1, f_Mod_feed_L62, if_pos (show (20 : Int32) ≤ nI 20 by decide)]
  | succ f ih =>
    intro k g h hk hg hA
    obtain ⟨g, rfl⟩ : ∃ q, g = q + 1 := ⟨g - 1, by omega⟩
    have n20 : ((20 : Int32) ≤ nI k) = False := eq_false (fun w => by have := (nI_leI (a := 20) (by decide) (by omega)).mp w; omega)
    have vb : vY a b c d e k ≤ 255 := (bY_b (wd a b c d e k) (k % 4)).1
    have ll := cq_le (v := vY a b c d e) (k := k + 1) f
    rw [show k + 1 + f = 20 by omega] at ll
    have l1 := l (k + 1)
    have l20 := l 20
    have hs : sq (vY a b c d e) S (k + 1) = ad (vY a b c d e k) (sq (vY a b c d e) S k) := rfl
    obtain ⟨a1, a2, a3⟩ := hA
    rw [lp_1]
    by_cases q : vY a b c d e k = 0
    · have hs0 : sq (vY a b c d e) S (k + 1) = sq (vY a b c d e) S k := by rw [hs, ad, if_pos q]
      obtain ⟨h', e1, A1⟩ := ih (k + 1) g h (by omega) (by omega) (by rw [hs0]; exact ⟨a1, a2, a3⟩)
      refine ⟨h', ?_, A1⟩
      have hv0 : nI (vY a b c d e k) = 0 := by rw [q]; rfl
      simp only [f_Mod_feed_L62, n20, ↓reduceIte, byte_m (show k < 20 by omega), bd_some, jn_eq, hv0, nI_1]
      exact e1
    · have hs1 : sq (vY a b c d e) S (k + 1) = ((sq (vY a b c d e) S k).1 + 1, uN (sq (vY a b c d e) S k).2 (sq (vY a b c d e) S k).1 (vY a b c d e k)) := by rw [hs, ad, if_neg q]
      rw [hs1] at l1
      have l1 : (sq (vY a b c d e) S k).1 + 1 = S.1 + cq (vY a b c d e) (k + 1) := l1
      generalize sq (vY a b c d e) S k = R at *
      have nz : (nI (vY a b c d e k) = 0) = False := eq_false (fun w => q ((nI_z (by omega)).mp w))
      have i1 : ix (nI R.1) 240 = true := ix_nI (by omega) (by decide)
      have c1 := nI_clamp (show R.1 < 2147483648 by omega)
      have q1 : (ui h 52 R.1 (nI (vY a b c d e k))).1 51 2 = nI R.1 := by rw [ui_n (by decide)]; exact a2
      obtain ⟨h', e1, A1⟩ := ih (k + 1) g (ui (ui h 52 R.1 (nI (vY a b c d e k))) 51 2 (nI (R.1 + 1))) (by omega) (by omega) (by
        rw [hs1]
        refine ⟨sM_trans (sM_trans a1 (sM_ui (by decide) (by decide))) (sM_u5 (by decide)), by rw [u5_s], fun i hi => ?_⟩
        have hi : i < R.1 + 1 := hi
        show _ = nI (uN R.2 R.1 (vY a b c d e k) i)
        rw [ui_n (by decide), ui_s]
        by_cases w : i = R.1
        · rw [w, upd_s, uN_s]
        · rw [upd_n w, uN_n w]; exact a3 i (by omega))
      refine ⟨h', ?_, A1⟩
      simp only [f_Mod_feed_L62, n20, ↓reduceIte, byte_m (show k < 20 by omega), bd_some, jn_eq, bn_eq, nz, a2, i1, gd_t, c1, q1, nI_1]
      exact e1
theorem op_feed (hN : 3000 ≤ N) (a1 a2 a3 a4 a5 : Int32) (hc hm : mu_H) (hI : Inv (mg hc hm)) : ∃ r hc' hm', f_Owe_feed N hc a1 a2 a3 a4 a5 = some (r, hc') ∧ f_Mod_feed N hm a1 a2 a3 a4 a5 = some (r, hm') ∧ (∀ c, 51 ≤ c → hc'.1 c = hc.1 c) ∧ (∀ c, c < 51 → hm'.1 c = hm.1 c) ∧ Inv (mg hc' hm') := by
  have hI0 := hI
  obtain ⟨s, u, hp, ⟨nse, hsee⟩, hnow, himg, hpas, htap, hlaw, href⟩ := hI
  obtain ⟨z, T, hTc, hTm⟩ := T_of htap
  obtain ⟨hz, c11, cT⟩ := hTc
  obtain ⟨-, m2, mT⟩ := hTm
  obtain ⟨v, xv⟩ : ∃ v, v = vY a1 a2 a3 a4 a5 := ⟨_, rfl⟩
  have v1 : ∀ j, j < 4 → v (0 + j) = bY a1 j := fun j hj => by
    rw [xv, vY, wd, if_pos (by omega), show (0 + j) % 4 = j by omega]
  have v2 : ∀ j, j < 4 → v (4 + j) = bY a2 j := fun j hj => by
    rw [xv, vY, wd, if_neg (by omega), if_pos (by omega), show (4 + j) % 4 = j by omega]
  have v3 : ∀ j, j < 4 → v (8 + j) = bY a3 j := fun j hj => by
    rw [xv, vY, wd, if_neg (by omega), if_neg (by omega), if_pos (by omega), show (8 + j) % 4 = j by omega]
  have v4 : ∀ j, j < 4 → v (12 + j) = bY a4 j := fun j hj => by
    rw [xv, vY, wd, if_neg (by omega), if_neg (by omega), if_neg (by omega), if_pos (by omega), show (12 + j) % 4 = j by omega]
  have v5 : ∀ j, j < 4 → v (16 + j) = bY a5 j := fun j hj => by
    rw [xv, vY, wd, if_neg (by omega), if_neg (by omega), if_neg (by omega), if_neg (by omega), show (16 + j) % 4 = j by omega]
  obtain ⟨n1, p1, s1, t1⟩ := sig_c (h := hc) hN v1
  obtain ⟨n2, p2, s2, t2⟩ := sig_c (h := hc) hN v2
  obtain ⟨n3, p3, s3, t3⟩ := sig_c (h := hc) hN v3
  obtain ⟨n4, p4, s4, t4⟩ := sig_c (h := hc) hN v4
  obtain ⟨n5, p5, s5, t5⟩ := sig_c (h := hc) hN v5
  have t0 : cq v 0 = 0 := rfl
  have t1 : cq v 4 = cq v 0 + n1 := t1
  have t2 : cq v 8 = cq v 4 + n2 := t2
  have t3 : cq v 12 = cq v 8 + n3 := t3
  have t4 : cq v 16 = cq v 12 + n4 := t4
  have t5 : cq v 20 = cq v 16 + n5 := t5
  have tt : n1 + n2 + n3 + n4 + n5 = cq v 20 := by omega
  have eX : f_Owe_feed N hc a1 a2 a3 a4 a5 = if nI (z + cq v 20) ≤ 240 then (f_Tap_add N hc a1).bind fun h8 => (f_Tap_add N h8 a2).bind fun h9 => (f_Tap_add N h9 a3).bind fun h10 => (f_Tap_add N h10 a4).bind fun h11 => (f_Tap_add N h11 a5).bind fun h12 => (f_Tap_size N h12).bind fun x13 => some (x13, h12) else some (-1, hc) := by
    rw [f_Owe_feed, s1, bd_some, s2, bd_some, s3, bd_some, s4, bd_some, s5, bd_some, bn_eq, f_Tap_size, c11, bd_some, nI_add, nI_add, nI_add, nI_add, nI_add, tt]
  have eY : f_Mod_feed N hm a1 a2 a3 a4 a5 = if nI (z + cq v 20) ≤ 240 then lp (f_Mod_feed_L62 N a1 a2 a3 a4 a5 (fun h4 => some (h4.1 51 2, h4))) N (0, hm) else some (-1, hm) := by
    rw [f_Mod_feed, jn_eq, cnt_m hN, m2, nI_add, ← xv]
    rfl
  rw [eX, eY]
  by_cases c : z + cq v 20 ≤ 240
  · rw [if_pos (show nI (z + cq v 20) ≤ (240 : Int32) from (nI_leI (b := 240) (by omega) (by decide)).mpr c), if_pos (show nI (z + cq v 20) ≤ (240 : Int32) from (nI_leI (b := 240) (by omega) (by decide)).mpr c)]
    have l := fun n => sq_l (v := v) (S := (z, T)) n
    have l4 := l 4
    have l8 := l 8
    have l12 := l 12
    have l16 := l 16
    have l20 := l 20
    have A0 : AC hc hc (sq v (z, T) 0) := ⟨sc_refl, c11, fun i hi => ⟨(cT i hi).1, (cT i hi).2.2.2⟩⟩
    obtain ⟨h1, f1, A1⟩ := add_c (S := (z, T)) hN v1 A0 (by show (sq v (z, T) 4).1 ≤ 240; rw [l4]; show z + cq v 4 ≤ 240; omega)
    obtain ⟨h2, f2, A2⟩ := add_c (S := (z, T)) hN v2 A1 (by show (sq v (z, T) 8).1 ≤ 240; rw [l8]; show z + cq v 8 ≤ 240; omega)
    obtain ⟨h3, f3, A3⟩ := add_c (S := (z, T)) hN v3 A2 (by show (sq v (z, T) 12).1 ≤ 240; rw [l12]; show z + cq v 12 ≤ 240; omega)
    obtain ⟨h4, f4, A4⟩ := add_c (S := (z, T)) hN v4 A3 (by show (sq v (z, T) 16).1 ≤ 240; rw [l16]; show z + cq v 16 ≤ 240; omega)
    obtain ⟨h5, f5, A5⟩ := add_c (S := (z, T)) hN v5 A4 (by show (sq v (z, T) 20).1 ≤ 240; rw [l20]; exact c)
    have A5 : AC hc h5 (sq v (z, T) 20) := A5
    have b20 : (sq (vY a1 a2 a3 a4 a5) (z, T) 20).1 ≤ 240 := by rw [← xv, l20]; exact c
    obtain ⟨g1, k1, B1⟩ := put_L (N := N) (hm0 := hm) (S := (z, T)) (k3 := fun h4 => some (h4.1 51 2, h4)) b20 20 0 N hm (by omega) (by omega) ⟨sM_refl, m2, fun i hi => (mT i hi).1⟩
    have k1 : lp (f_Mod_feed_L62 N a1 a2 a3 a4 a5 (fun h4 => some (h4.1 51 2, h4))) N (0, hm) = some (g1.1 51 2, g1) := k1
    rw [← xv] at B1
    obtain ⟨f0, x1, x2⟩ := A5
    obtain ⟨q0, y1, y2⟩ := B1
    have bb := sq_b (v := v) (S := (z, T)) (fun k => by rw [xv]; exact (bY_b _ _).1) (fun i hi => by have w1 := (cT i hi).2.1; have w2 := (cT i hi).2.2.1; exact ⟨by show T i ≤ 255; omega, by show T i ≠ 0; omega⟩) 20
    have b20' : (sq v (z, T) 20).1 ≤ 240 := by rw [l20]; exact c
    generalize sq v (z, T) 20 = R at *
    refine ⟨nI R.1, h5, g1, ?_, ?_, (hi_of f0 (by decide)), (lo_of q0 (by decide)), s, u, ?_⟩
    · rw [f1, bd_some, f2, bd_some, f3, bd_some, f4, bd_some, f5, bd_some, f_Tap_size, x1, bd_some]
    · rw [k1, y1]
    have e := mg_same f0 q0
    refine ⟨(Ipar_fr e (by decide) (by decide) hp), ⟨_, Isee_fr e (by decide) (by decide) hsee⟩, (Inow_fr e (by decide) hnow), (Iimg_fr e (by decide) (by decide) himg), (Ipas_fr e (by decide) (by decide) hpas), ⟨R.1, b20', x1, y1, fun i hi => ?_⟩, (Ilaw_fr e (by decide) (by decide) hlaw), (Iref_fr e (by decide) href)⟩
    show h5.1 2 i &&& 255 = g1.1 52 i ∧ ∃ k, k ≤ 255 ∧ k ≠ 0 ∧ g1.1 52 i = nI k ∧ (k = 32 → h5.1 2 i = 32)
    rw [(x2 i hi).1, y2 i hi]
    exact ⟨rfl, R.2 i, (bb i hi).1, (bb i hi).2, rfl, (x2 i hi).2⟩
  · have nc : ¬ nI (z + cq v 20) ≤ (240 : Int32) := fun w => c ((nI_leI (b := 240) (by omega) (by decide)).mp w)
    rw [if_neg nc, if_neg nc]
    exact ⟨-1, hc, hm, rfl, rfl, fun _ _ => rfl, fun _ _ => rfl, hI0⟩
end Feed
