/-! the steps between places, by both -/
section Steps
variable {N s : Nat} {ea eb : Nat → Nat} {h : mu_H}
def SX (X : Nat → Int32) (D : Nat → Nat) : Nat → Int32 := fun c => if c < 64 then nI (D c) else X c
theorem SX_cg {X : Nat → Int32} {D D' : Nat → Nat} (e : ∀ c, c < 64 → D c = D' c) : SX X D = SX X D' := by
  funext c
  rw [SX, SX]
  by_cases q : c < 64
  · rw [if_pos q, if_pos q, e c q]
  · rw [if_neg q, if_neg q]
theorem SX_i {X : Nat → Int32} {D : Nat → Nat} {c : Nat} (hc : c < 64) : SX X D c = nI (D c) := if_pos hc
theorem SX_u {X : Nat → Int32} {D : Nat → Nat} {c v : Nat} (hc : c < 64) : upd (SX X D) c (nI v) = SX X (uN D c v) := by
  funext j
  by_cases q : j = c
  · subst q; rw [upd_s, SX_i hc, uN_s]
  · rw [upd_n q, SX, SX, uN_n q]
theorem uN_self {D : Nat → Nat} {c : Nat} : uN D c (D c) = D := by
  funext j
  by_cases q : j = c
  · subst q; rw [uN_s]
  · rw [uN_n q]
theorem fold_add {α : Type} {g : Nat → α → α} {a : α} {n : Nat} : ∀ m, fold g a (n + m) = fold (fun i => g (n + i)) (fold g a n) m := by
  intro m
  induction m with
  | zero => rfl
  | succ m ih =>
    show g (n + m) (fold g a (n + m)) = g (n + m) (fold (fun i => g (n + i)) (fold g a n) m)
    rw [ih]
theorem fold_nest {α : Type} {g : Nat → α → α} {a : α} : ∀ n, fold g a (8 * n) = fold (fun f x => fold (fun t => g (8 * f + t)) x 8) a n := by
  intro n
  induction n with
  | zero => rfl
  | succ n ih =>
    rw [show 8 * (n + 1) = 8 * n + 8 by omega, fold_add, ih]
    rfl
def eg1 (ea eb : Nat → Nat) (r : Nat) (D : Nat → Nat) : Nat → Nat := uN (uN D (8 * ea r + eb r) 1) (8 * eb r + ea r) 1
def Dz : Nat → Nat := fun c => if c / 8 = c % 8 then 0 else 1000
def De (ea eb : Nat → Nat) (s : Nat) : Nat → Nat := fold (eg1 ea eb) Dz s
def DF (ea eb : Nat → Nat) (s : Nat) : Nat → Nat := fold rndF (De ea eb s) 8
def Gr (s : Nat) (ea eb : Nat → Nat) : Prop := s ≤ 9 ∧ ∀ r, r < s → ea r < 8 ∧ eb r < 8 ∧ ¬ ea r = eb r
theorem De_F (hG : Gr s ea eb) : Fvw s ea eb 0 (De ea eb s) := by
  have key : ∀ r, r ≤ s → (∀ i, i < 8 → fold (eg1 ea eb) Dz r (8 * i + i) = 0) ∧ (∀ c, c < 64 → fold (eg1 ea eb) Dz r c ≤ 1 ∨ fold (eg1 ea eb) Dz r c = 1000) ∧ (∀ r', r' < r → fold (eg1 ea eb) Dz r (8 * ea r' + eb r') ≤ 1 ∧ fold (eg1 ea eb) Dz r (8 * eb r' + ea r') ≤ 1) ∧ ∀ i j, i < 8 → j < 8 → fold (eg1 ea eb) Dz r (8 * i + j) < 1000 → Wk s ea eb i j := by
    intro r
    induction r with
    | zero =>
      intro _
      refine ⟨fun i hi => ?_, fun c hc => ?_, fun r' h => by omega, fun i j hi hj hl => ?_⟩
      · show Dz (8 * i + i) = 0
        rw [Dz, if_pos (by omega)]
      · show Dz c ≤ 1 ∨ Dz c = 1000
        rw [Dz]
        split
        · exact Or.inl (by omega)
        · exact Or.inr rfl
      · have hl : Dz (8 * i + j) < 1000 := hl
        rw [Dz] at hl
        by_cases q : (8 * i + j) / 8 = (8 * i + j) % 8
        · have : i = j := by omega
          subst this
          exact ⟨0, 0, rfl, rfl⟩
        · rw [if_neg q] at hl; omega
    | succ r ih =>
      intro hr
      obtain ⟨a1, a2, a3, a4⟩ := ih (by omega)
      obtain ⟨g1, g2, g3⟩ := hG.2 r (by omega)
      show (∀ i, i < 8 → eg1 ea eb r (fold (eg1 ea eb) Dz r) (8 * i + i) = 0) ∧ (∀ c, c < 64 → eg1 ea eb r (fold (eg1 ea eb) Dz r) c ≤ 1 ∨ eg1 ea eb r (fold (eg1 ea eb) Dz r) c = 1000) ∧ (∀ r', r' < r + 1 → eg1 ea eb r (fold (eg1 ea eb) Dz r) (8 * ea r' + eb r') ≤ 1 ∧ eg1 ea eb r (fold (eg1 ea eb) Dz r) (8 * eb r' + ea r') ≤ 1) ∧ ∀ i j, i < 8 → j < 8 → eg1 ea eb r (fold (eg1 ea eb) Dz r) (8 * i + j) < 1000 → Wk s ea eb i j
      generalize fold (eg1 ea eb) Dz r = D at *
      have hv : ∀ c, eg1 ea eb r D c = if c = 8 * eb r + ea r then 1 else if c = 8 * ea r + eb r then 1 else D c := fun c => rfl
      refine ⟨fun i hi => ?_, fun c hc => ?_, fun r' h => ?_, fun i j hi hj hl => ?_⟩
      · rw [hv, if_neg (by omega), if_neg (by omega)]; exact a1 i hi
      · rw [hv]
        by_cases q : c = 8 * eb r + ea r
        · rw [if_pos q]; exact Or.inl (Nat.le_refl 1)
        · rw [if_neg q]
          by_cases q2 : c = 8 * ea r + eb r
          · rw [if_pos q2]; exact Or.inl (Nat.le_refl 1)
          · rw [if_neg q2]; exact a2 c hc
      · have mono : ∀ c, D c ≤ 1 → eg1 ea eb r D c ≤ 1 := fun c hc => by
          rw [hv]
          split
          · exact Nat.le_refl 1
          · split
            · exact Nat.le_refl 1
            · exact hc
        by_cases q : r' = r
        · subst q
          constructor
          · rw [hv]; split
            · exact Nat.le_refl 1
            · rw [if_pos rfl]; exact Nat.le_refl 1
          · rw [hv, if_pos rfl]; exact Nat.le_refl 1
        · obtain ⟨x1, x2⟩ := a3 r' (by omega)
          exact ⟨mono _ x1, mono _ x2⟩
      · rw [hv] at hl
        have sg1 : ∀ x y, Eg s ea eb r x y → Wk s ea eb x y := fun x y e => ⟨1, _, ⟨r, y, 0, e, fun w => w, ⟨rfl, rfl⟩, rfl⟩⟩
        by_cases q : 8 * i + j = 8 * eb r + ea r
        · exact sg1 i j ⟨by omega, Or.inr ⟨by omega, by omega⟩⟩
        · rw [if_neg q] at hl
          by_cases q2 : 8 * i + j = 8 * ea r + eb r
          · exact sg1 i j ⟨by omega, Or.inl ⟨by omega, by omega⟩⟩
          · rw [if_neg q2] at hl; exact a4 i j hi hj hl
  obtain ⟨a1, a2, a3, a4⟩ := key s (Nat.le_refl s)
  refine ⟨a1, fun c hc => a2 c hc, fun i j l hi hj hP hx hnd => ?_, a4⟩
  cases l with
  | nil =>
    obtain ⟨r, hr, ⟨e1, e2⟩ | ⟨e1, e2⟩⟩ := hP
    · rw [← e1, ← e2]; exact (a3 r hr).1
    · rw [← e1, ← e2]; exact (a3 r hr).2
  | cons x l => exact absurd (hx x List.mem_cons_self) (by omega)
theorem De_k (hG : Gr s ea eb) {k : Nat} (hk : k ≤ 8) : Fvw s ea eb k (fold rndF (De ea eb s) k) := Fv_k (De_F hG) k hk
theorem Fv_b {k : Nat} {D : Nat → Nat} (hk : k ≤ 8) (hF : Fvw s ea eb k D) : ∀ c, c < 64 → D c ≤ 1000 := fun c hc => by
  have : (2 : Nat) ^ k ≤ 256 := Nat.le_trans (Nat.pow_le_pow_right (by decide) hk) (by decide)
  rcases hF.2.1 c hc with q | q <;> omega
/-- the class: one row of a round -/
theorem sb_10 {k f : Nat} {X : Nat → Int32} {D : Nat → Nat} (hN : 3000 ≤ N) (hk : k < 8) (hf : f < 8) (hD : ∀ c, c < 64 → D c ≤ 1000) (k4 : mu_H → Option mu_H) : lp (f_Par_shortenBy_L10 3 (nI k) (nI f) k4) N (0, ur h 5 (SX X D)) = k4 (ur h 5 (SX X (fold (fun t => stp k (8 * f + t)) D 8))) := by
  have hle : ∀ i, i ≤ 8 → ∀ c, c < 64 → fold (fun t => stp k (8 * f + t)) D i c ≤ 1000 := by
    intro i
    induction i with
    | zero => intro _; exact hD
    | succ i ih =>
      intro hi c hc
      show stp k (8 * f + i) (fold (fun t => stp k (8 * f + t)) D i) c ≤ 1000
      rw [stp]
      have := ih (by omega)
      by_cases q : c = 8 * f + i
      · rw [q, uN_s]; have := this (8 * f + i) (by omega); omega
      · rw [uN_n q]; exact this c hc
  refine lp_end (body := f_Par_shortenBy_L10 3 (nI k) (nI f) k4) (fun i => (nI i, ur h 5 (SX X (fold (fun t => stp k (8 * f + t)) D i)))) 8 (v := k4 (ur h 5 (SX X (fold (fun t => stp k (8 * f + t)) D 8)))) ?_ ?_ (f := N) (by omega)
  · intro i hi rec
    show f_Par_shortenBy_L10 3 (nI k) (nI f) k4 rec (nI i, ur h 5 (SX X (fold (fun t => stp k (8 * f + t)) D i))) = rec (nI (i + 1), ur h 5 (SX X (stp k (8 * f + i) (fold (fun t => stp k (8 * f + t)) D i))))
    have hb := hle i (by omega)
    generalize fold (fun t => stp k (8 * f + t)) D i = E at *
    have b1 := hb (8 * f + k) (by omega)
    have b2 := hb (8 * k + i) (by omega)
    have b3 := hb (8 * f + i) (by omega)
    have i1 : nI f * 8 + nI k = nI (8 * f + k) := by rw [show (8 : Int32) = nI 8 from rfl, pk_mul, nI_add, Nat.mul_comm]
    have i2 : nI k * 8 + nI i = nI (8 * k + i) := by rw [show (8 : Int32) = nI 8 from rfl, pk_mul, nI_add, Nat.mul_comm]
    have i3 : nI f * 8 + nI i = nI (8 * f + i) := by rw [show (8 : Int32) = nI 8 from rfl, pk_mul, nI_add, Nat.mul_comm]
    have c1 := nI_clamp (show 8 * f + k < 2147483648 by omega)
    have c2 := nI_clamp (show 8 * k + i < 2147483648 by omega)
    have c3 := nI_clamp (show 8 * f + i < 2147483648 by omega)
    have x1 : ix (nI (8 * f + k)) 64 = true := ix_nI (by omega) (by decide)
    have x2 : ix (nI (8 * k + i)) 64 = true := ix_nI (by omega) (by decide)
    have x3 : ix (nI (8 * f + i)) 64 = true := ix_nI (by omega) (by decide)
    have n8 : ((8 : Int32) ≤ nI i) = False := eq_false (fun w => by have := (nI_leI (a := 8) (by decide) (by omega)).mp w; omega)
    have hst : stp k (8 * f + i) E = uN E (8 * f + i) (min (E (8 * f + i)) (E (8 * f + k) + E (8 * k + i))) := by
      rw [stp, show (8 * f + i) / 8 * 8 + k = 8 * f + k by omega, show (8 * f + i) % 8 = i by omega]
    simp only [f_Par_shortenBy_L10, n8, ↓reduceIte, i1, i2, i3, x1, x2, x3, gd_t, c1, c2, c3, bn_eq, jn_eq, ur_1, SX_i (show 8 * f + k < 64 by omega), SX_i (show 8 * k + i < 64 by omega), SX_i (show 8 * f + i < 64 by omega), nI_add, nI_1]
    rw [hst]
    by_cases q : E (8 * f + i) ≤ E (8 * f + k) + E (8 * k + i)
    · rw [if_pos ((nI_leI (by omega) (by omega)).mpr q), Nat.min_eq_left q, uN_self]
    · rw [if_neg (fun w => q ((nI_leI (by omega) (by omega)).mp w)), Nat.min_eq_right (by omega), ui_ur, SX_u (by omega)]
  · intro rec
    show f_Par_shortenBy_L10 3 (nI k) (nI f) k4 rec (nI 8, _) = _
    rw [f_Par_shortenBy_L10, if_pos (show (8 : Int32) ≤ nI 8 by decide)]
theorem sb_le {k : Nat} {D : Nat → Nat} (hD : ∀ c, c < 64 → D c ≤ 1000) : ∀ f, ∀ c, c < 64 → fold (fun f x => fold (fun t => stp k (8 * f + t)) x 8) D f c ≤ 1000 := by
  have one : ∀ f (E : Nat → Nat), (∀ c, c < 64 → E c ≤ 1000) → ∀ i c, c < 64 → fold (fun t => stp k (8 * f + t)) E i c ≤ 1000 := by
    intro f E hE i
    induction i with
    | zero => exact hE
    | succ i ih =>
      intro c hc
      show stp k (8 * f + i) (fold (fun t => stp k (8 * f + t)) E i) c ≤ 1000
      rw [stp]
      by_cases q : c = 8 * f + i
      · subst q; rw [uN_s]; have := ih (8 * f + i) hc; omega
      · rw [uN_n q]; exact ih c hc
  intro f
  induction f with
  | zero => exact hD
  | succ f ih => exact one f _ ih 8
theorem sb_c {k : Nat} {X : Nat → Int32} {D : Nat → Nat} (hN : 3000 ≤ N) (hk : k < 8) (hD : ∀ c, c < 64 → D c ≤ 1000) : f_Par_shortenBy N (ur h 5 (SX X D)) 3 (nI k) = some (ur h 5 (SX X (rndF k D))) := by
  have e64 : rndF k D = fold (fun f x => fold (fun t => stp k (8 * f + t)) x 8) D 8 := fold_nest (g := stp k) (a := D) 8
  rw [e64]
  refine lp_end (body := f_Par_shortenBy_L2 N 3 (nI k)) (fun f => (nI f, ur h 5 (SX X (fold (fun f x => fold (fun t => stp k (8 * f + t)) x 8) D f)))) 8 ?_ ?_ (f := N) (by omega)
  · intro f hf rec
    show f_Par_shortenBy_L2 N 3 (nI k) rec (nI f, _) = _
    have n8 : ¬ (8 : Int32) ≤ nI f := fun w => by have := (nI_leI (a := 8) (by decide) (by omega)).mp w; omega
    rw [f_Par_shortenBy_L2, if_neg n8, jn_eq, sb_10 hN hk hf (sb_le hD f), nI_1]
    rfl
  · intro rec
    show f_Par_shortenBy_L2 N 3 (nI k) rec (nI 8, _) = _
    rw [f_Par_shortenBy_L2, if_pos (show (8 : Int32) ≤ nI 8 by decide)]
/-- what the class needs of its rows -/
def RwC (h : mu_H) (s : Nat) (ea eb : Nat → Nat) : Prop := h.1 3 2 = nI s ∧ ∀ r, r < s → h.1 4 (5 * (1 + r) + 0) = nI (ea r) ∧ h.1 4 (5 * (1 + r) + 1) = nI (eb r)
theorem meas_c (hN : 3000 ≤ N) (hG : Gr s ea eb) (hR : RwC h s ea eb) : f_Par_measure N h 3 = some (ur h 5 (SX (h.1 5) (DF ea eb s))) := by
  have hs9 := hG.1
  have hfi := fill_c (N := N) (h := h) (q := 5) (n := 64) (v := 1000) (by omega) (by decide)
  have e0 : (fun k => if k < 64 then (1000 : Int32) else h.1 5 k) = SX (h.1 5) (fun _ => 1000) := rfl
  rw [e0] at hfi
  have d1 : lp (f_Par_measure_L12 3 (fun h3 => lp (f_Par_measure_L38 N 3 (fun h5 => lp (f_Par_measure_L92 N 3) N (0, h5))) N (0, h3))) N (0, ur h 5 (SX (h.1 5) (fun _ => 1000))) = (fun h3 => lp (f_Par_measure_L38 N 3 (fun h5 => lp (f_Par_measure_L92 N 3) N (0, h5))) N (0, h3)) (ur h 5 (SX (h.1 5) (fold (fun i D => uN D (8 * i + i) 0) (fun _ => 1000) 8))) := by
    generalize (fun h3 => lp (f_Par_measure_L38 N 3 (fun h5 => lp (f_Par_measure_L92 N 3) N (0, h5))) N (0, h3)) = k2
    refine lp_end (body := f_Par_measure_L12 3 k2) (fun i => (nI i, ur h 5 (SX (h.1 5) (fold (fun i D => uN D (8 * i + i) 0) (fun _ => 1000) i)))) 8 ?_ ?_ (f := N) (by omega)
    · intro i hi rec
      show f_Par_measure_L12 3 k2 rec (nI i, _) = _
      have n8 : ¬ (8 : Int32) ≤ nI i := fun w => by have := (nI_leI (a := 8) (by decide) (by omega)).mp w; omega
      have i1 : nI i * 8 + nI i = nI (8 * i + i) := by rw [show (8 : Int32) = nI 8 from rfl, pk_mul, nI_add, Nat.mul_comm]
      rw [f_Par_measure_L12, if_neg n8, i1, ix_nI (by omega) (by decide), gd_t, bn_eq, nI_clamp (by omega), ui_ur, nI_1, show (0 : Int32) = nI 0 from rfl, SX_u (by omega)]
      rfl
    · intro rec
      show f_Par_measure_L12 3 k2 rec (nI 8, _) = _
      rw [f_Par_measure_L12, if_pos (show (8 : Int32) ≤ nI 8 by decide)]
  have ez : SX (h.1 5) (fold (fun i D => uN D (8 * i + i) 0) (fun _ => 1000) 8) = SX (h.1 5) Dz := SX_cg (fun c hc => by
    have key : ∀ n, n ≤ 8 → fold (fun i D => uN D (8 * i + i) 0) (fun _ => 1000) n c = if c / 8 = c % 8 ∧ c / 8 < n then 0 else 1000 := by
      intro n
      induction n with
      | zero => intro _; rw [if_neg (by omega)]; rfl
      | succ n ih =>
        intro hn
        show uN (fold (fun i D => uN D (8 * i + i) 0) (fun _ => 1000) n) (8 * n + n) 0 c = _
        by_cases q : c = 8 * n + n
        · rw [q, uN_s, if_pos (by omega)]
        · rw [uN_n q, ih (by omega)]
          by_cases w : c / 8 = c % 8 ∧ c / 8 < n
          · rw [if_pos w, if_pos (by omega)]
          · rw [if_neg w, if_neg (by omega)]
    rw [key 8 (Nat.le_refl 8), Dz]
    by_cases w : c / 8 = c % 8
    · rw [if_pos w, if_pos (by omega)]
    · rw [if_neg w, if_neg (by omega)])
  have d2 : ∀ k4 : mu_H → Option mu_H, lp (f_Par_measure_L38 N 3 k4) N (0, ur h 5 (SX (h.1 5) Dz)) = k4 (ur h 5 (SX (h.1 5) (De ea eb s))) := by
    intro k4
    refine lp_end (body := f_Par_measure_L38 N 3 k4) (fun r => (nI r, ur h 5 (SX (h.1 5) (fold (eg1 ea eb) Dz r)))) s ?_ ?_ (f := N) (by omega)
    · intro r hr rec
      show f_Par_measure_L38 N 3 k4 rec (nI r, _) = _
      obtain ⟨g1, g2, g3⟩ := hG.2 r hr
      obtain ⟨r1, r2⟩ := hR.2 r hr
      have o0 : ∀ F : Nat → Int32, f_Par_ofStretch N (ur h 5 F) 3 (nI r) 0 = some (nI (ea r)) := fun F => by
        have := ofS (N := N) (h := ur h 5 F) (o := 3) (r := r) (k := 0) (by omega) (by decide)
        rw [ur_n (show (3 + 1 : Nat) ≠ 5 by decide), r1] at this
        exact this
      have o1 : ∀ F : Nat → Int32, f_Par_ofStretch N (ur h 5 F) 3 (nI r) 1 = some (nI (eb r)) := fun F => by
        have := ofS (N := N) (h := ur h 5 F) (o := 3) (r := r) (k := 1) (by omega) (by decide)
        rw [ur_n (show (3 + 1 : Nat) ≠ 5 by decide), r2] at this
        exact this
      have i1 : nI (ea r) * 8 + nI (eb r) = nI (8 * ea r + eb r) := by rw [show (8 : Int32) = nI 8 from rfl, pk_mul, nI_add, Nat.mul_comm]
      have i2 : nI (eb r) * 8 + nI (ea r) = nI (8 * eb r + ea r) := by rw [show (8 : Int32) = nI 8 from rfl, pk_mul, nI_add, Nat.mul_comm]
      rw [f_Par_measure_L38, ur_n (by decide), hR.1, if_neg (fun w => by have := (nI_leI (by omega) (by omega)).mp w; omega), o0, bd_some, o1, bd_some, i1, ix_nI (by omega) (by decide), gd_t, bn_eq, nI_clamp (by omega), i2, ix_nI (by omega) (by decide), gd_t, bn_eq, nI_clamp (by omega), ui_ur, ui_ur, nI_1, show (1 : Int32) = nI 1 from rfl, SX_u (by omega), SX_u (by omega)]
      rfl
    · intro rec
      show f_Par_measure_L38 N 3 k4 rec (nI s, _) = _
      rw [f_Par_measure_L38, ur_n (by decide), hR.1, if_pos ((nI_leI (by omega) (by omega)).mpr (Nat.le_refl s))]
      rfl
  have d3 : lp (f_Par_measure_L92 N 3) N (0, ur h 5 (SX (h.1 5) (De ea eb s))) = some (ur h 5 (SX (h.1 5) (DF ea eb s))) := by
    refine lp_end (body := f_Par_measure_L92 N 3) (fun k => (nI k, ur h 5 (SX (h.1 5) (fold rndF (De ea eb s) k)))) 8 ?_ ?_ (f := N) (by omega)
    · intro k hk rec
      show f_Par_measure_L92 N 3 rec (nI k, _) = _
      have n8 : ¬ (8 : Int32) ≤ nI k := fun w => by have := (nI_leI (a := 8) (by decide) (by omega)).mp w; omega
      rw [f_Par_measure_L92, if_neg n8, sb_c hN hk (Fv_b (by omega) (De_k hG (by omega))), bd_some, nI_1]
      rfl
    · intro rec
      show f_Par_measure_L92 N 3 rec (nI 8, _) = _
      rw [f_Par_measure_L92, if_pos (show (8 : Int32) ≤ nI 8 by decide)]
      rfl
  have e1 : f_Par_measure N h 3 = (f_Arr_fill N h 5 64 1000).bind fun h1 => lp (f_Par_measure_L12 3 (fun h3 => lp (f_Par_measure_L38 N 3 (fun h5 => lp (f_Par_measure_L92 N 3) N (0, h5))) N (0, h3))) N (0, h1) := rfl
  rw [e1, hfi, bd_some, d1, ez]
  show lp (f_Par_measure_L38 N 3 _) N (0, _) = _
  rw [d2, d3]
/-! the model -/
def md (x : Nat) : Nat := if x = 1000 then 1000000 else x
def RwM (h : mu_H) (s : Nat) (ea eb : Nat → Nat) : Prop := h.1 51 25 = nI s ∧ ∀ r, r < s → h.1 66 (5 * r + 0) = nI (ea r) ∧ h.1 66 (5 * r + 1) = nI (eb r)
theorem md_b {x : Nat} (h : x ≤ 1000) : md x ≤ 1000000 := by
  rw [md]; split <;> omega
theorem md_n {x : Nat} (h : ¬ x = 1000) : md x = x := if_neg h
theorem md_f : md 1000 = 1000000 := if_pos rfl
theorem md_min {x y w : Nat} (hx : x ≤ 256 ∨ x = 1000) (hy : y ≤ 128 ∨ y = 1000) (hw : w ≤ 128 ∨ w = 1000) : min (md x) (md y + md w) = md (min x (y + w)) := by
  have x1000 : x ≤ 1000 := by
    rcases hx with q | q
    · omega
    · exact Nat.le_of_eq q
  have hb := md_b x1000
  rcases hy with hy | hy
  · rcases hw with hw | hw
    · rw [md_n (x := y) (by omega), md_n (x := w) (by omega)]
      rcases hx with hx | hx
      · rw [md_n (x := x) (by omega), md_n (x := min x (y + w)) (by omega)]
      · subst hx
        rw [md_f, Nat.min_eq_right (show y + w ≤ 1000 by omega), md_n (by omega), Nat.min_eq_right (Nat.le_trans (show y + w ≤ 256 by omega) (by decide))]
    · subst hw
      rw [md_f, Nat.min_eq_left (Nat.le_trans hb (Nat.le_add_left _ _)), Nat.min_eq_left (Nat.le_trans x1000 (Nat.le_add_left _ _))]
  · subst hy
    rw [md_f, Nat.min_eq_left (Nat.le_trans hb (Nat.le_add_right _ _)), Nat.min_eq_left (Nat.le_trans x1000 (Nat.le_add_right _ _))]
theorem uN_md {D : Nat → Nat} {c v : Nat} : uN (fun c => md (D c)) c (md v) = fun c' => md (uN D c v c') := by
  funext j
  by_cases q : j = c
  · subst q; rw [uN_s, uN_s]
  · rw [uN_n q, uN_n q]
theorem ls_108 {k : Nat} {X : Nat → Int32} {D : Nat → Nat} (hN : 3000 ≤ N) (hk : k < 8) (hF : Fvw s ea eb k D) (k8 : mu_H → Option mu_H) : lp (f_Mod_laySteps_L108 (nI k) k8) N (0, ur h 70 (SX X (fun c => md (D c)))) = k8 (ur h 70 (SX X (fun c => md (rndF k D c)))) := by
  refine lp_end (body := f_Mod_laySteps_L108 (nI k) k8) (fun c => (nI c, ur h 70 (SX X (fun c' => md (fold (stp k) D c c'))))) 64 ?_ ?_ (f := N) (by omega)
  · intro c hc rec
    show f_Mod_laySteps_L108 (nI k) k8 rec (nI c, _) = rec (nI (c + 1), ur h 70 (SX X (fun c' => md (stp k c (fold (stp k) D c) c'))))
    have hI := Iv_m hk hF c (by omega)
    obtain ⟨e1, e2⟩ := Iv_at hk hc hI
    generalize fold (stp k) D c = E at *
    have hpw : 2 ^ k ≤ 128 := Nat.le_trans (Nat.pow_le_pow_right (by decide) (show k ≤ 7 by omega)) (by decide)
    have b1 := hF.2.1 (c / 8 * 8 + k) (by omega)
    have b2 := hF.2.1 (8 * k + c % 8) (by omega)
    have b3 := hI.2.1 c hc
    rw [← e1] at b1
    rw [← e2] at b2
    have i0 : nI c / 8 = nI (c / 8) := div_r (m := 8) (by decide) (by decide) (by omega)
    have i1 : nI (c / 8) * 8 = nI (c / 8 * 8) := by rw [show (8 : Int32) = nI 8 from rfl, pk_mul]
    have i2 : nI c - nI (c / 8 * 8) = nI (c % 8) := by
      rw [sub_n (by omega) (by omega)]; congr 1; omega
    have i3 : 8 * nI k = nI (8 * k) := by rw [show (8 : Int32) = nI 8 from rfl, pk_mul]
    have hm : min (md (E c)) (md (E (c / 8 * 8 + k)) + md (E (8 * k + c % 8))) = md (min (E c) (E (c / 8 * 8 + k) + E (8 * k + c % 8))) := by
      refine md_min ?_ ?_ ?_
      · rcases b3 with q | q
        · exact Or.inl (by omega)
        · exact Or.inr q
      · rcases b1 with q | q
        · exact Or.inl (by omega)
        · exact Or.inr q
      · rcases b2 with q | q
        · exact Or.inl (by omega)
        · exact Or.inr q
    have bm1 := md_b (x := E c) (by omega)
    have bm2 := md_b (x := E (c / 8 * 8 + k)) (by omega)
    have bm3 := md_b (x := E (8 * k + c % 8)) (by omega)
    have n64 : ¬ (64 : Int32) ≤ nI c := fun w => by have := (nI_leI (a := 64) (by decide) (by omega)).mp w; omega
    rw [f_Mod_laySteps_L108, if_neg n64, ix_nI (show c < 64 by omega) (by decide), gd_t, i0, i1, nI_add, ix_nI (show c / 8 * 8 + k < 64 by omega) (by decide), gd_t, i2, i3, nI_add, ix_nI (show 8 * k + c % 8 < 64 by omega) (by decide), gd_t, gd_t, bn_eq, nI_clamp (show c < 2147483648 by omega), nI_clamp (show c / 8 * 8 + k < 2147483648 by omega), nI_clamp (show 8 * k + c % 8 < 2147483648 by omega), ur_1, SX_i hc, SX_i (show c / 8 * 8 + k < 64 by omega), SX_i (show 8 * k + c % 8 < 64 by omega), nI_add, mmin_n (by omega) (by omega), hm, ui_ur, SX_u hc, uN_md, nI_1]
    rfl
  · intro rec
    show f_Mod_laySteps_L108 (nI k) k8 rec (nI 64, _) = _
    rw [f_Mod_laySteps_L108, if_pos (show (64 : Int32) ≤ nI 64 by decide)]
    rfl
theorem lays_m (hN : 3000 ≤ N) (hG : Gr s ea eb) (hR : RwM h s ea eb) : f_Mod_laySteps N h = some (ur h 70 (SX (h.1 70) (fun c => md (DF ea eb s c)))) := by
  have hs9 := hG.1
  have d1 : ∀ k1 : mu_H → Option mu_H, lp (f_Mod_laySteps_L2 k1) N (0, h) = k1 (ur h 70 (SX (h.1 70) (fun c => md (Dz c)))) := by
    intro k1
    have e0 : h = ur h 70 (fun c => if c < 0 then nI (md (Dz c)) else h.1 70 c) := by
      have : (fun c => if c < 0 then nI (md (Dz c)) else h.1 70 c) = h.1 70 := by
        funext c; rw [if_neg (by omega)]
      rw [this, ur_self]
    have : lp (f_Mod_laySteps_L2 k1) N (0, ur h 70 (fun c => if c < 0 then nI (md (Dz c)) else h.1 70 c)) = k1 (ur h 70 (SX (h.1 70) (fun c => md (Dz c)))) := by
      refine lp_end (body := f_Mod_laySteps_L2 k1) (fun i => (nI i, ur h 70 (fun c => if c < i then nI (md (Dz c)) else h.1 70 c))) 64 ?_ ?_ (f := N) (by omega)
      · intro i hi rec
        show f_Mod_laySteps_L2 k1 rec (nI i, _) = _
        have i0 : nI i / 8 = nI (i / 8) := div_r (m := 8) (by decide) (by decide) (by omega)
        have i1 : nI (i / 8) * 8 = nI (i / 8 * 8) := by rw [show (8 : Int32) = nI 8 from rfl, pk_mul]
        have i2 : nI i - nI (i / 8 * 8) = nI (i % 8) := by
          rw [sub_n (by omega) (by omega)]; congr 1; omega
        have n64 : ((64 : Int32) ≤ nI i) = False := eq_false (fun w => by have := (nI_leI (a := 64) (by decide) (by omega)).mp w; omega)
        have x1 : ix (nI i) 64 = true := ix_nI (by omega) (by decide)
        have c1 := nI_clamp (show i < 2147483648 by omega)
        have eq1 : (nI (i / 8) = nI (i % 8)) = (i / 8 = i % 8) := nI_eq_i (by omega) (by omega)
        have fin : ∀ v : Int32, v = nI (md (Dz i)) → ui (ur h 70 (fun c => if c < i then nI (md (Dz c)) else h.1 70 c)) 70 i v = ur h 70 (fun c => if c < i + 1 then nI (md (Dz c)) else h.1 70 c) := by
          rintro v rfl
          rw [ui_ur]
          congr 1
          funext c
          by_cases q : c = i
          · subst q; rw [upd_s, if_pos (by omega)]
          · rw [upd_n q]
            by_cases w : c < i
            · rw [if_pos w, if_pos (by omega)]
            · rw [if_neg w, if_neg (by omega)]
        simp only [f_Mod_laySteps_L2, n64, ↓reduceIte, i0, i1, i2, eq1, jn_eq, x1, gd_t, bn_eq, c1, nI_1]
        by_cases q : i / 8 = i % 8
        · rw [if_pos q, fin 0 (by rw [Dz, if_pos q]; rfl)]
        · rw [if_neg q, fin 1000000 (by rw [Dz, if_neg q]; rfl)]
      · intro rec
        show f_Mod_laySteps_L2 k1 rec (nI 64, _) = _
        rw [f_Mod_laySteps_L2, if_pos (show (64 : Int32) ≤ nI 64 by decide)]
        rfl
    rw [← e0] at this
    exact this
  have d2 : ∀ k3 : mu_H → Option mu_H, lp (f_Mod_laySteps_L40 N k3) N (0, ur h 70 (SX (h.1 70) (fun c => md (Dz c)))) = k3 (ur h 70 (SX (h.1 70) (fun c => md (De ea eb s c)))) := by
    intro k3
    refine lp_end (body := f_Mod_laySteps_L40 N k3) (fun r => (nI r, ur h 70 (SX (h.1 70) (fun c => md (fold (eg1 ea eb) Dz r c))))) s ?_ ?_ (f := N) (by omega)
    · intro r hr rec
      show f_Mod_laySteps_L40 N k3 rec (nI r, _) = rec (nI (r + 1), ur h 70 (SX (h.1 70) (fun c => md (eg1 ea eb r (fold (eg1 ea eb) Dz r) c))))
      generalize fold (eg1 ea eb) Dz r = E
      obtain ⟨g1, g2, g3⟩ := hG.2 r hr
      obtain ⟨r1, r2⟩ := hR.2 r hr
      have o0 : ∀ F : Nat → Int32, f_Mod_of N (ur h 70 F) (nI r) 0 = some (nI (ea r)) := fun F => by
        have := mofS (N := N) (h := ur h 70 F) (r := r) (k := 0) (by omega) (by decide)
        rw [ur_n (show (66 : Nat) ≠ 70 by decide), r1] at this
        exact this
      have o1 : ∀ F : Nat → Int32, f_Mod_of N (ur h 70 F) (nI r) 1 = some (nI (eb r)) := fun F => by
        have := mofS (N := N) (h := ur h 70 F) (r := r) (k := 1) (by omega) (by decide)
        rw [ur_n (show (66 : Nat) ≠ 70 by decide), r2] at this
        exact this
      have i1 : 8 * nI (ea r) + nI (eb r) = nI (8 * ea r + eb r) := by rw [show (8 : Int32) = nI 8 from rfl, pk_mul, nI_add]
      have i2 : 8 * nI (eb r) + nI (ea r) = nI (8 * eb r + ea r) := by rw [show (8 : Int32) = nI 8 from rfl, pk_mul, nI_add]
      have m1 : uN (fun c => md (E c)) (8 * ea r + eb r) 1 = fun c => md (uN E (8 * ea r + eb r) 1 c) := uN_md (v := 1)
      have m2 : uN (fun c => md (uN E (8 * ea r + eb r) 1 c)) (8 * eb r + ea r) 1 = fun c => md (eg1 ea eb r E c) := uN_md (v := 1)
      rw [f_Mod_laySteps_L40, ur_n (by decide), hR.1, if_neg (fun w => by have := (nI_leI (by omega) (by omega)).mp w; omega), o0, bd_some, o1, bd_some, i1, ix_nI (by omega) (by decide), gd_t, bn_eq, nI_clamp (by omega), ui_ur, o1, bd_some, o0, bd_some, i2, ix_nI (by omega) (by decide), gd_t, bn_eq, nI_clamp (by omega), ui_ur, nI_1, show (1 : Int32) = nI 1 from rfl, SX_u (by omega), SX_u (by omega), m1, m2]
    · intro rec
      show f_Mod_laySteps_L40 N k3 rec (nI s, _) = _
      rw [f_Mod_laySteps_L40, ur_n (by decide), hR.1, if_pos ((nI_leI (by omega) (by omega)).mpr (Nat.le_refl s))]
      rfl
  have d3 : lp (f_Mod_laySteps_L100 N) N (0, ur h 70 (SX (h.1 70) (fun c => md (De ea eb s c)))) = some (ur h 70 (SX (h.1 70) (fun c => md (DF ea eb s c)))) := by
    refine lp_end (body := f_Mod_laySteps_L100 N) (fun k => (nI k, ur h 70 (SX (h.1 70) (fun c => md (fold rndF (De ea eb s) k c))))) 8 ?_ ?_ (f := N) (by omega)
    · intro k hk rec
      show f_Mod_laySteps_L100 N rec (nI k, _) = _
      have n8 : ¬ (8 : Int32) ≤ nI k := fun w => by have := (nI_leI (a := 8) (by decide) (by omega)).mp w; omega
      rw [f_Mod_laySteps_L100, if_neg n8, jn_eq, ls_108 hN hk (De_k hG (by omega)), nI_1]
      rfl
    · intro rec
      show f_Mod_laySteps_L100 N rec (nI 8, _) = _
      rw [f_Mod_laySteps_L100, if_pos (show (8 : Int32) ≤ nI 8 by decide)]
      rfl
  have e1 : f_Mod_laySteps N h = lp (f_Mod_laySteps_L2 (fun h2 => lp (f_Mod_laySteps_L40 N (fun h4 => lp (f_Mod_laySteps_L100 N) N (0, h4))) N (0, h2))) N (0, h) := rfl
  rw [e1, d1]
  show lp (f_Mod_laySteps_L40 N _) N (0, _) = _
  rw [d2, d3]
theorem DF_8 (hG : Gr s ea eb) : ∀ c, c < 64 → DF ea eb s c < 8 ∨ DF ea eb s c = 1000 := Fv_8 (fun r hr => ⟨(hG.2 r hr).1, (hG.2 r hr).2.1⟩) (De_k hG (Nat.le_refl 8))
end Steps
