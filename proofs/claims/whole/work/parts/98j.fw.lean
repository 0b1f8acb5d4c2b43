/-! the steps between places: what both reckon -/
section Fw
variable {s : Nat} {ea eb : Nat → Nat}
def stp (k c : Nat) (D : Nat → Nat) : Nat → Nat := uN D c (min (D c) (D (c / 8 * 8 + k) + D (8 * k + c % 8)))
def rndF (k : Nat) (D : Nat → Nat) : Nat → Nat := fold (stp k) D 64
def Pth (s : Nat) (ea eb : Nat → Nat) : Nat → List Nat → Nat → Prop
  | i, [], j => ∃ r, Eg s ea eb r i j
  | i, x :: l, j => (∃ r, Eg s ea eb r i x) ∧ Pth s ea eb x l j
theorem Pth_split : ∀ (l1 : List Nat) (i k j : Nat) (l2 : List Nat), Pth s ea eb i (l1 ++ k :: l2) j → Pth s ea eb i l1 k ∧ Pth s ea eb k l2 j := by
  intro l1
  induction l1 with
  | nil => intro i k j l2 h; exact h
  | cons x l ih =>
    intro i k j l2 h
    have h : (∃ r, Eg s ea eb r i x) ∧ Pth s ea eb x (l ++ k :: l2) j := h
    obtain ⟨a, b⟩ := ih x k j l2 h.2
    exact ⟨⟨h.1, a⟩, b⟩
def Wk (s : Nat) (ea eb : Nat → Nat) (i j : Nat) : Prop := ∃ n l, Wb s ea eb (fun r => 512 * 0 + 2 ^ r) no n i j l
theorem Wb_app {ln : Nat → Nat} : ∀ n p q r m l l', Wb s ea eb ln no n p q l → Wb s ea eb ln no m q r l' → Wb s ea eb ln no (n + m) p r (l + l') := by
  intro n
  induction n with
  | zero =>
    rintro p q r m l l' ⟨rfl, rfl⟩ h2
    rw [Nat.zero_add, Nat.zero_add]; exact h2
  | succ n ih =>
    rintro p q r m l l' ⟨r1, p1, l1, e1, -, w, rfl⟩ h2
    rw [show n + 1 + m = (n + m) + 1 by omega]
    exact ⟨r1, p1, l1 + l', e1, fun x => x, ih p1 q r m l1 l' w h2, by omega⟩
theorem Wk_app {i j k : Nat} (h1 : Wk s ea eb i k) (h2 : Wk s ea eb k j) : Wk s ea eb i j := by
  obtain ⟨n, l, a⟩ := h1
  obtain ⟨m, l', b⟩ := h2
  exact ⟨n + m, l + l', Wb_app n i k j m l l' a b⟩
def Fvw (s : Nat) (ea eb : Nat → Nat) (k : Nat) (D : Nat → Nat) : Prop := (∀ i, i < 8 → D (8 * i + i) = 0) ∧ (∀ c, c < 64 → D c ≤ 2 ^ k ∨ D c = 1000) ∧ (∀ i j l, i < 8 → j < 8 → Pth s ea eb i l j → (∀ x ∈ l, x < k) → l.Nodup → D (8 * i + j) ≤ l.length + 1) ∧ ∀ i j, i < 8 → j < 8 → D (8 * i + j) < 1000 → Wk s ea eb i j
/-- within a round -/
def Iv (s : Nat) (ea eb : Nat → Nat) (k : Nat) (Ds : Nat → Nat) (m : Nat) (D : Nat → Nat) : Prop := (∀ c, c < 64 → D c ≤ Ds c) ∧ (∀ c, c < 64 → D c ≤ 2 * 2 ^ k ∨ D c = 1000) ∧ (∀ i, i < 8 → D (8 * i + k) = Ds (8 * i + k) ∧ D (8 * k + i) = Ds (8 * k + i)) ∧ (∀ c, c < m → D c ≤ Ds (c / 8 * 8 + k) + Ds (8 * k + c % 8)) ∧ ∀ i j, i < 8 → j < 8 → D (8 * i + j) < 1000 → Wk s ea eb i j
theorem Iv_0 {k : Nat} {Ds : Nat → Nat} (h : Fvw s ea eb k Ds) : Iv s ea eb k Ds 0 Ds := ⟨fun _ _ => Nat.le_refl _, fun c hc => by
  rcases h.2.1 c hc with q | q
  · exact Or.inl (by omega)
  · exact Or.inr q, fun _ _ => ⟨rfl, rfl⟩, fun c hc => by omega, h.2.2.2⟩
theorem Iv_at {k m : Nat} {Ds D : Nat → Nat} (hk : k < 8) (hm : m < 64) (hI : Iv s ea eb k Ds m D) : D (m / 8 * 8 + k) = Ds (m / 8 * 8 + k) ∧ D (8 * k + m % 8) = Ds (8 * k + m % 8) := by
  have h1 := (hI.2.2.1 (m / 8) (by omega)).1
  have h2 := (hI.2.2.1 (m % 8) (by omega)).2
  rw [show m / 8 * 8 + k = 8 * (m / 8) + k by omega]
  exact ⟨h1, h2⟩
theorem Iv_s {k m : Nat} {Ds D : Nat → Nat} (hk : k < 8) (hm : m < 64) (hF : Fvw s ea eb k Ds) (hI : Iv s ea eb k Ds m D) : Iv s ea eb k Ds (m + 1) (stp k m D) := by
  obtain ⟨e1, e2⟩ := Iv_at hk hm hI
  obtain ⟨a1, a2, a3, a4, a5⟩ := hI
  obtain ⟨f1, f2, f3, f4⟩ := hF
  have hpw : 2 ^ k ≤ 128 := Nat.le_trans (Nat.pow_le_pow_right (by decide) (show k ≤ 7 by omega)) (by decide)
  have u1 := f2 (m / 8 * 8 + k) (by omega)
  have u2 := f2 (8 * k + m % 8) (by omega)
  have u3 := a2 m hm
  have u4 := a1 m hm
  have hv : stp k m D m = min (D m) (Ds (m / 8 * 8 + k) + Ds (8 * k + m % 8)) := by rw [stp, uN_s, e1, e2]
  have hn : ∀ c, ¬ c = m → stp k m D c = D c := fun c hc => by rw [stp, uN_n hc]
  refine ⟨fun c hc => ?_, fun c hc => ?_, fun i hi => ⟨?_, ?_⟩, fun c hc => ?_, fun i j hi hj hlt => ?_⟩
  · by_cases q : c = m
    · subst q; rw [hv]; omega
    · rw [hn c q]; exact a1 c hc
  · by_cases q : c = m
    · subst q; rw [hv]; omega
    · rw [hn c q]; exact a2 c hc
  · by_cases q : 8 * i + k = m
    · have hz := f1 k hk
      rw [q, hv]
      have := (a3 i hi).1
      rw [q] at this
      have x1 : m / 8 * 8 + k = m := by omega
      have x2 : 8 * k + m % 8 = 8 * k + k := by omega
      rw [x1, x2, hz]; omega
    · rw [hn _ q]; exact (a3 i hi).1
  · by_cases q : 8 * k + i = m
    · have hz := f1 k hk
      rw [q, hv]
      have := (a3 i hi).2
      rw [q] at this
      have x1 : m / 8 * 8 + k = 8 * k + k := by omega
      have x2 : 8 * k + m % 8 = m := by omega
      rw [x1, x2, hz]; omega
    · rw [hn _ q]; exact (a3 i hi).2
  · by_cases q : c = m
    · subst q; rw [hv]; omega
    · rw [hn c q]; exact a4 c (by omega)
  · by_cases q : 8 * i + j = m
    · rw [q, hv] at hlt
      by_cases w : D m < 1000
      · exact a5 i j hi hj (by rw [q]; exact w)
      · have y1 : Ds (8 * i + k) < 1000 := by
          rw [show m / 8 * 8 + k = 8 * i + k by omega] at hlt; omega
        have y2 : Ds (8 * k + j) < 1000 := by
          rw [show 8 * k + m % 8 = 8 * k + j by omega] at hlt; omega
        exact Wk_app (f4 i k hi hk y1) (f4 k j hk hj y2)
    · rw [hn _ q] at hlt; exact a5 i j hi hj hlt
theorem Iv_m {k : Nat} {Ds : Nat → Nat} (hk : k < 8) (hF : Fvw s ea eb k Ds) : ∀ m, m ≤ 64 → Iv s ea eb k Ds m (fold (stp k) Ds m) := by
  intro m
  induction m with
  | zero => intro _; exact Iv_0 hF
  | succ m ih => intro hm; exact Iv_s hk (by omega) hF (ih (by omega))
theorem Fv_s {k : Nat} {Ds : Nat → Nat} (hk : k < 8) (hF : Fvw s ea eb k Ds) : Fvw s ea eb (k + 1) (rndF k Ds) := by
  obtain ⟨a1, a2, a3, a4, a5⟩ := Iv_m hk hF 64 (Nat.le_refl _)
  obtain ⟨f1, f2, f3, f4⟩ := hF
  refine ⟨fun i hi => ?_, fun c hc => ?_, fun i j l hi hj hP hx hnd => ?_, a5⟩
  · have := a1 (8 * i + i) (by omega)
    rw [f1 i hi] at this
    show fold (stp k) Ds 64 (8 * i + i) = 0
    omega
  · rw [Nat.pow_succ, Nat.mul_comm]; exact a2 c hc
  · by_cases q : k ∈ l
    · obtain ⟨l1, l2, rfl⟩ := List.append_of_mem q
      obtain ⟨p1, p2⟩ := Pth_split l1 i k j l2 hP
      rw [List.nodup_append] at hnd
      obtain ⟨n1, n2, n3⟩ := hnd
      rw [List.nodup_cons] at n2
      have g1 := f3 i k l1 hi hk p1 (fun x h => by
        have := hx x (List.mem_append_left _ h)
        have : x ≠ k := fun w => n3 x h k List.mem_cons_self w
        omega) n1
      have g2 := f3 k j l2 hk hj p2 (fun x h => by
        have := hx x (List.mem_append_right _ (List.mem_cons_of_mem _ h))
        have : x ≠ k := fun w => n2.1 (by rw [← w]; exact h)
        omega) n2.2
      have g3 := a4 (8 * i + j) (by omega)
      rw [show (8 * i + j) / 8 * 8 + k = 8 * i + k by omega, show 8 * k + (8 * i + j) % 8 = 8 * k + j by omega] at g3
      rw [List.length_append, List.length_cons]
      show fold (stp k) Ds 64 (8 * i + j) ≤ _
      omega
    · have g1 := f3 i j l hi hj hP (fun x h => by
        have := hx x h
        have : x ≠ k := fun w => q (by rw [← w]; exact h)
        omega) hnd
      have g2 := a1 (8 * i + j) (by omega)
      show fold (stp k) Ds 64 (8 * i + j) ≤ _
      omega
theorem Fv_k {D : Nat → Nat} (hF : Fvw s ea eb 0 D) : ∀ k, k ≤ 8 → Fvw s ea eb k (fold rndF D k) := by
  intro k
  induction k with
  | zero => intro _; exact hF
  | succ k ih => intro hk; exact Fv_s (by omega) (ih (by omega))
theorem Sp_l (he : ∀ r, r < s → ea r < 8 ∧ eb r < 8) {wr : Nat → Nat} {g : Nat} : ∀ n been p w b, Sp s ea eb wr g (n + 1) been p w b → ∃ l, l.length = n ∧ Pth s ea eb p l g ∧ (∀ x ∈ l, ¬ been.testBit x = true) ∧ l.Nodup ∧ ∀ x ∈ l, x < 8 := by
  intro n
  induction n with
  | zero =>
    rintro been p w b ⟨-, r, p', w', b', e, -, ⟨rfl, -, -⟩, -, -⟩
    exact ⟨[], rfl, ⟨r, e⟩, fun x h => absurd h (by simp), List.nodup_nil, fun x h => absurd h (by simp)⟩
  | succ n ih =>
    rintro been p w b ⟨-, r, p', w', b', e, hb, h, -, -⟩
    obtain ⟨l, l1, l2, l3, l4, l5⟩ := ih _ _ _ _ h
    have hp : p' < 8 := by
      obtain ⟨h1, h2 | h2⟩ := e
      · rw [← h2.2]; exact (he r h1).2
      · rw [← h2.2]; exact (he r h1).1
    refine ⟨p' :: l, by rw [List.length_cons, l1], ⟨⟨r, e⟩, l2⟩, fun x hx => ?_, ?_, fun x hx => ?_⟩
    · rcases List.mem_cons.mp hx with w | w
      · rw [w]; exact hb
      · exact fun q => l3 x w (tb_or.mpr (Or.inl q))
    · rw [List.nodup_cons]
      exact ⟨fun w => l3 p' w (tb_or.mpr (Or.inr rfl)), l4⟩
    · rcases List.mem_cons.mp hx with w | w
      · rw [w]; exact hp
      · exact l5 x w
theorem Fv_8 (he : ∀ r, r < s → ea r < 8 ∧ eb r < 8) {D : Nat → Nat} (hF : Fvw s ea eb 8 D) : ∀ c, c < 64 → D c < 8 ∨ D c = 1000 := by
  obtain ⟨f1, f2, f3, f4⟩ := hF
  intro c hc
  by_cases q : D c = 1000
  · exact Or.inr q
  refine Or.inl ?_
  have hb : D c < 1000 := by
    rcases f2 c hc with w | w
    · have : (2 : Nat) ^ 8 = 256 := rfl
      omega
    · exact absurd w q
  have ec : c = 8 * (c / 8) + c % 8 := by omega
  have hi : c / 8 < 8 := by omega
  have hj : c % 8 < 8 := by omega
  generalize c / 8 = i at *
  generalize c % 8 = j at *
  subst ec
  obtain ⟨n, l, hw⟩ := f4 i j hi hj hb
  obtain ⟨m, w, b, hS, -⟩ := W_S0 (wr := fun _ => 0) (fun r => rfl) hw
  have hm := Sp_n he m (2 ^ i) i w b hS
  have hcn : 1 ≤ cnt (2 ^ i).testBit 8 := by
    have := cnt_0 (f := (2 ^ i).testBit) 8
    by_cases z : cnt (2 ^ i).testBit 8 = 0
    · exact absurd (Nat.testBit_two_pow_self) ((this.mp z) i hi)
    · omega
  cases m with
  | zero =>
    have : i = j := hS.1
    subst this
    rw [f1 i hi]; decide
  | succ m =>
    obtain ⟨l, l1, l2, l3, l4, l5⟩ := Sp_l he m _ _ _ _ hS
    have := f3 i j l hi hj l2 l5 l4
    omega
end Fw
