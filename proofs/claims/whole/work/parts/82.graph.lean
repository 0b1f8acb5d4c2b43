/-! walks and paths without return -/
section Graph
variable {s : Nat} {ea eb ln : Nat → Nat}
def Eg (s : Nat) (ea eb : Nat → Nat) (r p q : Nat) : Prop := r < s ∧ ((ea r = p ∧ eb r = q) ∨ (eb r = p ∧ ea r = q))
theorem Eg_sym {r p q : Nat} (h : Eg s ea eb r p q) : Eg s ea eb r q p := by
  obtain ⟨h1, h2 | h2⟩ := h
  · exact ⟨h1, Or.inr ⟨h2.2, h2.1⟩⟩
  · exact ⟨h1, Or.inl ⟨h2.2, h2.1⟩⟩
/-- a walk of n stretches whose places behind the first keep out of B -/
def Wb (s : Nat) (ea eb ln : Nat → Nat) (B : Nat → Prop) : Nat → Nat → Nat → Nat → Prop
  | 0, p, q, l => p = q ∧ l = 0
  | n + 1, p, q, l => ∃ r p' l', Eg s ea eb r p p' ∧ ¬ B p' ∧ Wb s ea eb ln B n p' q l' ∧ l = ln r + l'
def no : Nat → Prop := fun _ => False
theorem Wb_snoc {r q q' : Nat} (e : Eg s ea eb r q q') : ∀ n p l, Wb s ea eb ln no n p q l → Wb s ea eb ln no (n + 1) p q' (l + ln r) := by
  intro n
  induction n with
  | zero =>
    rintro p l ⟨rfl, rfl⟩
    exact ⟨r, q', 0, e, fun x => x, ⟨rfl, rfl⟩, by omega⟩
  | succ n ih =>
    rintro p l ⟨r1, p1, l1, e1, -, w, rfl⟩
    exact ⟨r1, p1, l1 + ln r, e1, fun x => x, ih p1 l1 w, by omega⟩
theorem Wb_rev : ∀ n p q l, Wb s ea eb ln no n p q l → Wb s ea eb ln no n q p l := by
  intro n
  induction n with
  | zero => rintro p q l ⟨rfl, rfl⟩; exact ⟨rfl, rfl⟩
  | succ n ih =>
    rintro p q l ⟨r1, p1, l1, e1, -, w, rfl⟩
    have := Wb_snoc (ln := ln) (Eg_sym e1) n q l1 (ih p1 q l1 w)
    rw [Nat.add_comm l1] at this
    exact this
theorem Wb_last : ∀ n p q l, Wb s ea eb ln no (n + 1) p q l → ∃ r q' l', Eg s ea eb r q' q ∧ Wb s ea eb ln no n p q' l' ∧ l = l' + ln r := by
  intro n p q l h
  obtain ⟨r1, p1, l1, e1, -, w, e⟩ := Wb_rev _ _ _ _ h
  exact ⟨r1, p1, l1, Eg_sym e1, Wb_rev _ _ _ _ w, by omega⟩
/-- it keeps out of x too, or ends in a walk from x -/
theorem Wb_or {B : Nat → Prop} {x : Nat} : ∀ n p q l, Wb s ea eb ln B n p q l → Wb s ea eb ln (fun y => B y ∨ y = x) n p q l ∨ ∃ n' l', n' < n ∧ l' ≤ l ∧ Wb s ea eb ln B n' x q l' := by
  intro n
  induction n with
  | zero => intro p q l h; exact Or.inl h
  | succ n ih =>
    rintro p q l ⟨r1, p1, l1, e1, hb, w, rfl⟩
    rcases ih p1 q l1 w with h | ⟨n', l', h1, h2, h3⟩
    · by_cases c : p1 = x
      · exact Or.inr ⟨n, l1, by omega, by omega, by rw [← c]; exact w⟩
      · refine Or.inl ⟨r1, p1, l1, e1, fun q => ?_, h, rfl⟩
        rcases q with q | q
        · exact hb q
        · exact c q
    · exact Or.inr ⟨n', l', by omega, by omega, h3⟩
theorem Wb_cut {B : Nat → Prop} : ∀ n p q l, Wb s ea eb ln B n p q l → ∃ m l', m ≤ n ∧ l' ≤ l ∧ Wb s ea eb ln (fun y => B y ∨ y = p) m p q l' := by
  intro n
  induction n using Nat.strongRecOn with
  | _ n ih =>
    intro p q l h
    rcases Wb_or (x := p) n p q l h with h1 | ⟨n', l', h1, h2, h3⟩
    · exact ⟨n, l, Nat.le_refl n, Nat.le_refl l, h1⟩
    · obtain ⟨m, l2, a, b, c⟩ := ih n' h1 p q l' h3
      exact ⟨m, l2, by omega, by omega, c⟩
/-- a way without return: w its wear, b its stretches as a sum of bits -/
def Sp (s : Nat) (ea eb wr : Nat → Nat) (g : Nat) : Nat → Nat → Nat → Nat → Nat → Prop
  | 0, _, p, w, b => p = g ∧ w = 0 ∧ b = 0
  | n + 1, been, p, w, b => ¬ p = g ∧ ∃ r p' w' b', Eg s ea eb r p p' ∧ ¬ been.testBit p' = true ∧ Sp s ea eb wr g n (been ||| 2 ^ p') p' w' b' ∧ w = wr r + w' ∧ b = 2 ^ r + b'
theorem Sp_W {wr : Nat → Nat} {g : Nat} (hl : ∀ r, ln r = 512 * wr r + 2 ^ r) : ∀ n been p w b, Sp s ea eb wr g n been p w b → Wb s ea eb ln no n p g (512 * w + b) := by
  intro n
  induction n with
  | zero => rintro been p w b ⟨rfl, rfl, rfl⟩; exact ⟨rfl, rfl⟩
  | succ n ih =>
    rintro been p w b ⟨-, r, p', w', b', e, -, h, rfl, rfl⟩
    exact ⟨r, p', 512 * w' + b', e, fun x => x, ih _ _ _ _ h, by rw [hl]; omega⟩
theorem tb_or {v x y : Nat} : (v ||| 2 ^ x).testBit y = true ↔ v.testBit y = true ∨ y = x := by
  rw [Nat.testBit_or, Bool.or_eq_true]
  by_cases c : y = x
  · subst c
    rw [Nat.testBit_two_pow_self]
    exact ⟨fun _ => Or.inr rfl, fun _ => Or.inr rfl⟩
  · rw [Nat.testBit_two_pow_of_ne (fun q => c q.symm)]
    exact ⟨fun h => by rcases h with h | h; exact Or.inl h; exact absurd h (by decide), fun h => by rcases h with h | h; exact Or.inl h; exact absurd h c⟩
theorem Wb_mono {B B' : Nat → Prop} (hb : ∀ x, B' x → B x) : ∀ n p q l, Wb s ea eb ln B n p q l → Wb s ea eb ln B' n p q l := by
  intro n
  induction n with
  | zero => intro p q l h; exact h
  | succ n ih =>
    rintro p q l ⟨r, p', l', e, h1, h2, h3⟩
    exact ⟨r, p', l', e, fun x => h1 (hb _ x), ih _ _ _ h2, h3⟩
theorem W_Sp {wr : Nat → Nat} {g : Nat} (hl : ∀ r, ln r = 512 * wr r + 2 ^ r) : ∀ n been p l, Wb s ea eb ln (fun y => been.testBit y = true) n p g l → ∃ m w b, m ≤ n ∧ Sp s ea eb wr g m been p w b ∧ 512 * w + b ≤ l := by
  intro n
  induction n using Nat.strongRecOn with
  | _ n ih =>
    intro been p l h
    by_cases c : p = g
    · exact ⟨0, 0, 0, Nat.zero_le n, ⟨c, rfl, rfl⟩, Nat.zero_le l⟩
    · cases n with
      | zero => exact absurd h.1 c
      | succ n =>
        obtain ⟨r, p', l', e, hb, hw, rfl⟩ := h
        obtain ⟨m, l2, h1, h2, h3⟩ := Wb_cut n p' g l' hw
        obtain ⟨m2, w, b, a1, a2, a3⟩ := ih m (by omega) (been ||| 2 ^ p') p' l2 (Wb_mono (fun x hx => tb_or.mp hx) _ _ _ _ h3)
        exact ⟨m2 + 1, wr r + w, 2 ^ r + b, by omega, ⟨c, r, p', w, b, e, hb, a2, rfl, rfl⟩, by rw [hl]; omega⟩
/-- the least: every walk has a way without return that is no longer -/
theorem W_S0 {wr : Nat → Nat} {g : Nat} (hl : ∀ r, ln r = 512 * wr r + 2 ^ r) {n p l : Nat} (h : Wb s ea eb ln no n p g l) : ∃ m w b, Sp s ea eb wr g m (2 ^ p) p w b ∧ 512 * w + b ≤ l := by
  obtain ⟨m, l', -, h2, h3⟩ := Wb_cut n p g l h
  obtain ⟨m2, w, b, -, a2, a3⟩ := W_Sp hl m (2 ^ p) p l' (Wb_mono (fun x hx => by
    refine Or.inr ?_
    refine Decidable.byContradiction (fun q => ?_)
    rw [Nat.testBit_two_pow_of_ne (fun q2 => q q2.symm)] at hx
    exact absurd hx (by decide)) _ _ _ _ h3)
  exact ⟨m2, w, b, a2, by omega⟩
/-- a way without return is short -/
theorem Sp_n {wr : Nat → Nat} {g : Nat} (he : ∀ r, r < s → ea r < 8 ∧ eb r < 8) : ∀ n been p w b, Sp s ea eb wr g n been p w b → n ≤ 8 - cnt been.testBit 8 := by
  intro n
  induction n with
  | zero => intros; omega
  | succ n ih =>
    rintro been p w b ⟨-, r, p', w', b', e, hb, h, -, -⟩
    have hp : p' < 8 := by
      obtain ⟨h1, h2 | h2⟩ := e
      · rw [← h2.2]; exact (he r h1).2
      · rw [← h2.2]; exact (he r h1).1
    have h1 := ih _ _ _ _ h
    have h2 := cnt_lt (f := been.testBit) (g := (been ||| 2 ^ p').testBit) 8 (fun x _ hx => tb_or.mpr (Or.inl hx)) hp hb (tb_or.mpr (Or.inr rfl))
    have h3 := cnt_le (been ||| 2 ^ p').testBit 8
    omega
end Graph
