/-! sums, long numbers -/
def sig (f : Nat → Nat) (n : Nat) : Nat := fold (fun k x => x + f k) 0 n
theorem sig_s {f : Nat → Nat} {n : Nat} : sig f (n + 1) = sig f n + f n := rfl
theorem sig_eq {f g : Nat → Nat} {n : Nat} (h : ∀ k, k < n → f k = g k) : sig f n = sig g n := fold_eq (fun i hi x => by rw [h i hi])
theorem sig_0 {f : Nat → Nat} {n : Nat} (h : ∀ k, k < n → f k = 0) : sig f n = 0 := by
  induction n with
  | zero => rfl
  | succ n ih => rw [sig_s, ih (fun k hk => h k (by omega)), h n (by omega)]
theorem sig_head {f : Nat → Nat} : ∀ n, sig f (n + 1) = f 0 + sig (fun k => f (k + 1)) n := by
  intro n
  induction n with
  | zero => rw [sig_s]; show 0 + f 0 = f 0 + 0; omega
  | succ n ih => rw [sig_s, ih, sig_s]; omega
theorem sig_rev : ∀ (n : Nat) (f : Nat → Nat), sig (fun k => f (n - 1 - k)) n = sig f n := by
  intro n
  induction n with
  | zero => intro f; rfl
  | succ n ih =>
    intro f
    rw [sig_head, sig_s]
    have e := ih f
    rw [← e]
    have : sig (fun k => f (n + 1 - 1 - (k + 1))) n = sig (fun k => f (n - 1 - k)) n := sig_eq (fun k hk => by rw [show n + 1 - 1 - (k + 1) = n - 1 - k by omega])
    rw [this, show n + 1 - 1 - 0 = n by omega]
    omega
theorem sig_add {f g : Nat → Nat} {n : Nat} : sig (fun k => f k + g k) n = sig f n + sig g n := by
  induction n with
  | zero => rfl
  | succ n ih => rw [sig_s, sig_s, sig_s, ih]; omega
theorem sig_swap {f : Nat → Nat → Nat} {n m : Nat} : sig (fun t => sig (fun w => f w t) n) m = sig (fun w => sig (fun t => f w t) m) n := by
  induction n with
  | zero =>
    rw [show sig (fun w => sig (fun t => f w t) m) 0 = 0 from rfl]
    exact sig_0 (fun k hk => rfl)
  | succ n ih =>
    rw [sig_s, ← ih, ← sig_add]
    exact sig_eq (fun k hk => sig_s)
theorem sig_ite {a x n : Nat} (h : a < n) : sig (fun t => if a = t then x else 0) n = x := by
  induction n with
  | zero => omega
  | succ n ih =>
    rw [sig_s]
    by_cases c : a = n
    · rw [if_pos c, sig_0 (fun k hk => by rw [if_neg (by omega)])]; omega
    · rw [if_neg c, ih (by omega), Nat.add_zero]
theorem sig_le {f : Nat → Nat} {n k : Nat} (h : k < n) : f k ≤ sig f n := by
  induction n with
  | zero => omega
  | succ n ih =>
    rw [sig_s]
    by_cases c : k = n
    · rw [c]; omega
    · have := ih (by omega); omega
def lI (n : Nat) : Int64 := Int64.ofNat n
theorem lI_add {a b : Nat} : lI a + lI b = lI (a + b) := (Int64.ofNat_add a b).symm
theorem lI_mul {a b : Nat} : lI a * lI b = lI (a * b) := (Int64.ofNat_mul a b).symm
theorem lI_sub {a b : Nat} (h : b ≤ a) : lI a - lI b = lI (a - b) := (Int64.ofNat_sub a b h).symm
theorem lI_32 {n : Nat} : (lI n).toInt32 = nI n := Int64.toInt32_ofNat'
theorem nI_64 {n : Nat} (h : n < 2147483648) : (nI n).toInt64 = lI n := NT.l64 h
theorem lI_toInt {n : Nat} (h : n < 9223372036854775808) : (lI n).toInt = (n : Int) := by
  rw [lI, Int64.toInt_ofNat']
  exact Int.bmod_eq_of_le (by simp only [Int64.size]; omega) (by simp only [Int64.size]; omega)
theorem lI_div {a b : Nat} (ha : a < 1000000000000) (hb : b < 1000) (h0 : 0 < b) : lI a / lI b = lI (a / b) := by
  have hq : a / b ≤ a := Nat.div_le_self _ _
  apply Int64.toInt_inj.mp
  rw [Int64.toInt_div, lI_toInt (by omega), lI_toInt (by omega), lI_toInt (by omega), ← Int.ofNat_tdiv]
  generalize a / b = q at hq
  exact Int.bmod_eq_of_le (by omega) (by omega)
/-- rows of long numbers -/
def url (h : mu_H) (a : Nat) (f : Nat → Int64) : mu_H := (h.1, fun i => if i = a then f else h.2 i)
theorem url_1 {h : mu_H} {a : Nat} {f : Nat → Int64} : (url h a f).1 = h.1 := rfl
theorem url_g {h : mu_H} {a c : Nat} {f : Nat → Int64} : (url h a f).2 c = if c = a then f else h.2 c := rfl
theorem ul_url {h : mu_H} {a k : Nat} {f : Nat → Int64} {x : Int64} : ul (url h a f) a k x = url h a (vp_updL f k x) := by
  have : (ul (url h a f) a k x).2 = (url h a (vp_updL f k x)).2 := by
    funext c
    show (if c = a then vp_updL ((url h a f).2 a) k x else (url h a f).2 c) = if c = a then vp_updL f k x else h.2 c
    rw [url_g, url_g]
    by_cases e : c = a
    · rw [if_pos e, if_pos e, if_pos rfl]
    · rw [if_neg e, if_neg e, if_neg e]
  exact Prod.ext rfl this
theorem url_self {h : mu_H} {a : Nat} : url h a (h.2 a) = h := by
  have : (url h a (h.2 a)).2 = h.2 := by
    funext c
    rw [url_g]
    by_cases e : c = a
    · rw [if_pos e, e]
    · rw [if_neg e]
  exact Prod.ext rfl this
theorem updL_s {f : Nat → Int64} {k : Nat} {x : Int64} : vp_updL f k x k = x := by simp [vp_updL]
theorem updL_n {f : Nat → Int64} {k j : Nat} {x : Int64} (h : j ≠ k) : vp_updL f k x j = f j := by simp [vp_updL, h]
theorem fill_c {N : Nat} {h : mu_H} {q n : Nat} {v : Int32} (hN : n < N) (hn : n ≤ 1000) : f_Arr_fill N h q n v = some (ur h q (fun k => if k < n then v else h.1 q k)) := by
  have key := lp_end (body := f_Arr_fill_L5 q n v (nI n)) (fun i => (nI i, ur h q (fun k => if k < i then v else h.1 q k))) n (v := some (ur h q (fun k => if k < n then v else h.1 q k))) ?_ ?_ (f := N) hN
  · have e0 : (fun k => if k < 0 then v else h.1 q k) = h.1 q := by
      funext k
      rw [if_neg (by omega)]
    rw [e0, ur_self] at key
    exact key
  · intro i hi rec
    have e : upd (fun k => if k < i then v else h.1 q k) i v = (fun k => if k < i + 1 then v else h.1 q k) := by
      funext k
      by_cases c : k = i
      · subst c
        rw [upd_s, if_pos (by omega)]
      · rw [upd_n c]
        by_cases d : k < i
        · rw [if_pos d, if_pos (by omega)]
        · rw [if_neg d, if_neg (by omega)]
    simp (disch := omega) only [↓bn_eq, ↓jn_eq, ↓reduceIte, gd_t, bd_some, bn_eq, jn_eq, bi_some, if_pos, if_neg, i10, nI_lt_i, nI_le_i, nI_eq_i, ll_le, ll_lt, ll_eq, lr_le, lr_lt, lr_eq, ix_n, nI_clamp, nI_add, add_l, add_r, nI_mul, mul_l, mul_r, sub_n, sub_r, div_r, ite_some, if_true, if_false, and_self, and_true, true_and, false_and, and_false, Nat.reduceAdd, Nat.reduceMul, not_false_iff, not_true, f_Arr_fill_L5, ui_ur, e]
  · intro rec
    simp (disch := omega) only [↓bn_eq, ↓jn_eq, ↓reduceIte, gd_t, bd_some, bn_eq, jn_eq, bi_some, if_pos, if_neg, i10, nI_lt_i, nI_le_i, nI_eq_i, ll_le, ll_lt, ll_eq, lr_le, lr_lt, lr_eq, ix_n, nI_clamp, nI_add, add_l, add_r, nI_mul, mul_l, mul_r, sub_n, sub_r, div_r, ite_some, if_true, if_false, and_self, and_true, true_and, false_and, and_false, Nat.reduceAdd, Nat.reduceMul, not_false_iff, not_true, f_Arr_fill_L5]
/-! the parts of odds -/
section Odds
variable {c up un : Nat → Nat}
/-- what goes from w to t: cold of Q w to up w, the rest to un w -/
def ctr (Q : Nat → Nat) (ch : Nat) (up un : Nat → Nat) (w t : Nat) : Nat := (if up w = t then Q w * ch / 100 else 0) + (if un w = t then Q w - Q w * ch / 100 else 0)
def nxq (ch : Nat) (up un : Nat → Nat) (Q : Nat → Nat) (t : Nat) : Nat := sig (fun w => ctr Q ch up un w t) 100
theorem cold_le {q ch : Nat} (h : ch ≤ 100) : q * ch / 100 ≤ q := by
  have : q * ch ≤ q * 100 := Nat.mul_le_mul_left q h
  omega
theorem nxq_sum {ch : Nat} {up un Q : Nat → Nat} (hch : ch ≤ 100) (h1 : ∀ w, up w ≤ 99) (h2 : ∀ w, un w ≤ 99) : sig (nxq ch up un Q) 100 = sig Q 100 := by
  have : sig (nxq ch up un Q) 100 = sig (fun w => sig (fun t => ctr Q ch up un w t) 100) 100 := sig_swap
  rw [this]
  refine sig_eq (fun w _ => ?_)
  have e : sig (fun t => ctr Q ch up un w t) 100 = sig (fun t => if up w = t then Q w * ch / 100 else 0) 100 + sig (fun t => if un w = t then Q w - Q w * ch / 100 else 0) 100 := sig_add
  rw [e, sig_ite (by have := h1 w; omega), sig_ite (by have := h2 w; omega)]
  have := cold_le (q := Q w) hch
  omega
end Odds
