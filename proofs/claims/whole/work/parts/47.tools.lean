/-! rows for simp over small numbers -/
theorem ll_le {m b : Nat} (hm : (OfNat.ofNat m : Nat) < 2147483648) (hb : b < 2147483648) : ((no_index (OfNat.ofNat m : Int32)) ≤ nI b) = ((OfNat.ofNat m : Nat) ≤ b) := nI_le_i hm hb
theorem ll_lt {m b : Nat} (hm : (OfNat.ofNat m : Nat) < 2147483648) (hb : b < 2147483648) : ((no_index (OfNat.ofNat m : Int32)) < nI b) = ((OfNat.ofNat m : Nat) < b) := nI_lt_i hm hb
theorem ll_eq {m b : Nat} (hm : (OfNat.ofNat m : Nat) < 2147483648) (hb : b < 2147483648) : ((no_index (OfNat.ofNat m : Int32)) = nI b) = ((OfNat.ofNat m : Nat) = b) := nI_eq_i hm hb
theorem lr_le {m b : Nat} (hm : (OfNat.ofNat m : Nat) < 2147483648) (hb : b < 2147483648) : (nI b ≤ (no_index (OfNat.ofNat m : Int32))) = (b ≤ (OfNat.ofNat m : Nat)) := nI_le_i hb hm
theorem lr_lt {m b : Nat} (hm : (OfNat.ofNat m : Nat) < 2147483648) (hb : b < 2147483648) : (nI b < (no_index (OfNat.ofNat m : Int32))) = (b < (OfNat.ofNat m : Nat)) := nI_lt_i hb hm
theorem lr_eq {m b : Nat} (hm : (OfNat.ofNat m : Nat) < 2147483648) (hb : b < 2147483648) : (nI b = (no_index (OfNat.ofNat m : Int32))) = (b = (OfNat.ofNat m : Nat)) := nI_eq_i hb hm
theorem ix_n {n N : Nat} (h : n < N) (hN : N < 2147483648) : ix (nI n) N = true := ix_nI h hN
theorem add_l {m b : Nat} : (no_index (OfNat.ofNat m : Int32)) + nI b = nI ((OfNat.ofNat m : Nat) + b) := nI_add m b
theorem add_r {m b : Nat} : nI b + (no_index (OfNat.ofNat m : Int32)) = nI (b + (OfNat.ofNat m : Nat)) := nI_add b m
theorem nI_mul {a b : Nat} : nI a * nI b = nI (a * b) := pk_mul a b
theorem mul_l {m b : Nat} : (no_index (OfNat.ofNat m : Int32)) * nI b = nI ((OfNat.ofNat m : Nat) * b) := pk_mul m b
theorem mul_r {m b : Nat} : nI b * (no_index (OfNat.ofNat m : Int32)) = nI (b * (OfNat.ofNat m : Nat)) := pk_mul b m
theorem sub_n {a b : Nat} (h : b ≤ a) (ha : a < 2147483648) : nI a - nI b = nI (a - b) := by
  rw [show a = (a - b) + b by omega, ← nI_add, show a - b + b - b = a - b by omega]
  exact Int32.add_sub_cancel _ _
theorem sub_r {a m : Nat} (h : (OfNat.ofNat m : Nat) ≤ a) (ha : a < 2147483648) : nI a - (no_index (OfNat.ofNat m : Int32)) = nI (a - (OfNat.ofNat m : Nat)) := sub_n h ha
theorem div_r {a m : Nat} (h : 0 < (OfNat.ofNat m : Nat)) (hm : (OfNat.ofNat m : Nat) < 2147483648) (ha : a < 2147483648) : nI a / (no_index (OfNat.ofNat m : Int32)) = nI (a / (OfNat.ofNat m : Nat)) := pk_div ha h hm
theorem ite_some {α : Type} {c : Prop} {d : Decidable c} {a b : α} : (@ite (Option α) c d (some a) (some b)) = some (@ite α c d a b) := by
  by_cases h : c <;> simp [h]
theorem neg1 {n : Nat} (h : n < 2147483648) : (nI n = -1) = False := by
  refine eq_false (fun q => ?_)
  have := congrArg Int32.toInt q
  rw [nI_toInt h] at this
  have e : (-1 : Int32).toInt = -1 := rfl
  omega
theorem neg1' {n : Nat} (h : n < 2147483648) : ((-1 : Int32) = nI n) = False := by
  rw [show ((-1 : Int32) = nI n) = (nI n = -1) from propext ⟨Eq.symm, Eq.symm⟩]
  exact neg1 h
