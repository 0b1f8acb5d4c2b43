/-! bits of small numbers -/
set_option maxRecDepth 100000 in
set_option maxHeartbeats 4000000 in
theorem sr_dec : ∀ a : Fin 9, ∀ v : Fin 512, (nI v.val >>> (nI a.val &&& 31)) &&& 1 = nI (v.val / 2 ^ a.val % 2) := by decide
theorem sr_b {v a : Nat} (hv : v < 512) (ha : a < 9) : (nI v >>> (nI a &&& 31)) &&& 1 = nI (v / 2 ^ a % 2) := sr_dec ⟨a, ha⟩ ⟨v, hv⟩
theorem tb_dm (v a : Nat) : v.testBit a = decide (v / 2 ^ a % 2 = 1) := Nat.testBit_eq_decide_div_mod_eq
theorem sr_1 {v a : Nat} (hv : v < 512) (ha : a < 9) : ((nI v >>> (nI a &&& 31)) &&& 1 = 1) = (v.testBit a = true) := by
  rw [sr_b hv ha, tb_dm, show (1 : Int32) = nI 1 from rfl, nI_eq_i (by omega) (by omega), decide_eq_true_eq]
theorem sr_0 {v a : Nat} (hv : v < 512) (ha : a < 9) : ((nI v >>> (nI a &&& 31)) &&& 1 = 0) = ¬ (v.testBit a = true) := by
  rw [sr_b hv ha, tb_dm, show (0 : Int32) = nI 0 from rfl, nI_eq_i (by omega) (by omega), decide_eq_true_eq]
  exact propext ⟨fun h => by omega, fun h => by omega⟩
theorem sh_1 {a : Nat} (ha : a < 9) : (1 : Int32) <<< (nI a &&& 31) = nI (2 ^ a) := by
  have h : ∀ v : Fin 9, (1 : Int32) <<< (nI v.val &&& 31) = nI (2 ^ v.val) := by decide
  exact h ⟨a, ha⟩
theorem nI_or (a b : Nat) : nI a ||| nI b = nI (a ||| b) := by
  apply Int32.toBitVec_inj.mp
  show BitVec.ofNat 32 a ||| BitVec.ofNat 32 b = BitVec.ofNat 32 (a ||| b)
  exact (BitVec.ofNat_or).symm
theorem nI_and (a b : Nat) : nI a &&& nI b = nI (a &&& b) := by
  apply Int32.toBitVec_inj.mp
  show BitVec.ofNat 32 a &&& BitVec.ofNat 32 b = BitVec.ofNat 32 (a &&& b)
  exact (BitVec.ofNat_and).symm
/-- how many below n -/
def cnt (f : Nat → Bool) (n : Nat) : Nat := fold (fun p c => if f p = true then c + 1 else c) 0 n
theorem cnt_s (f : Nat → Bool) (n : Nat) : cnt f (n + 1) = if f n = true then cnt f n + 1 else cnt f n := rfl
theorem cnt_le (f : Nat → Bool) (n : Nat) : cnt f n ≤ n := by
  induction n with
  | zero => exact Nat.le_refl 0
  | succ n ih => rw [cnt_s]; split <;> omega
theorem cnt_mono {f g : Nat → Bool} (n : Nat) (h : ∀ p, p < n → f p = true → g p = true) : cnt f n ≤ cnt g n := by
  induction n with
  | zero => exact Nat.le_refl 0
  | succ n ih =>
    have := ih (fun p hp => h p (by omega))
    rw [cnt_s, cnt_s]
    by_cases c : f n = true
    · rw [if_pos c, if_pos (h n (by omega) c)]; omega
    · rw [if_neg c]; split <;> omega
theorem cnt_lt {f g : Nat → Bool} (n : Nat) (h : ∀ p, p < n → f p = true → g p = true) {q : Nat} (hq : q < n) (h1 : ¬ f q = true) (h2 : g q = true) : cnt f n < cnt g n := by
  induction n with
  | zero => omega
  | succ n ih =>
    have hm := cnt_mono n (fun p hp => h p (by omega))
    rw [cnt_s, cnt_s]
    by_cases c : q = n
    · subst c
      rw [if_neg h1, if_pos h2]; omega
    · have := ih (fun p hp => h p (by omega)) (by omega)
      by_cases d : f n = true
      · rw [if_pos d, if_pos (h n (by omega) d)]; omega
      · rw [if_neg d]; split <;> omega
theorem cnt_0 {f : Nat → Bool} (n : Nat) : cnt f n = 0 ↔ ∀ p, p < n → ¬ f p = true := by
  induction n with
  | zero => exact ⟨fun _ p hp => by omega, fun _ => rfl⟩
  | succ n ih =>
    rw [cnt_s]
    by_cases c : f n = true
    · rw [if_pos c]
      exact ⟨fun h => by omega, fun h => absurd c (h n (by omega))⟩
    · rw [if_neg c, ih]
      refine ⟨fun h p hp => ?_, fun h p hp => h p (by omega)⟩
      by_cases e : p = n
      · rw [e]; exact c
      · exact h p (by omega)
theorem cnt_eq {f g : Nat → Bool} (n : Nat) (h : ∀ p, p < n → f p = g p) : cnt f n = cnt g n := fold_eq (fun i hi x => by rw [h i hi])
/-- one step grows within n bits, so that n of them come to rest -/
theorem rest_it {F : Nat → Nat} {n : Nat} (hb : ∀ v, v < 2 ^ n → F v < 2 ^ n) (hg : ∀ v, v < 2 ^ n → ∀ p, v.testBit p = true → (F v).testBit p = true) {v : Nat} (hv : v < 2 ^ n) (k : Nat) (hk : n - cnt v.testBit n ≤ k) : Nat.repeat F (k + 1) v = Nat.repeat F k v := by
  have hr : ∀ k v, v < 2 ^ n → Nat.repeat F k v < 2 ^ n := by
    intro k
    induction k with
    | zero => intro v hv; exact hv
    | succ k ih => intro v hv; exact hb _ (ih v hv)
  have key : ∀ k v, v < 2 ^ n → (F (Nat.repeat F k v) = Nat.repeat F k v) ∨ cnt v.testBit n + k + 1 ≤ cnt (F (Nat.repeat F k v)).testBit n := by
    intro k
    induction k with
    | zero =>
      intro v hv
      by_cases c : F v = v
      · exact Or.inl c
      · refine Or.inr ?_
        have : ∃ p, v.testBit p ≠ (F v).testBit p := by
          refine Classical.byContradiction (fun q => c ?_)
          refine (Nat.eq_of_testBit_eq (fun i => ?_)).symm
          exact Decidable.byContradiction (fun q2 => q ⟨i, q2⟩)
        obtain ⟨p, hp⟩ := this
        have h1 : ¬ v.testBit p = true := fun q => hp (by rw [q, hg v hv p q])
        have h2 : (F v).testBit p = true := by
          cases e : (F v).testBit p with
          | true => rfl
          | false =>
            refine absurd ?_ hp
            rw [e]
            cases e2 : v.testBit p with
            | true => exact absurd e2 h1
            | false => rfl
        have hpn : p < n := by
          refine Decidable.byContradiction (fun q => ?_)
          rw [Nat.testBit_lt_two_pow (Nat.lt_of_lt_of_le (hb v hv) (Nat.pow_le_pow_right (by decide) (show n ≤ p by omega)))] at h2
          exact absurd h2 (by decide)
        have := cnt_lt n (fun p _ => hg v hv p) hpn h1 h2
        show cnt v.testBit n + 0 + 1 ≤ cnt (F v).testBit n
        omega
    | succ k ih =>
      intro v hv
      rcases ih v hv with h | h
      · refine Or.inl ?_
        show F (F (Nat.repeat F k v)) = F (Nat.repeat F k v)
        rw [h, h]
      · have hw : F (Nat.repeat F k v) < 2 ^ n := hb _ (hr k v hv)
        generalize hW : F (Nat.repeat F k v) = w at h hw
        show (F (F (Nat.repeat F k v)) = F (Nat.repeat F k v)) ∨ cnt v.testBit n + (k + 1) + 1 ≤ cnt (F (F (Nat.repeat F k v))).testBit n
        rw [hW]
        by_cases c : F w = w
        · exact Or.inl c
        · refine Or.inr ?_
          have : ∃ p, w.testBit p ≠ (F w).testBit p := by
            refine Classical.byContradiction (fun q => c ?_)
            refine (Nat.eq_of_testBit_eq (fun i => ?_)).symm
            exact Decidable.byContradiction (fun q2 => q ⟨i, q2⟩)
          obtain ⟨p, hp⟩ := this
          have h1 : ¬ w.testBit p = true := fun q => hp (by rw [q, hg w hw p q])
          have h2 : (F w).testBit p = true := by
            cases e : (F w).testBit p with
            | true => rfl
            | false =>
              refine absurd ?_ hp
              rw [e]
              cases e2 : w.testBit p with
              | true => exact absurd e2 h1
              | false => rfl
          have hpn : p < n := by
            refine Decidable.byContradiction (fun q => ?_)
            rw [Nat.testBit_lt_two_pow (Nat.lt_of_lt_of_le (hb w hw) (Nat.pow_le_pow_right (by decide) (show n ≤ p by omega)))] at h2
            exact absurd h2 (by decide)
          have := cnt_lt n (fun p _ => hg w hw p) hpn h1 h2
          omega
  rcases key k v hv with h | h
  · exact h
  · have := cnt_le (F (Nat.repeat F k v)).testBit n
    omega
