/-! what a day does, both -/
def HL (hc hm : mu_H) : Option (List Cla) → Prop
  | none => hc.1 22 5 = -1 ∧ hm.1 51 29 = -1
  | some cs => ∃ j, j < 4 ∧ hc.1 22 5 = nI j ∧ hm.1 51 29 = nI j ∧ hc.1 (24 + 3 * j) 2 = nI (lay 0 cs).length ∧ (lay 0 cs).length ≤ 240 ∧ At (hc.1 (24 + 3 * j + 1)) 0 (lay 0 cs) ∧ hm.1 56 j = nI cs.length ∧ mlay j (hm.1 53) (hm.1 54) (hm.1 57) (hm.1 58) (hm.1 59) 0 0 cs ∧ ∀ c ∈ cs, okC c
theorem HL_of {hc hm : mu_H} (h : Ilaw (mg hc hm)) : ∃ o, HL hc hm o := by
  obtain ⟨l, hl, k1, k2, k3, k4, l0, l1, l2, l3⟩ := h
  have k3 : hc.1 22 5 = hm.1 51 29 := k3
  rcases k4 with k4 | ⟨j, hj, k4⟩
  · have k4 : hc.1 22 5 = -1 := k4
    exact ⟨none, k4, k3.symm.trans k4⟩
  · have k4 : hc.1 22 5 = nI j := k4
    have k5 : hm.1 51 29 = nI j := k3.symm.trans k4
    rcases (show j = 0 ∨ j = 1 ∨ j = 2 ∨ j = 3 by omega) with rfl | rfl | rfl | rfl
    · obtain ⟨cs, a, b, c, d, e, f⟩ := l0 (by omega)
      exact ⟨some cs, 0, by decide, k4, k5, a, b, c, d, e, f⟩
    · obtain ⟨cs, a, b, c, d, e, f⟩ := l1 (by omega)
      exact ⟨some cs, 1, by decide, k4, k5, a, b, c, d, e, f⟩
    · obtain ⟨cs, a, b, c, d, e, f⟩ := l2 (by omega)
      exact ⟨some cs, 2, by decide, k4, k5, a, b, c, d, e, f⟩
    · obtain ⟨cs, a, b, c, d, e, f⟩ := l3 (by omega)
      exact ⟨some cs, 3, by decide, k4, k5, a, b, c, d, e, f⟩
theorem HL_fr {A B K : List Nat} {hc hm hc' hm' : mu_H} {o : Option (List Cla)} (e : sc A hc hc') (e2 : sM B K hm hm') (hA : ∀ j, j < 4 → 24 + 3 * j ∉ A ∧ 24 + 3 * j + 1 ∉ A) (hA2 : 22 ∉ A) (hB : ∀ x ∈ [53, 54, 56, 57, 58, 59], x ∉ B) (hK : 29 ∉ K) (h : HL hc hm o) : HL hc' hm' o := by
  cases o with
  | none => exact ⟨by rw [e 22 hA2]; exact h.1, by rw [e2.2 29 hK]; exact h.2⟩
  | some cs =>
    obtain ⟨j, hj, h1, h2, h3, h4, h5, h6, h7, h8⟩ := h
    refine ⟨j, hj, by rw [e 22 hA2]; exact h1, by rw [e2.2 29 hK]; exact h2, by rw [e _ (hA j hj).1]; exact h3, h4, by rw [e _ (hA j hj).2]; exact h5, ?_, ?_, h8⟩
    · rw [e2.1 56 (hB 56 (by decide)) (by decide)]; exact h6
    · rw [e2.1 53 (hB 53 (by decide)) (by decide), e2.1 54 (hB 54 (by decide)) (by decide), e2.1 57 (hB 57 (by decide)) (by decide), e2.1 58 (hB 58 (by decide)) (by decide), e2.1 59 (hB 59 (by decide)) (by decide)]; exact h7
def ct (h : mu_H) (a : Nat) : Nat := tn (h.1 4 (5 * (10 + a) + 1))
def zl (h : mu_H) (a : Nat) : Nat := tn (h.1 4 (5 * (10 + a) + 2))
def dst (h : mu_H) (a r : Nat) : Nat := match f_Par_stepsTo 0 h 3 (nI a) (nI r) with
  | some x => tn x
  | none => 0
def cme (h : mu_H) (a r : Nat) : Bool := decide (f_Par_stepsTo 0 h 3 (nI a) (nI r) ≠ some (-1))
theorem st_0 {N : Nat} {h : mu_H} {x y : Int32} : f_Par_stepsTo N h 3 x y = f_Par_stepsTo 0 h 3 x y := rfl
theorem far3 {hc hm : mu_H} {s u : Nat} (hp : Ipar (mg hc hm) s u) (N : Nat) {a r : Nat} (ha : a < u) (hr : r < s) : (cme hc a r = true ∧ dst hc a r < 8 ∧ f_Par_stepsTo N hc 3 (nI a) (nI r) = some (nI (dst hc a r)) ∧ f_Mod_haulOf N hm (nI a) (nI r) = some (nI (dst hc a r))) ∨ (cme hc a r = false ∧ f_Par_stepsTo N hc 3 (nI a) (nI r) = some (-1) ∧ f_Mod_haulOf N hm (nI a) (nI r) = some (nI 1000000)) := by
  rcases P_far hp N ha hr with ⟨d, hd, f1, f2⟩ | ⟨f1, f2⟩
  · refine Or.inl ?_
    have e : f_Par_stepsTo 0 hc 3 (nI a) (nI r) = some (nI d) := st_0.symm.trans f1
    have ed : dst hc a r = d := by rw [dst, e]; exact tn_n (by omega)
    rw [ed]
    refine ⟨?_, hd, f1, f2⟩
    rw [cme, e, decide_eq_true_eq]
    intro q
    have := Option.some.inj q
    rw [neg1 (by omega)] at this
    exact this
  · refine Or.inr ⟨?_, f1, f2⟩
    rw [cme, st_0.symm.trans f1]
    simp
theorem come_c {hc hm : mu_H} {s u : Nat} (hp : Ipar (mg hc hm) s u) (N : Nat) {a r : Nat} (ha : a < u) (hr : r < s) : f_Lab_canCome N hc (nI a) (nI r) = some (if cme hc a r = true then 1 else 0) ∧ f_Mod_comes N hm (nI a) (nI r) = some (if cme hc a r = true then 1 else 0) := by
  rcases far3 hp N ha hr with ⟨c, d, f1, f2⟩ | ⟨c, f1, f2⟩
  · have n1 : ¬ nI (dst hc a r) = -1 := fun q => by rw [neg1 (by omega)] at q; exact q
    have n2 : ¬ (1000000 : Int32) ≤ nI (dst hc a r) := nI_ge (b := 1000000) (by omega) (by decide)
    rw [comes_c f1, comes_m f2, c, if_neg n1, if_neg n2]
    exact ⟨rfl, rfl⟩
  · rw [comes_c f1, comes_m f2, c]
    exact ⟨rfl, rfl⟩
def ltr (h : mu_H) (a r w : Nat) : Nat → Int32 := fun i => if i = 0 then nI (ct h a) else if i = 1 then nI (zl h a) else if i = 2 then nI (dst h a r) else if i = 3 then nI w else if i = 4 then h.1 15 (9 + r) else nI (tn (h.1 15 31) % 4)
def cl99 (x : Int32) : Nat := if 0 ≤ x then (if x ≤ 99 then tn x else 99) else 0
def ownv (h : mu_H) (o : Option (List Cla)) (a r w : Nat) : Nat := cl99 (match o with
  | none => 2 * nI (ct h a) - nI (dst h a r)
  | some cs => lvs (ltr h a r w) cs)
def efv (h : mu_H) (o : Option (List Cla)) (a r k w : Nat) : Nat := if tn (h.1 15 31) % 4 = 3 then (if k = 2 then 8 else if k = 3 then 0 else ownv h o a r w / (k + 1)) / 2 else (if k = 2 then 8 else if k = 3 then 0 else ownv h o a r w / (k + 1))
theorem cl99_le (x : Int32) : cl99 x ≤ 99 := by
  rw [cl99]
  split
  · split
    · rename_i h1 h2
      obtain ⟨n, hn, rfl⟩ := nI_of (nlt_le.mpr h1)
      rw [tn_n hn]
      exact (nI_leI hn (show 99 < 2 ^ 31 by decide)).mp h2
    · omega
  · omega
theorem efv_le {h : mu_H} {o : Option (List Cla)} {a r k w : Nat} : efv h o a r k w ≤ 99 := by
  have h1 : ownv h o a r w / (k + 1) ≤ 99 := Nat.le_trans (Nat.div_le_self _ _) (cl99_le _)
  rw [efv]
  split
  · split
    · decide
    · split
      · decide
      · omega
  · split
    · decide
    · split
      · decide
      · omega
theorem cl99_c (x : Int32) {α : Type} (h : α) : (if 0 ≤ x then (if x ≤ 99 then some (x, h) else some (99, h)) else some (0, h)) = some (nI (cl99 x), h) := by
  rw [cl99]
  by_cases c1 : 0 ≤ x
  · by_cases c2 : x ≤ 99
    · rw [if_pos c1, if_pos c2, if_pos c1, if_pos c2]
      obtain ⟨n, hn, rfl⟩ := nI_of (nlt_le.mpr c1)
      rw [tn_n hn]
    · rw [if_pos c1, if_neg c2, if_pos c1, if_neg c2]; rfl
  · rw [if_neg c1, if_neg c1]; rfl
theorem cl99_m (x : Int32) : z_mmax 0 (z_mmin 99 x) = nI (cl99 x) := by
  rw [cl99, z_mmax, z_mmin]
  by_cases c2 : x < 99
  · rw [if_pos c2]
    have c3 : x ≤ 99 := by
      rw [Int32.le_iff_toInt_le]; rw [Int32.lt_iff_toInt_lt] at c2; omega
    rw [if_pos c3]
    by_cases c1 : 0 ≤ x
    · rw [if_pos c1]
      obtain ⟨n, hn, rfl⟩ := nI_of (nlt_le.mpr c1)
      rw [tn_n hn]
      by_cases c4 : 0 < nI n
      · rw [if_pos c4]
      · rw [if_neg c4]
        have : nI n = 0 := by
          rw [Int32.lt_iff_toInt_lt] at c4
          rw [Int32.le_iff_toInt_le] at c1
          have z : (0 : Int32).toInt = 0 := rfl
          exact Int32.toInt_inj.mp (by omega)
        exact this.symm
    · rw [if_neg c1, if_neg (fun q => c1 (by rw [Int32.le_iff_toInt_le]; rw [Int32.lt_iff_toInt_lt] at q; omega))]; rfl
  · rw [if_neg c2, if_pos (by decide)]
    have c1 : 0 ≤ x := by
      rw [Int32.le_iff_toInt_le]; rw [Int32.lt_iff_toInt_lt] at c2
      have z : (0 : Int32).toInt = 0 := rfl
      have z2 : (99 : Int32).toInt = 99 := rfl
      omega
    rw [if_pos c1]
    by_cases c3 : x ≤ 99
    · rw [if_pos c3]
      have : x = 99 := by
        rw [Int32.lt_iff_toInt_lt] at c2
        rw [Int32.le_iff_toInt_le] at c3
        exact Int32.toInt_inj.mp (by omega)
      rw [this]; rfl
    · rw [if_neg c3]; rfl
