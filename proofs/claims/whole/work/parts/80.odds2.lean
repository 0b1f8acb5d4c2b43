/-! odds: the model's loops, the call -/
theorem bn_n {α ρ : Type} {v : α} {f : α → Option ρ} : bn v f = f v := (rfl)
theorem gd_n {ρ : Type} {e : Option ρ} : gd true e = e := (rfl)
theorem bd_n {α ρ : Type} {x : α} {g : α → Option ρ} : (some x).bind g = g x := (rfl)
theorem url_n {h : mu_H} {a : Nat} {f : Nat → Int64} : (url h a f).1 = h.1 := (rfl)
section Odds
variable {N s u r ch : Nat} {hc hm : mu_H}
def cpl (f g : Nat → Int64) (n : Nat) : Nat → Int64 := fun k => if k < n then f k else g k
theorem cpl_0 {f g : Nat → Int64} : cpl f g 0 = g := by
  funext k
  simp [cpl]
theorem cpl_s {f g : Nat → Int64} {n : Nat} : vp_updL (cpl f g n) n (f n) = cpl f g (n + 1) := by
  funext k
  by_cases c : k = n
  · subst c; rw [updL_s, cpl, if_pos (by omega)]
  · rw [updL_n c, cpl, cpl]
    by_cases d : k < n
    · rw [if_pos d, if_pos (by omega)]
    · rw [if_neg d, if_neg (by omega)]
theorem od_33 {w0 : Nat} {A : Nat → Int64} (hN : 300 ≤ N) (hr : r < 9) (hw : w0 ≤ 99) (ew : hm.1 68 r = nI w0) (k : mu_H → Option (Int32 × mu_H)) : lp (f_Mod_odds_L33 (nI r) k) N (0, url hm 76 A) = k (url hm 76 (cpl (fun t => lI (if t = w0 then 1000000000 else 0)) A 100)) := by
  have key := lp_end (body := f_Mod_odds_L33 (nI r) k) (fun i => (nI i, url hm 76 (cpl (fun t => lI (if t = w0 then 1000000000 else 0)) A i))) 100 (v := k (url hm 76 (cpl (fun t => lI (if t = w0 then 1000000000 else 0)) A 100))) ?_ ?_ (f := N) (by omega)
  · simp only [cpl_0] at key
    exact key
  · intro i hi rec
    have e := cpl_s (f := fun t => lI (if t = w0 then 1000000000 else 0)) (g := A) (n := i)
    rw [← e]
    have h0r : 0 + nI r = nI r := add0 _
    by_cases c : i = w0
    · subst c
      rw [if_pos rfl, show lI 1000000000 = (1000000000 : Int64) from rfl]
      simp (disch := omega) only [↓bn_eq, ↓jn_eq, ↓reduceIte, gd_t, bd_some, bn_eq, jn_eq, bi_some, if_pos, if_neg, i10, nI_lt_i, nI_le_i, nI_eq_i, ll_le, ll_lt, ll_eq, lr_le, lr_lt, lr_eq, ix_n, nI_clamp, nI_add, add_l, add_r, nI_mul, mul_l, mul_r, sub_n, sub_r, div_r, ite_some, if_true, if_false, and_self, and_true, true_and, false_and, and_false, Nat.reduceAdd, Nat.reduceMul, not_false_iff, not_true, f_Mod_odds_L33, h0r, url_1, ew, ul_url]
    · rw [if_neg c, show lI 0 = (0 : Int64) from rfl]
      simp (disch := omega) only [↓bn_eq, ↓jn_eq, ↓reduceIte, gd_t, bd_some, bn_eq, jn_eq, bi_some, if_pos, if_neg, i10, nI_lt_i, nI_le_i, nI_eq_i, ll_le, ll_lt, ll_eq, lr_le, lr_lt, lr_eq, ix_n, nI_clamp, nI_add, add_l, add_r, nI_mul, mul_l, mul_r, sub_n, sub_r, div_r, ite_some, if_true, if_false, and_self, and_true, true_and, false_and, and_false, Nat.reduceAdd, Nat.reduceMul, not_false_iff, not_true, f_Mod_odds_L33, h0r, url_1, ew, ul_url]
  · intro rec
    simp (disch := omega) only [↓bn_eq, ↓jn_eq, ↓reduceIte, gd_t, bd_some, bn_eq, jn_eq, bi_some, if_pos, if_neg, i10, nI_lt_i, nI_le_i, nI_eq_i, ll_le, ll_lt, ll_eq, lr_le, lr_lt, lr_eq, ix_n, nI_clamp, nI_add, add_l, add_r, nI_mul, mul_l, mul_r, sub_n, sub_r, div_r, ite_some, if_true, if_false, and_self, and_true, true_and, false_and, and_false, Nat.reduceAdd, Nat.reduceMul, not_false_iff, not_true, f_Mod_odds_L33]
theorem od_85 {A T : Nat → Int64} (hN : 300 ≤ N) (k : mu_H → Option (Int32 × mu_H)) : lp (f_Mod_odds_L85 k) N (0, url (url hm 76 A) 77 T) = k (url (url hm 76 A) 77 (cpl (fun _ => 0) T 100)) := by
  have key := lp_end (body := f_Mod_odds_L85 k) (fun i => (nI i, url (url hm 76 A) 77 (cpl (fun _ => 0) T i))) 100 (v := k (url (url hm 76 A) 77 (cpl (fun _ => 0) T 100))) ?_ ?_ (f := N) (by omega)
  · simp only [cpl_0] at key
    exact key
  · intro i hi rec
    have e := cpl_s (f := fun _ => (0 : Int64)) (g := T) (n := i)
    rw [← e]
    simp (disch := omega) only [↓bn_eq, ↓jn_eq, ↓reduceIte, gd_t, bd_some, bn_eq, jn_eq, bi_some, if_pos, if_neg, i10, nI_lt_i, nI_le_i, nI_eq_i, ll_le, ll_lt, ll_eq, lr_le, lr_lt, lr_eq, ix_n, nI_clamp, nI_add, add_l, add_r, nI_mul, mul_l, mul_r, sub_n, sub_r, div_r, ite_some, if_true, if_false, and_self, and_true, true_and, false_and, and_false, Nat.reduceAdd, Nat.reduceMul, not_false_iff, not_true, f_Mod_odds_L85, ul_url]
  · intro rec
    simp (disch := omega) only [↓bn_eq, ↓jn_eq, ↓reduceIte, gd_t, bd_some, bn_eq, jn_eq, bi_some, if_pos, if_neg, i10, nI_lt_i, nI_le_i, nI_eq_i, ll_le, ll_lt, ll_eq, lr_le, lr_lt, lr_eq, ix_n, nI_clamp, nI_add, add_l, add_r, nI_mul, mul_l, mul_r, sub_n, sub_r, div_r, ite_some, if_true, if_false, and_self, and_true, true_and, false_and, and_false, Nat.reduceAdd, Nat.reduceMul, not_false_iff, not_true, f_Mod_odds_L85]
theorem od_211 {A T : Nat → Int64} (hN : 300 ≤ N) (k : mu_H → Option (Int32 × mu_H)) : lp (f_Mod_odds_L211 k) N (0, url (url hm 76 A) 77 T) = k (url (url hm 76 (cpl T A 100)) 77 T) := by
  have key := lp_end (body := f_Mod_odds_L211 k) (fun i => (nI i, url (url hm 76 (cpl T A i)) 77 T)) 100 (v := k (url (url hm 76 (cpl T A 100)) 77 T)) ?_ ?_ (f := N) (by omega)
  · simp only [cpl_0] at key
    exact key
  · intro i hi rec
    rw [← cpl_s]
    simp (disch := omega) only [↓bn_eq, ↓jn_eq, ↓reduceIte, gd_t, bd_some, bn_eq, jn_eq, bi_some, if_pos, if_neg, i10, nI_lt_i, nI_le_i, nI_eq_i, ll_le, ll_lt, ll_eq, lr_le, lr_lt, lr_eq, ix_n, nI_clamp, nI_add, add_l, add_r, nI_mul, mul_l, mul_r, sub_n, sub_r, div_r, ite_some, if_true, if_false, and_self, and_true, true_and, false_and, and_false, Nat.reduceAdd, Nat.reduceMul, not_false_iff, not_true, f_Mod_odds_L211, ul_78, url_g]
  · intro rec
    simp (disch := omega) only [↓bn_eq, ↓jn_eq, ↓reduceIte, gd_t, bd_some, bn_eq, jn_eq, bi_some, if_pos, if_neg, i10, nI_lt_i, nI_le_i, nI_eq_i, ll_le, ll_lt, ll_eq, lr_le, lr_lt, lr_eq, ix_n, nI_clamp, nI_add, add_l, add_r, nI_mul, mul_l, mul_r, sub_n, sub_r, div_r, ite_some, if_true, if_false, and_self, and_true, true_and, false_and, and_false, Nat.reduceAdd, Nat.reduceMul, not_false_iff, not_true, f_Mod_odds_L211]
theorem od_109 (hN : 300 ≤ N) (hp : Ipar (mg hc hm) s u) (hr : r < s) (hwe : bN (hc.1 15 (9 + r)) 9) (ewe : hm.1 68 (9 + r) = hc.1 15 (9 + r)) (hch : ch ≤ 100) {A Y : Nat → Int64} {Q : Nat → Nat} (hQ : ∀ t, Q t ≤ 1000000000) (k : mu_H → Option (Int32 × mu_H)) : lp (f_Mod_odds_L109 N (nI r) (nI ch) k) N (0, url (url hm 76 (LRw A Q)) 77 (LRw Y (fun _ => 0))) = k (url (url hm 76 (LRw A Q)) 77 (LRw Y (nxq ch (upf hc r) (unf hc r) Q))) := by
  have h9 := hp.1
  have key := lp_end (body := f_Mod_odds_L109 N (nI r) (nI ch) k) (fun i => (nI i, url (url hm 76 (LRw A Q)) 77 (LRw Y (fun t => sig (fun w => ctr Q ch (upf hc r) (unf hc r) w t) i)))) 100 (v := k (url (url hm 76 (LRw A Q)) 77 (LRw Y (fun t => sig (fun w => ctr Q ch (upf hc r) (unf hc r) w t) 100)))) ?_ ?_ (f := N) (by omega)
  · have e0 : (fun t => sig (fun w => ctr Q ch (upf hc r) (unf hc r) w t) 0) = fun _ => 0 := rfl
    have e1 : (fun t => sig (fun w => ctr Q ch (upf hc r) (unf hc r) w t) 100) = nxq ch (upf hc r) (unf hc r) Q := rfl
    rw [e0, e1] at key
    exact key
  · intro w hw rec
    obtain ⟨b1, b2, -⟩ := up_b (h := hc) (r := r) (w := w)
    have hqw := hQ w
    have hcold := cold_le (q := Q w) hch
    have hmul : Q w * ch ≤ Q w * 100 := Nat.mul_le_mul_left _ hch
    obtain ⟨fr, hfr, e1, e1m⟩ := P_rul (k := 1) hp (by omega) (by decide)
    obtain ⟨us, hus, e2⟩ := P_use hp hr
    obtain ⟨we, hwe9, ewv⟩ := hwe
    have hpX : ∀ B T : Nat → Int64, f_Mod_of N (url (url hm 76 B) 77 T) (nI r) 4 = some (nI us) := fun B T => by
      have := P_of4 (N := N) hp hr
      rw [e2] at this
      exact this
    have xA : LRw A Q w = lI (Q w) := by rw [LRw, if_pos hw]
    have x5 : lI (Q w) * (nI ch).toInt64 / 100 = lI (Q w * ch / 100) := by
      rw [nI_64 (by omega), lI_mul, show (100 : Int64) = lI 100 from rfl, lI_div (by omega) (by decide) (by decide)]
    have u1 : z_mmin 99 (nI w + nI us + nI fr + nI we) = nI (upf hc r w) := by
      rw [upf, wn, if_pos trivial, e2, tn_n (by omega), e1, tn_n (by omega), ewv, tn_n (by omega), nI_add, nI_add, nI_add, z_mmin]
      by_cases c : w + us + fr + we < 99
      · rw [if_pos (show nI (w + us + fr + we) < 99 from (nI_ltI (b := 99) (by omega) (by decide)).mpr c), Nat.min_eq_right (by omega)]
        exact congrArg nI (by omega)
      · rw [if_neg (show ¬ nI (w + us + fr + we) < 99 from fun q => c ((nI_ltI (b := 99) (by omega) (by decide)).mp q)), Nat.min_eq_left (by omega)]; rfl
    have u0 : z_mmin 99 (nI w + nI us) = nI (unf hc r w) := by
      rw [unf, wn, if_neg (fun q => q), e2, tn_n (by omega), nI_add, z_mmin]
      by_cases c : w + us < 99
      · rw [if_pos (show nI (w + us) < 99 from (nI_ltI (b := 99) (by omega) (by decide)).mpr c), Nat.min_eq_right (by omega)]
        exact congrArg nI (by omega)
      · rw [if_neg (show ¬ nI (w + us) < 99 from fun q => c ((nI_ltI (b := 99) (by omega) (by decide)).mp q)), Nat.min_eq_left (by omega)]; rfl
    have xs : lI (Q w) - lI (Q w * ch / 100) = lI (Q w - Q w * ch / 100) := lI_sub hcold
    obtain ⟨S, hS⟩ : ∃ S : Nat → Nat, S = fun t => sig (fun w => ctr Q ch (upf hc r) (unf hc r) w t) w := ⟨_, rfl⟩
    obtain ⟨S1, hS1⟩ : ∃ S1 : Nat → Nat, S1 = fun t => S t + if upf hc r w = t then Q w * ch / 100 else 0 := ⟨_, rfl⟩
    have g1 : vp_updL (LRw Y S) (upf hc r w) (LRw Y S (upf hc r w) + lI (Q w * ch / 100)) = LRw Y S1 := by
      refine lr_upd (fun ha => ?_) (by omega) (fun t _ hne => ?_)
      · rw [LRw, if_pos ha, lI_add, hS1]; simp
      · rw [hS1]; simp only; rw [if_neg (fun q => hne q.symm), Nat.add_zero]
    have g2 : vp_updL (LRw Y S1) (unf hc r w) (LRw Y S1 (unf hc r w) + lI (Q w - Q w * ch / 100)) = LRw Y (fun t => sig (fun w => ctr Q ch (upf hc r) (unf hc r) w t) (w + 1)) := by
      refine lr_upd (fun ha => ?_) (by omega) (fun t _ hne => ?_)
      · rw [LRw, if_pos ha, lI_add, sig_s, ctr, hS1, hS]; simp only [if_true]; rw [Nat.add_assoc]
      · rw [sig_s, ctr, hS1, hS]; simp only; rw [if_neg (show ¬ unf hc r w = t from fun q => hne q.symm), Nat.add_zero]
    rw [← g2, ← g1, ← hS]
    have i1 : ix 1 3 = true := rfl
    have z1 : (1 : Int32).toNatClampNeg = 1 := rfl
    have n0 : ¬ (99 : Int32) < nI w := nI_nlt (a := 99) (by omega) (by decide)
    have e9 : 9 + nI r = nI (9 + r) := nI_add 9 r
    have gA : ∀ T : Nat → Int64, (url (url hm 76 (LRw A Q)) 77 T).2 76 = LRw A Q := fun T => by rw [url_g, if_neg (by decide), url_g, if_pos rfl]
    have gT : ∀ T : Nat → Int64, (url (url hm 76 (LRw A Q)) 77 T).2 77 = T := fun T => by rw [url_g, if_pos rfl]
    simp only [f_Mod_odds_L109, if_neg n0, ix_nI (show w < 100 by omega) (by decide), gd_n, nI_clamp (show w < 2147483648 by omega), gA, gT, xA, ↓bn_n, x5, hpX, bd_n, i1, z1, e9, ix_nI (show 9 + r < 214 by omega) (by decide), nI_clamp (show 9 + r < 2147483648 by omega), url_n, e1m, ewe, ewv, u1, ix_nI (show upf hc r w < 100 by omega) (by decide), nI_clamp (show upf hc r w < 2147483648 by omega), ul_url, u0, ix_nI (show unf hc r w < 100 by omega) (by decide), nI_clamp (show unf hc r w < 2147483648 by omega), xs, nI_1]
  · intro rec
    simp only [f_Mod_odds_L109, if_pos (show (99 : Int32) < nI 100 by decide)]
theorem cpl_L {A : Nat → Int64} {Q : Nat → Nat} : cpl (fun t => lI (Q t)) A 100 = LRw A Q := rfl
/-- n seasons -/
def Qn (h : mu_H) (r ch w0 : Nat) : Nat → Nat → Nat
  | 0 => fun t => if t = w0 then 1000000000 else 0
  | n + 1 => nxq ch (upf h r) (unf h r) (Qn h r ch w0 n)
theorem Qn_sum {w0 : Nat} (hw : w0 ≤ 99) (hch : ch ≤ 100) : ∀ n, sig (Qn hc r ch w0 n) 100 = 1000000000 := by
  intro n
  induction n with
  | zero =>
    have e : sig (Qn hc r ch w0 0) 100 = sig (fun t => if w0 = t then 1000000000 else 0) 100 := sig_eq (fun t ht => by
      show (if t = w0 then _ else _) = _
      by_cases c : t = w0
      · rw [if_pos c, if_pos c.symm]
      · rw [if_neg c, if_neg (fun q => c q.symm)])
    rw [e, sig_ite (by omega)]
  | succ n ih => rw [Qn, nxq_sum hch (fun w => up_b.1) (fun w => up_b.2.1), ih]
theorem nxq_0 {Q : Nat → Nat} {t : Nat} (ht : ¬ t < 100) : nxq ch (upf hc r) (unf hc r) Q t = 0 := by
  refine sig_0 (fun w _ => ?_)
  have := up_b (h := hc) (r := r) (w := w)
  rw [ctr, if_neg (by omega), if_neg (by omega)]
theorem Qn_le {w0 : Nat} (hw : w0 ≤ 99) (hch : ch ≤ 100) (n t : Nat) : Qn hc r ch w0 n t ≤ 1000000000 := by
  by_cases c : t < 100
  · have h1 := sig_le (f := Qn hc r ch w0 n) c
    rw [Qn_sum hw hch n] at h1
    exact h1
  · cases n with
    | zero => show (if t = w0 then _ else _) ≤ _; split <;> omega
    | succ n => rw [Qn, nxq_0 c]; omega
end Odds
