/-! two heaps: the class's cells of one, the model's of the other; what a call leaves as it was; the invariant -/
def mg (a b : mu_H) : mu_H := (fun c => if c < 51 then a.1 c else b.1 c, a.2)
theorem mg_c {a b : mu_H} {c : Nat} (h : c < 51) : (mg a b).1 c = a.1 c := if_pos h
theorem mg_m {a b : mu_H} {c : Nat} (h : ¬ c < 51) : (mg a b).1 c = b.1 c := if_neg h
theorem mg_self (h : mu_H) : mg h h = h := by
  have : (mg h h).1 = h.1 := by
    funext c
    by_cases e : c < 51
    · exact mg_c e
    · exact mg_m e
  exact Prod.ext this rfl
def sc (A : List Nat) (h h' : mu_H) : Prop := ∀ c, c ∉ A → h'.1 c = h.1 c
def sM (A K : List Nat) (h h' : mu_H) : Prop := (∀ c, c ∉ A → c ≠ 51 → h'.1 c = h.1 c) ∧ ∀ k, k ∉ K → h'.1 51 k = h.1 51 k
theorem sc_refl {A : List Nat} {h : mu_H} : sc A h h := fun _ _ => rfl
theorem sc_trans {A : List Nat} {h h' h'' : mu_H} (a : sc A h h') (b : sc A h' h'') : sc A h h'' := fun c hc => (b c hc).trans (a c hc)
theorem sc_mono {A B : List Nat} {h h' : mu_H} (a : sc A h h') (hs : ∀ c ∈ A, c ∈ B) : sc B h h' := fun c hc => a c (fun q => hc (hs c q))
theorem sc_ur {A : List Nat} {h : mu_H} {a : Nat} {f : Nat → Int32} (ha : a ∈ A) : sc A h (ur h a f) := fun c hc => ur_n (fun q => hc (q ▸ ha))
theorem sc_ui {A : List Nat} {h : mu_H} {a k : Nat} {x : Int32} (ha : a ∈ A) : sc A h (ui h a k x) := sc_ur ha
theorem sc_ul {A : List Nat} {h : mu_H} {a k : Nat} {x : Int64} : sc A h (ul h a k x) := fun _ _ => rfl
theorem sM_refl {A K : List Nat} {h : mu_H} : sM A K h h := ⟨fun _ _ _ => rfl, fun _ _ => rfl⟩
theorem sM_trans {A K : List Nat} {h h' h'' : mu_H} (a : sM A K h h') (b : sM A K h' h'') : sM A K h h'' := ⟨fun c hc h5 => (b.1 c hc h5).trans (a.1 c hc h5), fun k hk => (b.2 k hk).trans (a.2 k hk)⟩
theorem sM_mono {A B K K' : List Nat} {h h' : mu_H} (a : sM A K h h') (hs : ∀ c ∈ A, c ∈ B) (hk : ∀ c ∈ K, c ∈ K') : sM B K' h h' := ⟨fun c hc => a.1 c (fun q => hc (hs c q)), fun c hc => a.2 c (fun q => hc (hk c q))⟩
theorem sM_ur {A K : List Nat} {h : mu_H} {a : Nat} {f : Nat → Int32} (ha : a ∈ A) (h5 : a ≠ 51) : sM A K h (ur h a f) := ⟨fun c hc _ => ur_n (fun q => hc (q ▸ ha)), fun k _ => by rw [ur_n (Ne.symm h5)]⟩
theorem sM_ui {A K : List Nat} {h : mu_H} {a k : Nat} {x : Int32} (ha : a ∈ A) (h5 : a ≠ 51) : sM A K h (ui h a k x) := sM_ur ha h5
theorem sM_u5 {A K : List Nat} {h : mu_H} {k : Nat} {x : Int32} (hk : k ∈ K) : sM A K h (ui h 51 k x) := ⟨fun c _ h5 => ui_n h5, fun j hj => by rw [ui_s]; exact upd_n (fun q : j = k => hj (by rw [q]; exact hk))⟩
theorem sM_ul {A K : List Nat} {h : mu_H} {a k : Nat} {x : Int64} : sM A K h (ul h a k x) := ⟨fun _ _ _ => rfl, fun _ _ => rfl⟩
theorem mg_same {A B K : List Nat} {a a' b b' : mu_H} (h1 : sc A a a') (h2 : sM B K b b') : sM (A ++ B) K (mg a b) (mg a' b') := by
  refine ⟨fun c hc h5 => ?_, fun k hk => ?_⟩
  · have hA : c ∉ A := fun q => hc (List.mem_append_left B q)
    have hB : c ∉ B := fun q => hc (List.mem_append_right A q)
    by_cases e : c < 51
    · rw [mg_c e, mg_c e, h1 c hA]
    · rw [mg_m e, mg_m e, h2.1 c hB h5]
  · rw [mg_m (by decide), mg_m (by decide), h2.2 k hk]
/-- the pieces of the invariant hold on where their cells stay -/
theorem Ipar_fr {A K : List Nat} {h h' : mu_H} {s u : Nat} (e : sM A K h h') (hA : ∀ x ∈ [3, 4, 5, 65, 66, 67, 70], x ∉ A) (hK : ∀ x ∈ [25, 26], x ∉ K) (hp : Ipar h s u) : Ipar h' s u := by
  simp only [Ipar, e.1 3 (hA 3 (by decide)) (by decide), e.1 4 (hA 4 (by decide)) (by decide), e.1 5 (hA 5 (by decide)) (by decide), e.1 65 (hA 65 (by decide)) (by decide), e.1 66 (hA 66 (by decide)) (by decide), e.1 67 (hA 67 (by decide)) (by decide), e.1 70 (hA 70 (by decide)) (by decide), e.2 25 (hK 25 (by decide)), e.2 26 (hK 26 (by decide))]
  exact hp
theorem Isee_fr {A K : List Nat} {h h' : mu_H} {n : Nat} (e : sM A K h h') (hA : ∀ x ∈ [39, 40, 41, 73, 74], x ∉ A) (hK : 40 ∉ K) (hp : Isee h n) : Isee h' n := by
  simp only [Isee, e.1 39 (hA 39 (by decide)) (by decide), e.1 40 (hA 40 (by decide)) (by decide), e.1 41 (hA 41 (by decide)) (by decide), e.1 73 (hA 73 (by decide)) (by decide), e.1 74 (hA 74 (by decide)) (by decide), e.2 40 hK]
  exact hp
def Iimg (h : mu_H) (s u : Nat) : Prop := h.1 0 6 = h.1 51 45 ∧ (h.1 0 6 = 0 ∨ (h.1 0 6 = 1 ∧ Ist s u (h.1 18) (h.1 19) (h.1 78)))
theorem Iimg_fr {A K : List Nat} {h h' : mu_H} {s u : Nat} (e : sM A K h h') (hA : ∀ x ∈ [0, 18, 19, 78], x ∉ A) (hK : 45 ∉ K) (hp : Iimg h s u) : Iimg h' s u := by
  simp only [Iimg, e.1 0 (hA 0 (by decide)) (by decide), e.1 18 (hA 18 (by decide)) (by decide), e.1 19 (hA 19 (by decide)) (by decide), e.1 78 (hA 78 (by decide)) (by decide), e.2 45 hK]
  exact hp
/-- the state of now -/
def Inow (h : mu_H) (s u : Nat) : Prop := Ist s u (h.1 15) (h.1 16) (h.1 68)
theorem Inow_fr {A K : List Nat} {h h' : mu_H} {s u : Nat} (e : sM A K h h') (hA : ∀ x ∈ [15, 16, 68], x ∉ A) (hp : Inow h s u) : Inow h' s u := by
  simp only [Inow, e.1 15 (hA 15 (by decide)) (by decide), e.1 16 (hA 16 (by decide)) (by decide), e.1 68 (hA 68 (by decide)) (by decide)]
  exact hp
/-- what was ahead of the latest acts: p of them, the next goes to place q; v e is how many seasons were logged e acts ago -/
def Ipst (s u p q : Nat) (v : Nat → Nat) (P L Q : Nat → Int32) : Prop := ∀ e, e < p → v (e + 1) ≤ v e ∧ v e ≤ v (e + 1) + 1 ∧ P (34 * ((q + 39 - e) % 40) + 33) = nI (v (e + 1)) ∧ Ist s u (fun k => P (34 * ((q + 39 - e) % 40) + k)) L (fun k => Q (214 * (p - 1 - e) + k))
def Ipas (h : mu_H) (s u : Nat) : Prop := ∃ p q v, p ≤ 40 ∧ q < 40 ∧ h.1 20 1 = nI p ∧ h.1 51 32 = nI p ∧ h.1 20 2 = nI q ∧ h.1 15 33 = nI (v 0) ∧ v 0 ≤ 3999 ∧ Ipst s u p q v (h.1 21) (h.1 16) (h.1 71)
theorem Ipas_fr {A K : List Nat} {h h' : mu_H} {s u : Nat} (e : sM A K h h') (hA : ∀ x ∈ [20, 15, 21, 16, 71], x ∉ A) (hK : 32 ∉ K) (hp : Ipas h s u) : Ipas h' s u := by
  simp only [Ipas, e.1 20 (hA 20 (by decide)) (by decide), e.1 15 (hA 15 (by decide)) (by decide), e.1 21 (hA 21 (by decide)) (by decide), e.1 16 (hA 16 (by decide)) (by decide), e.1 71 (hA 71 (by decide)) (by decide), e.2 32 hK]
  exact hp
/-- the tape -/
def Itap (h : mu_H) : Prop := ∃ n, n ≤ 240 ∧ h.1 1 1 = nI n ∧ h.1 51 2 = nI n ∧ ∀ i, i < n → h.1 2 i &&& 255 = h.1 52 i ∧ ∃ k, k ≤ 255 ∧ k ≠ 0 ∧ h.1 52 i = nI k ∧ (k = 32 → h.1 2 i = 32)
theorem Itap_fr {A K : List Nat} {h h' : mu_H} (e : sM A K h h') (hA : ∀ x ∈ [1, 2, 52], x ∉ A) (hK : 2 ∉ K) (hp : Itap h) : Itap h' := by
  simp only [Itap, e.1 1 (hA 1 (by decide)) (by decide), e.1 2 (hA 2 (by decide)) (by decide), e.1 52 (hA 52 (by decide)) (by decide), e.2 2 hK]
  exact hp
/-- what was refused -/
def Iref (h : mu_H) : Prop := ∀ k, k < 5 → h.1 50 k = h.1 69 k
theorem Iref_fr {A K : List Nat} {h h' : mu_H} (e : sM A K h h') (hA : ∀ x ∈ [50, 69], x ∉ A) (hp : Iref h) : Iref h' := by
  simp only [Iref, e.1 50 (hA 50 (by decide)) (by decide), e.1 69 (hA 69 (by decide)) (by decide)]
  exact hp
/-! a law as rows of small tokens: 0 a number, 1 a letter, 2 + 3 - 4 * 5 / 6 = 7 < 8 > 9 ! 10 & 11 | -/
abbrev Tok : Type := Nat × Nat
abbrev Cla : Type := List Tok × List Tok
def sgI (c : Nat) : Int32 := if c = 2 then 43 else if c = 3 then 45 else if c = 4 then 42 else if c = 5 then 47 else if c = 6 then 61 else if c = 7 then 60 else if c = 8 then 62 else if c = 9 then 33 else if c = 10 then 38 else 124
def clT (t : Tok) : Int32 := if t.1 = 0 then nI t.2 else if t.1 = 1 then -1 - nI t.2 else -(sgI t.1)
def op2 (c : Nat) (a b : Int32) : Option Int32 := if f_Law_joined 0 h_0 (sgI c) a b = f_Mod_worked 0 h_0 (nI c) a.toInt64 b.toInt64 then f_Law_joined 0 h_0 (sgI c) a b else none
def ev1 (L : Nat → Int32) (t : Tok) (st : List Int32) : Option (List Int32) :=
  if t.1 = 0 then (if st.length < 32 then some (nI t.2 :: st) else none)
  else if t.1 = 1 then (if st.length < 32 then some (L t.2 :: st) else none)
  else if t.1 = 9 then (match st with
    | a :: r => some ((1 - a) :: r)
    | [] => none)
  else (match st with
    | b :: a :: r => (op2 t.1 a b).bind fun x => some (x :: r)
    | _ => none)
def evs (L : Nat → Int32) : List Tok → List Int32 → Option (List Int32)
  | [], st => some st
  | t :: ts, st => (ev1 L t st).bind (evs L ts)
def isN (x : Int32) : Prop := -1000000 ≤ x.toInt ∧ x.toInt ≤ 1000000
def isB (x : Int32) : Prop := x = 0 ∨ x = 1
/-- a row that leaves one number more, at most k high -/
def Gd (k : Nat) (ts : List Tok) (P : Int32 → Prop) : Prop := ∀ L : Nat → Int32, (∀ i, i < 6 → isN (L i)) → ∀ st : List Int32, st.length + k ≤ 32 → ∃ v, P v ∧ evs L ts st = some (v :: st)
def okT (t : Tok) : Prop := t.1 < 12 ∧ (t.1 = 0 → t.2 ≤ 9999) ∧ (t.1 = 1 → t.2 < 6)
def okC (c : Cla) : Prop := (c.1 = [] ∨ Gd 18 c.1 isB) ∧ Gd 15 c.2 isN ∧ ∀ t ∈ c.1 ++ c.2, okT t
def ofC (p : Nat) (c : Cla) : List Int32 := if c.1 = [] then c.2.map clT ++ [-59] else c.1.map clT ++ [-1000 - nI (p + c.1.length + c.2.length + 2)] ++ c.2.map clT ++ [-59]
def lay (p : Nat) : List Cla → List Int32
  | [] => []
  | c :: r => ofC p c ++ lay (p + (ofC p c).length) r
def At (C : Nat → Int32) (p : Nat) (l : List Int32) : Prop := ∀ i, i < l.length → C (p + i) = l.getD i 0
def toks (C V : Nat → Int32) (b : Nat) (l : List Tok) : Prop := ∀ j, j < l.length → C (b + j) = nI (l.getD j (0, 0)).1 ∧ V (b + j) = nI (l.getD j (0, 0)).2
def mlay (n : Nat) (C V TF SF ST : Nat → Int32) : Nat → Nat → List Cla → Prop
  | _, _, [] => True
  | q, i, c :: r => TF (140 * n + i) = nI q ∧ SF (140 * n + i) = nI (q + c.1.length) ∧ ST (140 * n + i) = nI (q + c.1.length + c.2.length) ∧ toks C V (520 * n + q) (c.1 ++ c.2) ∧ mlay n C V TF SF ST (q + c.1.length + c.2.length) (i + 1) r
def LawR (len : Int32) (C : Nat → Int32) (n : Nat) (cl : Int32) (CM VM TF SF ST : Nat → Int32) : Prop := ∃ cs : List Cla, len = nI (lay 0 cs).length ∧ (lay 0 cs).length ≤ 240 ∧ At C 0 (lay 0 cs) ∧ cl = nI cs.length ∧ mlay n CM VM TF SF ST 0 0 cs ∧ ∀ c ∈ cs, okC c
def Ilaw (h : mu_H) : Prop := ∃ l, l ≤ 4 ∧ h.1 22 4 = nI l ∧ h.1 51 13 = nI l ∧ h.1 22 5 = h.1 51 29 ∧ (h.1 22 5 = -1 ∨ ∃ j, j < l ∧ h.1 22 5 = nI j) ∧
  (0 < l → LawR (h.1 24 2) (h.1 25) 0 (h.1 56 0) (h.1 53) (h.1 54) (h.1 57) (h.1 58) (h.1 59)) ∧
  (1 < l → LawR (h.1 27 2) (h.1 28) 1 (h.1 56 1) (h.1 53) (h.1 54) (h.1 57) (h.1 58) (h.1 59)) ∧
  (2 < l → LawR (h.1 30 2) (h.1 31) 2 (h.1 56 2) (h.1 53) (h.1 54) (h.1 57) (h.1 58) (h.1 59)) ∧
  (3 < l → LawR (h.1 33 2) (h.1 34) 3 (h.1 56 3) (h.1 53) (h.1 54) (h.1 57) (h.1 58) (h.1 59))
theorem Ilaw_fr {A K : List Nat} {h h' : mu_H} (e : sM A K h h') (hA : ∀ x ∈ [22, 24, 25, 27, 28, 30, 31, 33, 34, 53, 54, 56, 57, 58, 59], x ∉ A) (hK : ∀ x ∈ [13, 29], x ∉ K) (hp : Ilaw h) : Ilaw h' := by
  simp only [Ilaw, e.1 22 (hA 22 (by decide)) (by decide), e.1 24 (hA 24 (by decide)) (by decide), e.1 25 (hA 25 (by decide)) (by decide), e.1 27 (hA 27 (by decide)) (by decide), e.1 28 (hA 28 (by decide)) (by decide), e.1 30 (hA 30 (by decide)) (by decide), e.1 31 (hA 31 (by decide)) (by decide), e.1 33 (hA 33 (by decide)) (by decide), e.1 34 (hA 34 (by decide)) (by decide), e.1 53 (hA 53 (by decide)) (by decide), e.1 54 (hA 54 (by decide)) (by decide), e.1 56 (hA 56 (by decide)) (by decide), e.1 57 (hA 57 (by decide)) (by decide), e.1 58 (hA 58 (by decide)) (by decide), e.1 59 (hA 59 (by decide)) (by decide), e.2 13 (hK 13 (by decide)), e.2 29 (hK 29 (by decide))]
  exact hp
/-- the invariant -/
def Inv (h : mu_H) : Prop := ∃ s u, Ipar h s u ∧ (∃ n, Isee h n) ∧ Inow h s u ∧ Iimg h s u ∧ Ipas h s u ∧ Itap h ∧ Ilaw h ∧ Iref h
theorem Inv_fst {h h' : mu_H} (e : h'.1 = h.1) (hI : Inv h) : Inv h' := by
  simp only [Inv, Ipar, Isee, Inow, Iimg, Ipas, Itap, Ilaw, Iref, e]
  exact hI
/-- both calls one after the other, out of both on two heaps -/
theorem two {FO FM : mu_H → Option (Int32 × mu_H)} (H : ∀ hc hm, Inv (mg hc hm) → ∃ r hc' hm', FO hc = some (r, hc') ∧ FM hm = some (r, hm') ∧ (∀ c, 51 ≤ c → hc'.1 c = hc.1 c) ∧ (∀ c, c < 51 → hm'.1 c = hm.1 c) ∧ Inv (mg hc' hm')) : ∀ h, Inv h → ∃ r h1 h2, FO h = some (r, h1) ∧ FM h1 = some (r, h2) ∧ Inv h2 := by
  intro h hI
  obtain ⟨r, h1, -, e1, -, k1, -, -⟩ := H h h (by rw [mg_self]; exact hI)
  have hI1 : Inv (mg h h1) := by
    refine Inv_fst ?_ hI
    funext c
    by_cases e : c < 51
    · exact mg_c e
    · rw [mg_m e]; exact k1 c (by omega)
  obtain ⟨r', h1', h2, e1', e2, -, k2, hJ⟩ := H h h1 hI1
  rw [e1] at e1'
  cases e1'
  refine ⟨r, h1, h2, e1, e2, Inv_fst ?_ hJ⟩
  funext c
  by_cases e : c < 51
  · rw [mg_c e]; exact k2 c e
  · rw [mg_m e]
/-- the frames of a call out of lists -/
theorem hi_of {A : List Nat} {h h' : mu_H} (e : sc A h h') (hA : ∀ a ∈ A, a < 51) : ∀ c, 51 ≤ c → h'.1 c = h.1 c := fun c hc => e c (fun q => by have := hA c q; omega)
theorem lo_of {A K : List Nat} {h h' : mu_H} (e : sM A K h h') (hA : ∀ a ∈ A, 51 ≤ a) : ∀ c, c < 51 → h'.1 c = h.1 c := fun c hc => e.1 c (fun q => by have := hA c q; omega) (by omega)
