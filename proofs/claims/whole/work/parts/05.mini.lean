/-! THE SMALL MACHINE. The cells are fixed once the constructors are done: cell i lies at xa X i; what changes are ints (h.1 cell place) and longs (h.2 cell place). -/
abbrev mu_X : Type := Launch × va_G × (Nat → Nat) × (Nat → ClassId) × (Nat → Nat)
def xa (X : mu_X) (i : Nat) : Nat := X.2.2.1 i
def xc (X : mu_X) (i : Nat) : ClassId := X.2.2.2.1 i
def xs (X : mu_X) (i : Nat) : Nat := X.2.2.2.2 i
abbrev mu_H : Type := (Nat → Nat → Int32) × (Nat → Nat → Int64)
abbrev mu_M : Type := String × MethodName × ByteArray × Nat × Option FieldType
abbrev mu_Q : Type := List Frame → Array Value → State → State → Prop
def ty_l (X : mu_X) : List (ClassId × FieldType) := [(xc X 0, .int), (xc X 1, .byte), (xc X 2, .boolean), (xc X 3, .long), (xc X 4, .object "OwedDays$Law")]

/-- the cells, one behind the other: 80 of them; the model begins at 51 -/
def ce_l (X : mu_X) : List ((Nat → Int32) → (Nat → Int64) → va_E) := [
  fun f g => .inr (11, [.ref (xa X 1), .ref (xa X 3), .ref (xa X 6), .ref (xa X 10), .ref (xa X 14), .ref (xa X 17), .int (f 6), .ref (xa X 20), .ref (xa X 22), .ref (xa X 37), .ref (xa X 39), .ref (xa X 42), .ref (xa X 50)]),
  fun f g => .inr (10, [.ref (xa X 2), .int (f 1)]),
  fun f g => .inl (xc X 1, 240, .inl f),
  fun f g => .inr (4, [.ref (xa X 4), .ref (xa X 5), .int (f 2), .int (f 3)]),
  fun f g => .inl (xc X 0, 80, .inl f),
  fun f g => .inl (xc X 0, 64, .inl f),
  fun f g => .inr (5, [.ref (xa X 1), .ref (xa X 7), .int (f 2), .int (f 3)]),
  fun f g => .inr (4, [.ref (xa X 8), .ref (xa X 9), .int (f 2), .int (f 3)]),
  fun f g => .inl (xc X 0, 80, .inl f),
  fun f g => .inl (xc X 0, 64, .inl f),
  fun f g => .inr (2, [.ref (xa X 1), .ref (xa X 11), .int (f 2)]),
  fun f g => .inr (1, [.ref (xa X 12), .ref (xa X 13), .int (f 2)]),
  fun f g => .inl (xc X 0, 240, .inl f),
  fun f g => .inl (xc X 0, 32, .inl f),
  fun f g => .inr (9, [.ref (xa X 15), .ref (xa X 16)]),
  fun f g => .inl (xc X 0, 34, .inl f),
  fun f g => .inl (xc X 0, 300, .inl f),
  fun f g => .inr (9, [.ref (xa X 18), .ref (xa X 19)]),
  fun f g => .inl (xc X 0, 34, .inl f),
  fun f g => .inl (xc X 0, 300, .inl f),
  fun f g => .inr (6, [.ref (xa X 21), .int (f 1), .int (f 2)]),
  fun f g => .inl (xc X 0, 1360, .inl f),
  fun f g => .inr (0, [.ref (xa X 3), .ref (xa X 14), .ref (xa X 23), .ref (xa X 36), .int (f 4), .int (f 5), .long (g 6)]),
  fun f g => .inl (xc X 4, 4, .inr (.inr (.inr (.inr (fun j => some (xa X (24 + 3 * j))))))),
  fun f g => .inr (1, [.ref (xa X 25), .ref (xa X 26), .int (f 2)]),
  fun f g => .inl (xc X 0, 240, .inl f),
  fun f g => .inl (xc X 0, 32, .inl f),
  fun f g => .inr (1, [.ref (xa X 28), .ref (xa X 29), .int (f 2)]),
  fun f g => .inl (xc X 0, 240, .inl f),
  fun f g => .inl (xc X 0, 32, .inl f),
  fun f g => .inr (1, [.ref (xa X 31), .ref (xa X 32), .int (f 2)]),
  fun f g => .inl (xc X 0, 240, .inl f),
  fun f g => .inl (xc X 0, 32, .inl f),
  fun f g => .inr (1, [.ref (xa X 34), .ref (xa X 35), .int (f 2)]),
  fun f g => .inl (xc X 0, 240, .inl f),
  fun f g => .inl (xc X 0, 32, .inl f),
  fun f g => .inl (xc X 0, 6, .inl f),
  fun f g => .inr (7, [.ref (xa X 3), .ref (xa X 14), .ref (xa X 38)]),
  fun f g => .inl (xc X 0, 8, .inl f),
  fun f g => .inr (8, [.ref (xa X 3), .ref (xa X 40), .ref (xa X 41), .int (f 3)]),
  fun f g => .inl (xc X 0, 10, .inl f),
  fun f g => .inl (xc X 2, 10, .inl f),
  fun f g => .inr (3, [.ref (xa X 3), .ref (xa X 14), .ref (xa X 22), .ref (xa X 43), .ref (xa X 44), .ref (xa X 45), .ref (xa X 46), .ref (xa X 47), .ref (xa X 48), .ref (xa X 49)]),
  fun f g => .inl (xc X 0, 6, .inl f),
  fun f g => .inl (xc X 0, 600, .inl f),
  fun f g => .inl (xc X 0, 100, .inl f),
  fun f g => .inl (xc X 0, 700, .inl f),
  fun f g => .inl (xc X 0, 100, .inl f),
  fun f g => .inl (xc X 0, 4, .inl f),
  fun f g => .inl (xc X 0, 4, .inl f),
  fun f g => .inl (xc X 0, 5, .inl f),
  fun f g => .inr (12, [.int (f 0), .ref (xa X 52), .int (f 2), .int (f 3), .int (f 4), .int (f 5), .ref (xa X 53), .ref (xa X 54), .ref (xa X 55), .ref (xa X 56), .ref (xa X 57), .ref (xa X 58), .ref (xa X 59), .int (f 13), .int (f 14), .ref (xa X 60), .ref (xa X 61), .ref (xa X 62), .ref (xa X 63), .ref (xa X 64), .int (f 20), .int (f 21), .ref (xa X 65), .ref (xa X 66), .ref (xa X 67), .int (f 25), .int (f 26), .ref (xa X 68), .ref (xa X 69), .int (f 29), .ref (xa X 70), .ref (xa X 71), .int (f 32), .long (g 33), .ref (xa X 72), .int (f 35), .int (f 36), .int (f 37), .ref (xa X 73), .ref (xa X 74), .int (f 40), .ref (xa X 75), .ref (xa X 76), .ref (xa X 77), .ref (xa X 78), .int (f 45)]),
  fun f g => .inl (xc X 0, 240, .inl f),
  fun f g => .inl (xc X 0, 2600, .inl f),
  fun f g => .inl (xc X 0, 2600, .inl f),
  fun f g => .inl (xc X 0, 5, .inl f),
  fun f g => .inl (xc X 0, 5, .inl f),
  fun f g => .inl (xc X 0, 700, .inl f),
  fun f g => .inl (xc X 0, 700, .inl f),
  fun f g => .inl (xc X 0, 700, .inl f),
  fun f g => .inl (xc X 0, 6, .inl f),
  fun f g => .inl (xc X 0, 80, .inl f),
  fun f g => .inl (xc X 0, 3, .inl f),
  fun f g => .inl (xc X 0, 45, .inl f),
  fun f g => .inl (xc X 0, 18, .inl f),
  fun f g => .inl (xc X 0, 3, .inl f),
  fun f g => .inl (xc X 0, 45, .inl f),
  fun f g => .inl (xc X 0, 18, .inl f),
  fun f g => .inl (xc X 0, 214, .inl f),
  fun f g => .inl (xc X 0, 5, .inl f),
  fun f g => .inl (xc X 0, 64, .inl f),
  fun f g => .inl (xc X 0, 8560, .inl f),
  fun f g => .inl (xc X 0, 6, .inl f),
  fun f g => .inl (xc X 0, 10, .inl f),
  fun f g => .inl (xc X 2, 10, .inl f),
  fun f g => .inl (xc X 0, 9, .inl f),
  fun f g => .inl (xc X 3, 100, .inr (.inl g)),
  fun f g => .inl (xc X 3, 100, .inr (.inl g)),
  fun f g => .inl (xc X 0, 214, .inl f),
  fun f g => .inl (xc X 3, 1, .inr (.inl g))]
def ce (X : mu_X) (i : Nat) (f : Nat → Int32) (g : Nat → Int64) : va_E := ((ce_l X).getD i (fun f g => .inl (xc X 0, 0, .inl f))) f g
abbrev nn : Nat := 80
def wo (X : mu_X) (h : mu_H) : va_W := (List.range nn).map (fun i => (xa X i, ce X i (h.1 i) (h.2 i)))
def ur (h : mu_H) (a : Nat) (f : Nat → Int32) : mu_H := (fun i => if i = a then f else h.1 i, h.2)
def ui (h : mu_H) (a k : Nat) (x : Int32) : mu_H := ur h a (upd (h.1 a) k x)
def ul (h : mu_H) (a k : Nat) (x : Int64) : mu_H := (h.1, fun i => if i = a then vp_updL (h.2 a) k x else h.2 i)
theorem wo_get {X : mu_X} {h : mu_H} {i : Nat} (hi : i < nn) : (wo X h)[i]? = some (xa X i, ce X i (h.1 i) (h.2 i)) := by
  simp only [wo, List.getElem?_map, List.getElem?_range hi, Option.map_some]
theorem wo_set {X : mu_X} {h h' : mu_H} {i : Nat} {c : va_E} (hc : c = ce X i (h'.1 i) (h'.2 i)) (h1 : ∀ j, j ≠ i → h'.1 j = h.1 j) (h2 : ∀ j, j ≠ i → h'.2 j = h.2 j) : (wo X h).set i (xa X i, c) = wo X h' := by
  subst hc
  apply List.ext_getElem?
  intro j
  by_cases hj : j < nn
  · rw [wo_get hj, List.getElem?_set]
    by_cases e : i = j
    · subst e
      rw [if_pos rfl, if_pos (by simpa [wo] using hj)]
    · rw [if_neg e, wo_get hj, h1 j (Ne.symm e), h2 j (Ne.symm e)]
  · have a1 : (wo X h').length ≤ j := by simpa [wo] using hj
    have a2 : ((wo X h).set i (xa X i, ce X i (h'.1 i) (h'.2 i))).length ≤ j := by simpa [wo] using hj
    rw [List.getElem?_eq_none a1, List.getElem?_eq_none a2]
theorem ur_1 {h : mu_H} {a : Nat} {f : Nat → Int32} : (ur h a f).1 a = f := by simp [ur]
theorem ur_n {h : mu_H} {a j : Nat} {f : Nat → Int32} (hj : j ≠ a) : (ur h a f).1 j = h.1 j := by simp [ur, hj]
theorem ur_2 {h : mu_H} {a : Nat} {f : Nat → Int32} : (ur h a f).2 = h.2 := rfl
theorem ul_1 {h : mu_H} {a k : Nat} {x : Int64} : (ul h a k x).2 a = vp_updL (h.2 a) k x := by simp [ul]
theorem ul_n {h : mu_H} {a k j : Nat} {x : Int64} (hj : j ≠ a) : (ul h a k x).2 j = h.2 j := by simp [ul, hj]
theorem wo_ur {X : mu_X} {h : mu_H} {i : Nat} {f : Nat → Int32} {c : va_E} (hc : c = ce X i f (h.2 i)) : (wo X h).set i (xa X i, c) = wo X (ur h i f) :=
  wo_set (by rw [hc, ur_1, ur_2]) (fun _ hj => ur_n hj) (fun _ _ => rfl)
theorem wo_ul {X : mu_X} {h : mu_H} {i k : Nat} {x : Int64} {c : va_E} (hc : c = ce X i (h.1 i) (vp_updL (h.2 i) k x)) : (wo X h).set i (xa X i, c) = wo X (ul h i k x) :=
  wo_set (by rw [hc, ul_1]; rfl) (fun _ _ => rfl) (fun _ hj => ul_n hj)
def ax (X : mu_X) : Nat → Prop := fun q => ∃ i, i < nn ∧ q = xa X i
def xj (X : mu_X) : Prop := ∀ i j, i < nn → j < nn → xa X i = xa X j → i = j
theorem wo_D {X : mu_X} {h : mu_H} {A : Nat → Prop} (hj : xj X) (hA : ∀ i, i < nn → A (xa X i)) : va_D A (wo X h) := by
  have hl : ∀ (k : Nat) (q : Nat × va_E), (wo X h)[k]? = some q → k < nn ∧ q.1 = xa X k := by
    intro k q hk
    have h1 : k < nn := by
      have := (List.getElem?_eq_some_iff.mp hk).1
      simpa [wo] using this
    rw [wo_get h1] at hk
    cases hk
    exact ⟨h1, rfl⟩
  refine ⟨fun i j p q hi hj' e => ?_, fun k q hk => ?_⟩
  · obtain ⟨a1, a2⟩ := hl i p hi
    obtain ⟨b1, b2⟩ := hl j q hj'
    exact hj i j a1 b1 (by rw [← a2, ← b2]; exact e)
  · obtain ⟨a1, a2⟩ := hl k q hk
    rw [a2]
    exact hA k a1
/-- the static rows: class, name, descriptor, type, what they hold -/
def sL : List (String × String × String × FieldType × List Int32) := [(RX5, "FIRST_LETTER", "[I", .int, [0, 3, 8, 11]), (RX5, "WITHOUT", "[I", .int, [6, 2, 3, 0, 1, 20, 2, 3, 0, 3, 5]), (RX5, "LETTERS", "[C", .char, [100, 102, 112, 97, 98, 119, 101, 117, 99, 113, 122]), (RX5, "LOWEST", "[I", .int, [1, 0, 0, 0, 0, 0, 0, 0, 0, 1, 0]), (RX5, "HIGHEST", "[I", .int, [9, 9, 9, 7, 7, 99, 9, 9, 7, 9, 9]), (RX2, "LETTERS", "[C", .char, [113, 122, 104, 119, 101, 115]), (RX3, "COSTS", "[I", .int, [4, 2, 0, 0]), (RX3, "PLAYED", "[I", .int, [0, 1, 3])]
def xS (X : mu_X) (A : Nat → Prop) (U : State) (H : Heap) : Prop := ∀ (k : Nat) (q : String × String × String × FieldType × List Int32), sL[k]? = some q → va_Z q.1 q.2.1 q.2.2.1 (.ref (xs X k)) A U H ∧ va_T q.2.2.2.1 (xs X k) q.2.2.2.2.length (fun j => .int (q.2.2.2.2.getD j 0)) A U H
theorem xS.moved {X : mu_X} {A : Nat → Prop} {u U : State} {H : Heap} (hvm : u.vm.Alike U.vm) (h : xS X A u H) : xS X A U H := fun k q hk => ⟨(h k q hk).1.moved hvm, (h k q hk).2.moved hvm⟩
theorem xS.kept {X : mu_X} {A : Nat → Prop} {U : State} {H H1 : Heap} (h : xS X A U H) (hq : ∀ a : Nat, a < H.size → ¬ A a → H1[a]? = H[a]?) : xS X A U H1 := fun k q hk => ⟨(h k q hk).1.kept hq, (h k q hk).2.kept hq⟩
theorem xS.narrow {X : mu_X} {A B : Nat → Prop} {U : State} {H : Heap} (h : xS X A U H) (hAB : ∀ q, B q → A q) : xS X B U H := fun k q hk => ⟨(h k q hk).1.narrow hAB, (h k q hk).2.narrow hAB⟩
/-- the world at a method's entry -/
def wl (X : mu_X) (h : mu_H) (U : State) : Prop := xj X ∧ va_P X.2.1 vwCl (wo X h) U.heap ∧ va_K X.2.1 vwCl (ty_l X) U ∧ xS X (ax X) U U.heap
def rmk (k : Nat) : Room := { frames := k, cells := 0, slots := 0, locals := 60 * k }
def wB (X : mu_X) : mu_H → State → Prop := fun u t => va_P X.2.1 vwCl (wo X u) t.heap
def qcI (X : mu_X) (r : Int32) (h' : mu_H) : Array Value → State → Outcome → State → Prop := va_Qi (fun x (u : mu_H) => x = r ∧ u = h') (wB X) (ax X)
def qcV (X : mu_X) (h' : mu_H) : Array Value → State → Outcome → State → Prop := va_Qv (fun (u : mu_H) => u = h') (wB X) (ax X)
def qcL (X : mu_X) (r : Int64) (h' : mu_H) : Array Value → State → Outcome → State → Prop := va_Ql (fun x (u : mu_H) => x = r ∧ u = h') (wB X) (ax X)
def qcR (X : mu_X) (i : Nat) (h' : mu_H) : Array Value → State → Outcome → State → Prop := va_Qr (fun (u : mu_H) => u = h') (fun u a t => a = xa X i ∧ wB X u t) (ax X)
abbrev mws (M : mu_M) : List Cond := Cond.code M.2.1 M.2.2.1 M.2.2.2.1 M.2.2.2.2 :: lw_t2
/-- a method's contract: called with avs in the world h it returns r (nothing, a cell) in the world h' -/
def mI (X : mu_X) (M : mu_M) (k : Nat) (avs : List Value) (h : mu_H) (r : Int32) (h' : mu_H) : Prop := Met X.1 M.2.1 (mws M) (rmk k) (va_Pc avs (wl X h)) (qcI X r h') 0 0 (ax X)
def mV (X : mu_X) (M : mu_M) (k : Nat) (avs : List Value) (h : mu_H) (h' : mu_H) : Prop := Met X.1 M.2.1 (mws M) (rmk k) (va_Pc avs (wl X h)) (qcV X h') 0 0 (ax X)
def mL (X : mu_X) (M : mu_M) (k : Nat) (avs : List Value) (h : mu_H) (r : Int64) (h' : mu_H) : Prop := Met X.1 M.2.1 (mws M) (rmk k) (va_Pc avs (wl X h)) (qcL X r h') 0 0 (ax X)
def mR (X : mu_X) (M : mu_M) (k : Nat) (avs : List Value) (h : mu_H) (i : Nat) (h' : mu_H) : Prop := Met X.1 M.2.1 (mws M) (rmk k) (va_Pc avs (wl X h)) (qcR X i h') 0 0 (ax X)
def qI (X : mu_X) (r : Int32) (h' : mu_H) : mu_Q := fun below args s => MQ below (qcI X r h') args s 0 0 (ax X)
def qV (X : mu_X) (h' : mu_H) : mu_Q := fun below args s => MQ below (qcV X h') args s 0 0 (ax X)
def qL (X : mu_X) (r : Int64) (h' : mu_H) : mu_Q := fun below args s => MQ below (qcL X r h') args s 0 0 (ax X)
def qR (X : mu_X) (i : Nat) (h' : mu_H) : mu_Q := fun below args s => MQ below (qcR X i h') args s 0 0 (ax X)
/-- what stands while a body runs -/
def mB (X : mu_X) (M : mu_M) (A : State → Nat → Prop) (E : Array Value → State → Code → Prop) (p : Program) (s : State) (m : MethodId) (args : Array Value) (meth : Method) (c : Code) : Prop :=
  p.tables.exec = Jvm.exec ∧ c.code = M.2.2.1 ∧ meth.sig.returnType = M.2.2.2.2 ∧ c.maxLocals = M.2.2.2.1 ∧ s.vm.findClass M.1 = some m.cls ∧ (∀ w ∈ lw_t2, w.before args s = true) ∧ meth.locks = false ∧
  xj X ∧ va_K X.2.1 vwCl (ty_l X) s ∧ xS X (A s) s s.heap ∧ (∀ i, i < nn → A s (xa X i)) ∧ E args s c
/-- from pc, with these locals, this stack and this world, the body comes to its end -/
def aW (X : mu_X) (M : mu_M) (R : Room) (A : State → Nat → Prop) (E : Array Value → State → Code → Prop) (cs ss : Nat) (Q : mu_Q) (pc : Nat) (lv : List (Nat × Value)) (st : List Value) (h : mu_H) : Prop :=
  ∀ (p : Program) (e : Env) (s : State) (m : MethodId) (args : Array Value) (below : List Frame) (meth : Method) (c : Code) (H : Heap) (locs : List Loc) (ls : Array Slot), mB X M A E p s m args meth c → va_P X.2.1 vwCl (wo X h) H → va_S (A s) s.heap H locs → lv_has ls M.2.2.2.1 lv →
    W p X.1 e R s m args below meth c H locs cs ss (Q below args s) (F0 m pc ls st)
/-- the same, told by the function that the rest of the body is -/
def aG {ρ : Type} (X : mu_X) (M : mu_M) (R : Room) (A : State → Nat → Prop) (E : Array Value → State → Code → Prop) (cs ss : Nat) (Qf : ρ → mu_Q) (ex : Option ρ) (pc : Nat) (lv : List (Nat × Value)) (st : List Value) (h : mu_H) : Prop :=
  ∀ r, ex = some r → aW X M R A E cs ss (Qf r) pc lv st h
/-- guards, names and loops of the functions -/
def gd {ρ : Type} (b : Bool) (ex : Option ρ) : Option ρ := if b = true then ex else none
def ix (j : Int32) (n : Nat) : Bool := decide (0 ≤ j) && decide (j.toNatClampNeg < n)
def bn {α ρ : Type} (v : α) (f : α → Option ρ) : Option ρ := f v
def lp {σ ρ : Type} (body : (σ → Option ρ) → σ → Option ρ) : Nat → σ → Option ρ
  | 0, _ => none
  | n + 1, s => body (lp body n) s
def jn {σ ρ : Type} (b : σ → Option ρ) (f : (σ → Option ρ) → Option ρ) : Option ρ := f b
def bi {ρ : Type} (F : Option (Int32 × mu_H)) (g : Int32 → mu_H → Option ρ) : Option ρ := F.bind fun q => g q.1 q.2
theorem ix_in {j : Int32} {n : Nat} (h : ix j n = true) : vp_in j n := by
  simp only [ix, Bool.and_eq_true, decide_eq_true_eq] at h
  rintro (h1 | h1)
  · exact absurd (Int32.lt_iff_toInt_lt.mp h1) (Int.not_lt.mpr (Int32.le_iff_toInt_le.mp h.1))
  · omega
theorem gd_some {ρ : Type} {b : Bool} {ex : Option ρ} {r : ρ} (h : gd b ex = some r) : b = true ∧ ex = some r := by
  unfold gd at h
  split at h
  · exact ⟨by assumption, h⟩
  · cases h

section Rows
variable {ρ σ : Type} {X : mu_X} {M : mu_M} {R : Room} {A : State → Nat → Prop} {E : Array Value → State → Code → Prop} {cs ss : Nat} {Qf : ρ → mu_Q} {ex : Option ρ} {pc : Nat} {lv lv' : List (Nat × Value)} {st : List Value} {h : mu_H}

theorem aG_none : aG X M R A E cs ss Qf none pc lv st h := fun r hr => by cases hr
theorem ro_lp {body : (σ → Option ρ) → σ → Option ρ} {lvs : σ → List (Nat × Value)} {hs : σ → mu_H} (hb : ∀ rec : σ → Option ρ, (∀ s, aG X M R A E cs ss Qf (rec s) pc (lvs s) [] (hs s)) → ∀ s, aG X M R A E cs ss Qf (body rec s) pc (lvs s) [] (hs s)) : ∀ n s, aG X M R A E cs ss Qf (lp body n s) pc (lvs s) [] (hs s)
  | 0, s => aG_none
  | n + 1, s => hb (lp body n) (fun s => ro_lp hb n s) s
theorem ro_jn {pcj : Nat} {b : σ → Option ρ} {f : (σ → Option ρ) → Option ρ} {lvs : σ → List (Nat × Value)} {sts : σ → List Value} {hs : σ → mu_H} (hb : ∀ s, aG X M R A E cs ss Qf (b s) pcj (lvs s) (sts s) (hs s)) (hf : ∀ j : σ → Option ρ, (∀ s, aG X M R A E cs ss Qf (j s) pcj (lvs s) (sts s) (hs s)) → aG X M R A E cs ss Qf (f j) pc lv st h) : aG X M R A E cs ss Qf (jn b f) pc lv st h := hf b hb
theorem ro_lv (ks : List Nat) (hp : lv_pick lv ks = lv') (k : aG X M R A E cs ss Qf ex pc lv' st h) : aG X M R A E cs ss Qf ex pc lv st h :=
  fun r hr p e s m args below meth c H locs ls B hP hS hl => k r hr p e s m args below meth c H locs ls B hP hS (lv_sub hl ks hp)
theorem ro_bn {x : Int32} {f : Int32 → Option ρ} (k : ∀ y : Int32, aG X M R A E cs ss Qf (f y) pc lv (.int y :: st) h) : aG X M R A E cs ss Qf (bn x f) pc lv (.int x :: st) h := k x
theorem ro_bnl {x : Int64} {f : Int64 → Option ρ} (k : ∀ y : Int64, aG X M R A E cs ss Qf (f y) pc lv (.long y :: st) h) : aG X M R A E cs ss Qf (bn x f) pc lv (.long x :: st) h := k x
theorem ro_bnh {h0 : mu_H} {f : mu_H → Option ρ} (k : ∀ h1 : mu_H, aG X M R A E cs ss Qf (f h1) pc lv st h1) : aG X M R A E cs ss Qf (bn h0 f) pc lv st h0 := k h0
theorem ro_iadd {x y : Int32} (hd : decode M.2.2.1 pc = .ok (.iadd, 1))  (k : aG X M R A E cs ss Qf ex (pc + 1) lv (.int (x + y) :: st) h) : aG X M R A E cs ss Qf ex pc lv (.int y :: .int x :: st) h := fun r hr p e s m args below meth c H locs ls B hP hS hl => lv_iadd B.1 B.2.1 hd  (k r hr p e s m args below meth c H locs ls B hP hS hl)
theorem ro_isub {x y : Int32} (hd : decode M.2.2.1 pc = .ok (.isub, 1))  (k : aG X M R A E cs ss Qf ex (pc + 1) lv (.int (x - y) :: st) h) : aG X M R A E cs ss Qf ex pc lv (.int y :: .int x :: st) h := fun r hr p e s m args below meth c H locs ls B hP hS hl => lv_isub B.1 B.2.1 hd  (k r hr p e s m args below meth c H locs ls B hP hS hl)
theorem ro_imul {x y : Int32} (hd : decode M.2.2.1 pc = .ok (.imul, 1))  (k : aG X M R A E cs ss Qf ex (pc + 1) lv (.int (x * y) :: st) h) : aG X M R A E cs ss Qf ex pc lv (.int y :: .int x :: st) h := fun r hr p e s m args below meth c H locs ls B hP hS hl => lv_imul B.1 B.2.1 hd  (k r hr p e s m args below meth c H locs ls B hP hS hl)
theorem ro_ishl {x y : Int32} (hd : decode M.2.2.1 pc = .ok (.ishl, 1))  (k : aG X M R A E cs ss Qf ex (pc + 1) lv (.int (x <<< (y &&& 31)) :: st) h) : aG X M R A E cs ss Qf ex pc lv (.int y :: .int x :: st) h := fun r hr p e s m args below meth c H locs ls B hP hS hl => lv_ishl B.1 B.2.1 hd  (k r hr p e s m args below meth c H locs ls B hP hS hl)
theorem ro_ishr {x y : Int32} (hd : decode M.2.2.1 pc = .ok (.ishr, 1))  (k : aG X M R A E cs ss Qf ex (pc + 1) lv (.int (x >>> (y &&& 31)) :: st) h) : aG X M R A E cs ss Qf ex pc lv (.int y :: .int x :: st) h := fun r hr p e s m args below meth c H locs ls B hP hS hl => lv_ishr B.1 B.2.1 hd  (k r hr p e s m args below meth c H locs ls B hP hS hl)
theorem ro_iand {x y : Int32} (hd : decode M.2.2.1 pc = .ok (.iand, 1))  (k : aG X M R A E cs ss Qf ex (pc + 1) lv (.int (x &&& y) :: st) h) : aG X M R A E cs ss Qf ex pc lv (.int y :: .int x :: st) h := fun r hr p e s m args below meth c H locs ls B hP hS hl => lv_iand B.1 B.2.1 hd  (k r hr p e s m args below meth c H locs ls B hP hS hl)
theorem ro_ior {x y : Int32} (hd : decode M.2.2.1 pc = .ok (.ior, 1))  (k : aG X M R A E cs ss Qf ex (pc + 1) lv (.int (x ||| y) :: st) h) : aG X M R A E cs ss Qf ex pc lv (.int y :: .int x :: st) h := fun r hr p e s m args below meth c H locs ls B hP hS hl => lv_ior B.1 B.2.1 hd  (k r hr p e s m args below meth c H locs ls B hP hS hl)
theorem ro_ixor {x y : Int32} (hd : decode M.2.2.1 pc = .ok (.ixor, 1))  (k : aG X M R A E cs ss Qf ex (pc + 1) lv (.int (x ^^^ y) :: st) h) : aG X M R A E cs ss Qf ex pc lv (.int y :: .int x :: st) h := fun r hr p e s m args below meth c H locs ls B hP hS hl => lv_ixor B.1 B.2.1 hd  (k r hr p e s m args below meth c H locs ls B hP hS hl)
theorem ro_iushr {x y : Int32} (hd : decode M.2.2.1 pc = .ok (.iushr, 1))  (k : aG X M R A E cs ss Qf ex (pc + 1) lv (.int ((x.toUInt32 >>> (y.toUInt32 &&& Int32.toUInt32 31)).toInt32) :: st) h) : aG X M R A E cs ss Qf ex pc lv (.int y :: .int x :: st) h := fun r hr p e s m args below meth c H locs ls B hP hS hl => lv_iushr B.1 B.2.1 hd rfl (k r hr p e s m args below meth c H locs ls B hP hS hl)
theorem ro_ineg {x : Int32} (hd : decode M.2.2.1 pc = .ok (.ineg, 1))  (k : aG X M R A E cs ss Qf ex (pc + 1) lv (.int (-x) :: st) h) : aG X M R A E cs ss Qf ex pc lv (.int x :: st) h := fun r hr p e s m args below meth c H locs ls B hP hS hl => lv_ineg B.1 B.2.1 hd  (k r hr p e s m args below meth c H locs ls B hP hS hl)
theorem ro_idiv {x y : Int32} (hd : decode M.2.2.1 pc = .ok (.idiv, 1)) (hne : ¬ y = 0) (k : aG X M R A E cs ss Qf ex (pc + 1) lv (.int (x / y) :: st) h) : aG X M R A E cs ss Qf ex pc lv (.int y :: .int x :: st) h := fun r hr p e s m args below meth c H locs ls B hP hS hl => lv_idiv B.1 B.2.1 hd hne (k r hr p e s m args below meth c H locs ls B hP hS hl)
theorem ro_irem {x y : Int32} (hd : decode M.2.2.1 pc = .ok (.irem, 1)) (hne : ¬ y = 0) (k : aG X M R A E cs ss Qf ex (pc + 1) lv (.int (x - x / y * y) :: st) h) : aG X M R A E cs ss Qf ex pc lv (.int y :: .int x :: st) h := fun r hr p e s m args below meth c H locs ls B hP hS hl => lv_irem B.1 B.2.1 hd hne (k r hr p e s m args below meth c H locs ls B hP hS hl)
theorem ro_ladd {x y : Int64} (hd : decode M.2.2.1 pc = .ok (.ladd, 1))  (k : aG X M R A E cs ss Qf ex (pc + 1) lv (.long (x + y) :: st) h) : aG X M R A E cs ss Qf ex pc lv (.long y :: .long x :: st) h := fun r hr p e s m args below meth c H locs ls B hP hS hl => lv_ladd B.1 B.2.1 hd  (k r hr p e s m args below meth c H locs ls B hP hS hl)
theorem ro_lsub {x y : Int64} (hd : decode M.2.2.1 pc = .ok (.lsub, 1))  (k : aG X M R A E cs ss Qf ex (pc + 1) lv (.long (x - y) :: st) h) : aG X M R A E cs ss Qf ex pc lv (.long y :: .long x :: st) h := fun r hr p e s m args below meth c H locs ls B hP hS hl => lv_lsub B.1 B.2.1 hd  (k r hr p e s m args below meth c H locs ls B hP hS hl)
theorem ro_lmul {x y : Int64} (hd : decode M.2.2.1 pc = .ok (.lmul, 1))  (k : aG X M R A E cs ss Qf ex (pc + 1) lv (.long (x * y) :: st) h) : aG X M R A E cs ss Qf ex pc lv (.long y :: .long x :: st) h := fun r hr p e s m args below meth c H locs ls B hP hS hl => lv_lmul B.1 B.2.1 hd  (k r hr p e s m args below meth c H locs ls B hP hS hl)
theorem ro_land {x y : Int64} (hd : decode M.2.2.1 pc = .ok (.land, 1))  (k : aG X M R A E cs ss Qf ex (pc + 1) lv (.long (x &&& y) :: st) h) : aG X M R A E cs ss Qf ex pc lv (.long y :: .long x :: st) h := fun r hr p e s m args below meth c H locs ls B hP hS hl => lv_land B.1 B.2.1 hd  (k r hr p e s m args below meth c H locs ls B hP hS hl)
theorem ro_lor {x y : Int64} (hd : decode M.2.2.1 pc = .ok (.lor, 1))  (k : aG X M R A E cs ss Qf ex (pc + 1) lv (.long (x ||| y) :: st) h) : aG X M R A E cs ss Qf ex pc lv (.long y :: .long x :: st) h := fun r hr p e s m args below meth c H locs ls B hP hS hl => lv_lor B.1 B.2.1 hd  (k r hr p e s m args below meth c H locs ls B hP hS hl)
theorem ro_ldiv {x y : Int64} (hd : decode M.2.2.1 pc = .ok (.ldiv, 1)) (hne : ¬ y = 0) (k : aG X M R A E cs ss Qf ex (pc + 1) lv (.long (x / y) :: st) h) : aG X M R A E cs ss Qf ex pc lv (.long y :: .long x :: st) h := fun r hr p e s m args below meth c H locs ls B hP hS hl => lv_ldiv B.1 B.2.1 hd hne (k r hr p e s m args below meth c H locs ls B hP hS hl)
theorem ro_lrem {x y : Int64} (hd : decode M.2.2.1 pc = .ok (.lrem, 1)) (hne : ¬ y = 0) (k : aG X M R A E cs ss Qf ex (pc + 1) lv (.long (x - x / y * y) :: st) h) : aG X M R A E cs ss Qf ex pc lv (.long y :: .long x :: st) h := fun r hr p e s m args below meth c H locs ls B hP hS hl => lv_lrem B.1 B.2.1 hd hne (k r hr p e s m args below meth c H locs ls B hP hS hl)
theorem ro_lushr {x : Int64} {y : Int32} (hd : decode M.2.2.1 pc = .ok (.lushr, 1))  (k : aG X M R A E cs ss Qf ex (pc + 1) lv (.long ((x.toUInt64 >>> (y.toInt64.toUInt64 &&& Int64.toUInt64 63)).toInt64) :: st) h) : aG X M R A E cs ss Qf ex pc lv (.int y :: .long x :: st) h := fun r hr p e s m args below meth c H locs ls B hP hS hl => lv_lushr B.1 B.2.1 hd rfl (k r hr p e s m args below meth c H locs ls B hP hS hl)
theorem ro_lshl {x : Int64} {y : Int32} (hd : decode M.2.2.1 pc = .ok (.lshl, 1))  (k : aG X M R A E cs ss Qf ex (pc + 1) lv (.long (x <<< (y.toInt64 &&& 63)) :: st) h) : aG X M R A E cs ss Qf ex pc lv (.int y :: .long x :: st) h := fun r hr p e s m args below meth c H locs ls B hP hS hl => lv_lshl B.1 B.2.1 hd rfl (k r hr p e s m args below meth c H locs ls B hP hS hl)
theorem ro_i2l {x : Int32} (hd : decode M.2.2.1 pc = .ok (.i2l, 1))  (k : aG X M R A E cs ss Qf ex (pc + 1) lv (.long x.toInt64 :: st) h) : aG X M R A E cs ss Qf ex pc lv (.int x :: st) h := fun r hr p e s m args below meth c H locs ls B hP hS hl => lv_i2l B.1 B.2.1 hd rfl (k r hr p e s m args below meth c H locs ls B hP hS hl)
theorem ro_l2i {x : Int64} (hd : decode M.2.2.1 pc = .ok (.l2i, 1))  (k : aG X M R A E cs ss Qf ex (pc + 1) lv (.int x.toInt32 :: st) h) : aG X M R A E cs ss Qf ex pc lv (.long x :: st) h := fun r hr p e s m args below meth c H locs ls B hP hS hl => lv_l2i B.1 B.2.1 hd rfl (k r hr p e s m args below meth c H locs ls B hP hS hl)
theorem ro_i2b {x : Int32} (hd : decode M.2.2.1 pc = .ok (.i2b, 1))  (k : aG X M R A E cs ss Qf ex (pc + 1) lv (.int x.toInt8.toInt32 :: st) h) : aG X M R A E cs ss Qf ex pc lv (.int x :: st) h := fun r hr p e s m args below meth c H locs ls B hP hS hl => lv_i2b B.1 B.2.1 hd rfl (k r hr p e s m args below meth c H locs ls B hP hS hl)
theorem ro_dup {v : Value} (hd : decode M.2.2.1 pc = .ok (.dup, 1)) (hc : v.category = 1) (k : aG X M R A E cs ss Qf ex (pc + 1) lv (v :: v :: st) h) : aG X M R A E cs ss Qf ex pc lv (v :: st) h := fun r hr p e s m args below meth c H locs ls B hP hS hl => lv_dup B.1 B.2.1 hd hc (k r hr p e s m args below meth c H locs ls B hP hS hl)
theorem ro_pop {v : Value} (hd : decode M.2.2.1 pc = .ok (.pop, 1)) (hc : v.category = 1) (k : aG X M R A E cs ss Qf ex (pc + 1) lv (st) h) : aG X M R A E cs ss Qf ex pc lv (v :: st) h := fun r hr p e s m args below meth c H locs ls B hP hS hl => lv_pop B.1 B.2.1 hd hc (k r hr p e s m args below meth c H locs ls B hP hS hl)
theorem ro_dup2_11 {v u : Value} (hd : decode M.2.2.1 pc = .ok (.dup2, 1)) (hc : v.category = 1) (hc2 : u.category = 1) (k : aG X M R A E cs ss Qf ex (pc + 1) lv (v :: u :: v :: u :: st) h) : aG X M R A E cs ss Qf ex pc lv (v :: u :: st) h := fun r hr p e s m args below meth c H locs ls B hP hS hl => lv_dup2_11 B.1 B.2.1 hd hc hc2 (k r hr p e s m args below meth c H locs ls B hP hS hl)
theorem ro_iconst {n : Int} {v : Int32} (hd : decode M.2.2.1 pc = .ok (.iconst n, 1)) (hv : Int32.ofInt n = v) (k : aG X M R A E cs ss Qf ex (pc + 1) lv (.int v :: st) h) : aG X M R A E cs ss Qf ex pc lv (st) h := fun r hr p e s m args below meth c H locs ls B hP hS hl => lv_iconst B.1 B.2.1 hd hv (k r hr p e s m args below meth c H locs ls B hP hS hl)
theorem ro_lconst {n : Fin 2} {v : Int64} (hd : decode M.2.2.1 pc = .ok (.lconst n, 1)) (hv : Int64.ofNat (n : Nat) = v) (k : aG X M R A E cs ss Qf ex (pc + 1) lv (.long v :: st) h) : aG X M R A E cs ss Qf ex pc lv (st) h := fun r hr p e s m args below meth c H locs ls B hP hS hl => lv_lconst B.1 B.2.1 hd hv (k r hr p e s m args below meth c H locs ls B hP hS hl)
theorem ro_bipush {n : Int} {v : Int32} (hd : decode M.2.2.1 pc = .ok (.bipush n, 2)) (hv : (Int8.ofInt n).toInt32 = v) (k : aG X M R A E cs ss Qf ex (pc + 2) lv (.int v :: st) h) : aG X M R A E cs ss Qf ex pc lv (st) h := fun r hr p e s m args below meth c H locs ls B hP hS hl => lv_bipush B.1 B.2.1 hd hv (k r hr p e s m args below meth c H locs ls B hP hS hl)
theorem ro_sipush {n : Int} {v : Int32} (hd : decode M.2.2.1 pc = .ok (.sipush n, 3)) (hv : (Int16.ofInt n).toInt32 = v) (k : aG X M R A E cs ss Qf ex (pc + 3) lv (.int v :: st) h) : aG X M R A E cs ss Qf ex pc lv (st) h := fun r hr p e s m args below meth c H locs ls B hP hS hl => lv_sipush B.1 B.2.1 hd hv (k r hr p e s m args below meth c H locs ls B hP hS hl)
theorem ro_lcmp {x y : Int64} (hd : decode M.2.2.1 pc = .ok (.lcmp, 1)) (k : aG X M R A E cs ss Qf ex (pc + 1) lv (.int (lg_cmp x y) :: st) h) : aG X M R A E cs ss Qf ex pc lv (.long y :: .long x :: st) h := fun r hr p e s m args below meth c H locs ls B hP hS hl => W.lcmp B.1 B.2.1 hd (k r hr p e s m args below meth c H locs ls B hP hS hl)
theorem ro_ldc {i : Nat} {v : Int32} (hd : decode M.2.2.1 pc = .ok (.ldc i, 2)) (hw : Cond.constant M.1 i v ∈ lw_t2) (k : aG X M R A E cs ss Qf ex (pc + 2) lv (.int v :: st) h) : aG X M R A E cs ss Qf ex pc lv st h := fun r hr p e s m args below meth c H locs ls B hP hS hl => lv_ldc B.1 B.2.1 B.2.2.2.2.1 (B.2.2.2.2.2.1 _ hw) hd (k r hr p e s m args below meth c H locs ls B hP hS hl)
theorem ro_ldcw {i : Nat} {v : Int32} (hd : decode M.2.2.1 pc = .ok (.ldc_w i, 3)) (hw : Cond.constant M.1 i v ∈ lw_t2) (k : aG X M R A E cs ss Qf ex (pc + 3) lv (.int v :: st) h) : aG X M R A E cs ss Qf ex pc lv st h := fun r hr p e s m args below meth c H locs ls B hP hS hl => lv_ldcw B.1 B.2.1 B.2.2.2.2.1 (B.2.2.2.2.2.1 _ hw) hd (k r hr p e s m args below meth c H locs ls B hP hS hl)
theorem ro_ldc2 {i : Nat} {v : Int64} (hd : decode M.2.2.1 pc = .ok (.ldc2_w i, 3)) (hw : Cond.constantLong M.1 i v ∈ lw_t2) (k : aG X M R A E cs ss Qf ex (pc + 3) lv (.long v :: st) h) : aG X M R A E cs ss Qf ex pc lv st h := fun r hr p e s m args below meth c H locs ls B hP hS hl => lv_ldc2 B.1 B.2.1 B.2.2.2.2.1 (B.2.2.2.2.2.1 _ hw) hd (k r hr p e s m args below meth c H locs ls B hP hS hl)
theorem ro_iload_n {i : Fin 4} {j : Nat} {x : Int32} (q : Nat) (hd : decode M.2.2.1 pc = .ok (.iload_n i, 1)) (hi : (i : Nat) = j) (hq : lv[q]? = some (j, .int x)) (k : aG X M R A E cs ss Qf ex (pc + 1) lv (.int x :: st) h) : aG X M R A E cs ss Qf ex pc lv st h := fun r hr p e s m args below meth c H locs ls B hP hS hl => lv_iload_n B.1 B.2.1 hd hi (lv_at hl q hq) (k r hr p e s m args below meth c H locs ls B hP hS hl)
theorem ro_iload {j : Nat} {x : Int32} (q : Nat) (hd : decode M.2.2.1 pc = .ok (.iload j, 2)) (hq : lv[q]? = some (j, .int x)) (k : aG X M R A E cs ss Qf ex (pc + 2) lv (.int x :: st) h) : aG X M R A E cs ss Qf ex pc lv st h := fun r hr p e s m args below meth c H locs ls B hP hS hl => lv_iload B.1 B.2.1 hd (lv_at hl q hq) (k r hr p e s m args below meth c H locs ls B hP hS hl)
theorem ro_lload_n {i : Fin 4} {j : Nat} {x : Int64} (q : Nat) (hd : decode M.2.2.1 pc = .ok (.lload_n i, 1)) (hi : (i : Nat) = j) (hq : lv[q]? = some (j, .long x)) (k : aG X M R A E cs ss Qf ex (pc + 1) lv (.long x :: st) h) : aG X M R A E cs ss Qf ex pc lv st h := fun r hr p e s m args below meth c H locs ls B hP hS hl => lv_lload_n B.1 B.2.1 hd hi (lv_at hl q hq) (k r hr p e s m args below meth c H locs ls B hP hS hl)
theorem ro_lload {j : Nat} {x : Int64} (q : Nat) (hd : decode M.2.2.1 pc = .ok (.lload j, 2)) (hq : lv[q]? = some (j, .long x)) (k : aG X M R A E cs ss Qf ex (pc + 2) lv (.long x :: st) h) : aG X M R A E cs ss Qf ex pc lv st h := fun r hr p e s m args below meth c H locs ls B hP hS hl => lv_lload B.1 B.2.1 hd (lv_at hl q hq) (k r hr p e s m args below meth c H locs ls B hP hS hl)
theorem ro_aload_n {i : Fin 4} {j : Nat} {x : Nat} (q : Nat) (hd : decode M.2.2.1 pc = .ok (.aload_n i, 1)) (hi : (i : Nat) = j) (hq : lv[q]? = some (j, .ref x)) (k : aG X M R A E cs ss Qf ex (pc + 1) lv (.ref x :: st) h) : aG X M R A E cs ss Qf ex pc lv st h := fun r hr p e s m args below meth c H locs ls B hP hS hl => lv_aload_n B.1 B.2.1 hd hi (lv_at hl q hq) (k r hr p e s m args below meth c H locs ls B hP hS hl)
theorem ro_aload {j : Nat} {x : Nat} (q : Nat) (hd : decode M.2.2.1 pc = .ok (.aload j, 2)) (hq : lv[q]? = some (j, .ref x)) (k : aG X M R A E cs ss Qf ex (pc + 2) lv (.ref x :: st) h) : aG X M R A E cs ss Qf ex pc lv st h := fun r hr p e s m args below meth c H locs ls B hP hS hl => lv_aload B.1 B.2.1 hd (lv_at hl q hq) (k r hr p e s m args below meth c H locs ls B hP hS hl)
theorem ro_istore_n {i : Fin 4} {j : Nat} {x : Int32} (hd : decode M.2.2.1 pc = .ok (.istore_n i, 1)) (hi : (i : Nat) = j) (hn : j < M.2.2.2.1) (hf : (j, Value.int x) :: lv.filter (fun q => !(q.1 == j) && !(q.1 + 1 == j && q.2.category == 2)) = lv') (k : aG X M R A E cs ss Qf ex (pc + 1) lv' st h) : aG X M R A E cs ss Qf ex pc lv (.int x :: st) h := fun r hr p e s m args below meth c H locs ls B hP hS hl => lv_istore_n B.1 B.2.1 hd hi hl hn hf (fun ls hl => k r hr p e s m args below meth c H locs ls B hP hS hl)
theorem ro_istore {j : Nat} {x : Int32} (hd : decode M.2.2.1 pc = .ok (.istore j, 2)) (hn : j < M.2.2.2.1) (hf : (j, Value.int x) :: lv.filter (fun q => !(q.1 == j) && !(q.1 + 1 == j && q.2.category == 2)) = lv') (k : aG X M R A E cs ss Qf ex (pc + 2) lv' st h) : aG X M R A E cs ss Qf ex pc lv (.int x :: st) h := fun r hr p e s m args below meth c H locs ls B hP hS hl => lv_istore B.1 B.2.1 hd hl hn hf (fun ls hl => k r hr p e s m args below meth c H locs ls B hP hS hl)
theorem ro_lstore_n {i : Fin 4} {j : Nat} {x : Int64} (hd : decode M.2.2.1 pc = .ok (.lstore_n i, 1)) (hi : (i : Nat) = j) (hn : j + 1 < M.2.2.2.1) (hf : (j, Value.long x) :: lv.filter (fun q => !(q.1 == j) && (!(q.1 == j + 1) && !(q.1 + 1 == j && q.2.category == 2))) = lv') (k : aG X M R A E cs ss Qf ex (pc + 1) lv' st h) : aG X M R A E cs ss Qf ex pc lv (.long x :: st) h := fun r hr p e s m args below meth c H locs ls B hP hS hl => lv_lstore_n B.1 B.2.1 hd hi hl hn hf (fun ls hl => k r hr p e s m args below meth c H locs ls B hP hS hl)
theorem ro_lstore {j : Nat} {x : Int64} (hd : decode M.2.2.1 pc = .ok (.lstore j, 2)) (hn : j + 1 < M.2.2.2.1) (hf : (j, Value.long x) :: lv.filter (fun q => !(q.1 == j) && (!(q.1 == j + 1) && !(q.1 + 1 == j && q.2.category == 2))) = lv') (k : aG X M R A E cs ss Qf ex (pc + 2) lv' st h) : aG X M R A E cs ss Qf ex pc lv (.long x :: st) h := fun r hr p e s m args below meth c H locs ls B hP hS hl => lv_lstore B.1 B.2.1 hd hl hn hf (fun ls hl => k r hr p e s m args below meth c H locs ls B hP hS hl)
theorem ro_astore_n {i : Fin 4} {j : Nat} {x : Nat} (hd : decode M.2.2.1 pc = .ok (.astore_n i, 1)) (hi : (i : Nat) = j) (hn : j < M.2.2.2.1) (hf : (j, Value.ref x) :: lv.filter (fun q => !(q.1 == j) && !(q.1 + 1 == j && q.2.category == 2)) = lv') (k : aG X M R A E cs ss Qf ex (pc + 1) lv' st h) : aG X M R A E cs ss Qf ex pc lv (.ref x :: st) h := fun r hr p e s m args below meth c H locs ls B hP hS hl => lv_astore_n B.1 B.2.1 hd hi hl hn hf (fun ls hl => k r hr p e s m args below meth c H locs ls B hP hS hl)
theorem ro_astore {j : Nat} {x : Nat} (hd : decode M.2.2.1 pc = .ok (.astore j, 2)) (hn : j < M.2.2.2.1) (hf : (j, Value.ref x) :: lv.filter (fun q => !(q.1 == j) && !(q.1 + 1 == j && q.2.category == 2)) = lv') (k : aG X M R A E cs ss Qf ex (pc + 2) lv' st h) : aG X M R A E cs ss Qf ex pc lv (.ref x :: st) h := fun r hr p e s m args below meth c H locs ls B hP hS hl => lv_astore B.1 B.2.1 hd hl hn hf (fun ls hl => k r hr p e s m args below meth c H locs ls B hP hS hl)
theorem ro_iinc {j : Nat} {n : Int} {x v : Int32} (q : Nat) (hd : decode M.2.2.1 pc = .ok (.iinc j n, 3)) (hq : lv[q]? = some (j, .int x)) (hv : x + Int32.ofInt n = v) (hn : j < M.2.2.2.1) (hf : (j, Value.int v) :: lv.filter (fun q => !(q.1 == j) && !(q.1 + 1 == j && q.2.category == 2)) = lv') (k : aG X M R A E cs ss Qf ex (pc + 3) lv' st h) : aG X M R A E cs ss Qf ex pc lv st h := fun r hr p e s m args below meth c H locs ls B hP hS hl => lv_iinc B.1 B.2.1 hd hl hq hv hn hf (fun ls hl => k r hr p e s m args below meth c H locs ls B hP hS hl)
theorem ro_goto {off : Int} {tgt : Nat} (hd : decode M.2.2.1 pc = .ok (.goto off, 3)) (ht : (pc : Int) + off = (tgt : Int)) (k : aG X M R A E cs ss Qf ex tgt lv st h) : aG X M R A E cs ss Qf ex pc lv st h := fun r hr p e s m args below meth c H locs ls B hP hS hl => lv_goto B.1 B.2.1 hd ht (k r hr p e s m args below meth c H locs ls B hP hS hl)
theorem ro_if_eq {x : Int32} {e1 e2 : Option ρ} {off : Int} {tgt : Nat} (hd : decode M.2.2.1 pc = .ok (.ifCond .eq off, 3)) (ht : (pc : Int) + off = (tgt : Int)) (kt : x = 0 → aG X M R A E cs ss Qf e1 tgt lv st h) (kf : ¬ x = 0 → aG X M R A E cs ss Qf e2 (pc + 3) lv st h) : aG X M R A E cs ss Qf (if x = 0 then e1 else e2) pc lv (.int x :: st) h := fun r hr p e s m args below meth c H locs ls B hP hS hl => lv_if_eq B.1 B.2.1 hd ht (fun c1 => kt c1 r (by rw [if_pos c1] at hr; exact hr) p e s m args below meth c H locs ls B hP hS hl) (fun c1 => kf c1 r (by rw [if_neg c1] at hr; exact hr) p e s m args below meth c H locs ls B hP hS hl)
theorem ro_icmp_eq {x y : Int32} {e1 e2 : Option ρ} {off : Int} {tgt : Nat} (hd : decode M.2.2.1 pc = .ok (.if_icmp .eq off, 3)) (ht : (pc : Int) + off = (tgt : Int)) (kt : x = y → aG X M R A E cs ss Qf e1 tgt lv st h) (kf : ¬ x = y → aG X M R A E cs ss Qf e2 (pc + 3) lv st h) : aG X M R A E cs ss Qf (if x = y then e1 else e2) pc lv (.int y :: .int x :: st) h := fun r hr p e s m args below meth c H locs ls B hP hS hl => lv_icmp_eq B.1 B.2.1 hd ht (fun c1 => kt c1 r (by rw [if_pos c1] at hr; exact hr) p e s m args below meth c H locs ls B hP hS hl) (fun c1 => kf c1 r (by rw [if_neg c1] at hr; exact hr) p e s m args below meth c H locs ls B hP hS hl)
theorem ro_if_ne {x : Int32} {e1 e2 : Option ρ} {off : Int} {tgt : Nat} (hd : decode M.2.2.1 pc = .ok (.ifCond .ne off, 3)) (ht : (pc : Int) + off = (tgt : Int)) (kt : ¬ x = 0 → aG X M R A E cs ss Qf e2 tgt lv st h) (kf : x = 0 → aG X M R A E cs ss Qf e1 (pc + 3) lv st h) : aG X M R A E cs ss Qf (if x = 0 then e1 else e2) pc lv (.int x :: st) h := fun r hr p e s m args below meth c H locs ls B hP hS hl => lv_if_ne B.1 B.2.1 hd ht (fun c1 => kt c1 r (by rw [if_neg c1] at hr; exact hr) p e s m args below meth c H locs ls B hP hS hl) (fun c1 => kf c1 r (by rw [if_pos c1] at hr; exact hr) p e s m args below meth c H locs ls B hP hS hl)
theorem ro_icmp_ne {x y : Int32} {e1 e2 : Option ρ} {off : Int} {tgt : Nat} (hd : decode M.2.2.1 pc = .ok (.if_icmp .ne off, 3)) (ht : (pc : Int) + off = (tgt : Int)) (kt : ¬ x = y → aG X M R A E cs ss Qf e2 tgt lv st h) (kf : x = y → aG X M R A E cs ss Qf e1 (pc + 3) lv st h) : aG X M R A E cs ss Qf (if x = y then e1 else e2) pc lv (.int y :: .int x :: st) h := fun r hr p e s m args below meth c H locs ls B hP hS hl => lv_icmp_ne B.1 B.2.1 hd ht (fun c1 => kt c1 r (by rw [if_neg c1] at hr; exact hr) p e s m args below meth c H locs ls B hP hS hl) (fun c1 => kf c1 r (by rw [if_pos c1] at hr; exact hr) p e s m args below meth c H locs ls B hP hS hl)
theorem ro_if_lt {x : Int32} {e1 e2 : Option ρ} {off : Int} {tgt : Nat} (hd : decode M.2.2.1 pc = .ok (.ifCond .lt off, 3)) (ht : (pc : Int) + off = (tgt : Int)) (kt : x < 0 → aG X M R A E cs ss Qf e1 tgt lv st h) (kf : ¬ x < 0 → aG X M R A E cs ss Qf e2 (pc + 3) lv st h) : aG X M R A E cs ss Qf (if x < 0 then e1 else e2) pc lv (.int x :: st) h := fun r hr p e s m args below meth c H locs ls B hP hS hl => lv_if_lt B.1 B.2.1 hd ht (fun c1 => kt c1 r (by rw [if_pos c1] at hr; exact hr) p e s m args below meth c H locs ls B hP hS hl) (fun c1 => kf c1 r (by rw [if_neg c1] at hr; exact hr) p e s m args below meth c H locs ls B hP hS hl)
theorem ro_icmp_lt {x y : Int32} {e1 e2 : Option ρ} {off : Int} {tgt : Nat} (hd : decode M.2.2.1 pc = .ok (.if_icmp .lt off, 3)) (ht : (pc : Int) + off = (tgt : Int)) (kt : x < y → aG X M R A E cs ss Qf e1 tgt lv st h) (kf : ¬ x < y → aG X M R A E cs ss Qf e2 (pc + 3) lv st h) : aG X M R A E cs ss Qf (if x < y then e1 else e2) pc lv (.int y :: .int x :: st) h := fun r hr p e s m args below meth c H locs ls B hP hS hl => lv_icmp_lt B.1 B.2.1 hd ht (fun c1 => kt c1 r (by rw [if_pos c1] at hr; exact hr) p e s m args below meth c H locs ls B hP hS hl) (fun c1 => kf c1 r (by rw [if_neg c1] at hr; exact hr) p e s m args below meth c H locs ls B hP hS hl)
theorem ro_if_ge {x : Int32} {e1 e2 : Option ρ} {off : Int} {tgt : Nat} (hd : decode M.2.2.1 pc = .ok (.ifCond .ge off, 3)) (ht : (pc : Int) + off = (tgt : Int)) (kt : 0 ≤ x → aG X M R A E cs ss Qf e1 tgt lv st h) (kf : ¬ 0 ≤ x → aG X M R A E cs ss Qf e2 (pc + 3) lv st h) : aG X M R A E cs ss Qf (if 0 ≤ x then e1 else e2) pc lv (.int x :: st) h := fun r hr p e s m args below meth c H locs ls B hP hS hl => lv_if_ge B.1 B.2.1 hd ht (fun c1 => kt c1 r (by rw [if_pos c1] at hr; exact hr) p e s m args below meth c H locs ls B hP hS hl) (fun c1 => kf c1 r (by rw [if_neg c1] at hr; exact hr) p e s m args below meth c H locs ls B hP hS hl)
theorem ro_icmp_ge {x y : Int32} {e1 e2 : Option ρ} {off : Int} {tgt : Nat} (hd : decode M.2.2.1 pc = .ok (.if_icmp .ge off, 3)) (ht : (pc : Int) + off = (tgt : Int)) (kt : y ≤ x → aG X M R A E cs ss Qf e1 tgt lv st h) (kf : ¬ y ≤ x → aG X M R A E cs ss Qf e2 (pc + 3) lv st h) : aG X M R A E cs ss Qf (if y ≤ x then e1 else e2) pc lv (.int y :: .int x :: st) h := fun r hr p e s m args below meth c H locs ls B hP hS hl => lv_icmp_ge B.1 B.2.1 hd ht (fun c1 => kt c1 r (by rw [if_pos c1] at hr; exact hr) p e s m args below meth c H locs ls B hP hS hl) (fun c1 => kf c1 r (by rw [if_neg c1] at hr; exact hr) p e s m args below meth c H locs ls B hP hS hl)
theorem ro_if_gt {x : Int32} {e1 e2 : Option ρ} {off : Int} {tgt : Nat} (hd : decode M.2.2.1 pc = .ok (.ifCond .gt off, 3)) (ht : (pc : Int) + off = (tgt : Int)) (kt : 0 < x → aG X M R A E cs ss Qf e1 tgt lv st h) (kf : ¬ 0 < x → aG X M R A E cs ss Qf e2 (pc + 3) lv st h) : aG X M R A E cs ss Qf (if 0 < x then e1 else e2) pc lv (.int x :: st) h := fun r hr p e s m args below meth c H locs ls B hP hS hl => lv_if_gt B.1 B.2.1 hd ht (fun c1 => kt c1 r (by rw [if_pos c1] at hr; exact hr) p e s m args below meth c H locs ls B hP hS hl) (fun c1 => kf c1 r (by rw [if_neg c1] at hr; exact hr) p e s m args below meth c H locs ls B hP hS hl)
theorem ro_icmp_gt {x y : Int32} {e1 e2 : Option ρ} {off : Int} {tgt : Nat} (hd : decode M.2.2.1 pc = .ok (.if_icmp .gt off, 3)) (ht : (pc : Int) + off = (tgt : Int)) (kt : y < x → aG X M R A E cs ss Qf e1 tgt lv st h) (kf : ¬ y < x → aG X M R A E cs ss Qf e2 (pc + 3) lv st h) : aG X M R A E cs ss Qf (if y < x then e1 else e2) pc lv (.int y :: .int x :: st) h := fun r hr p e s m args below meth c H locs ls B hP hS hl => lv_icmp_gt B.1 B.2.1 hd ht (fun c1 => kt c1 r (by rw [if_pos c1] at hr; exact hr) p e s m args below meth c H locs ls B hP hS hl) (fun c1 => kf c1 r (by rw [if_neg c1] at hr; exact hr) p e s m args below meth c H locs ls B hP hS hl)
theorem ro_if_le {x : Int32} {e1 e2 : Option ρ} {off : Int} {tgt : Nat} (hd : decode M.2.2.1 pc = .ok (.ifCond .le off, 3)) (ht : (pc : Int) + off = (tgt : Int)) (kt : x ≤ 0 → aG X M R A E cs ss Qf e1 tgt lv st h) (kf : ¬ x ≤ 0 → aG X M R A E cs ss Qf e2 (pc + 3) lv st h) : aG X M R A E cs ss Qf (if x ≤ 0 then e1 else e2) pc lv (.int x :: st) h := fun r hr p e s m args below meth c H locs ls B hP hS hl => lv_if_le B.1 B.2.1 hd ht (fun c1 => kt c1 r (by rw [if_pos c1] at hr; exact hr) p e s m args below meth c H locs ls B hP hS hl) (fun c1 => kf c1 r (by rw [if_neg c1] at hr; exact hr) p e s m args below meth c H locs ls B hP hS hl)
theorem ro_icmp_le {x y : Int32} {e1 e2 : Option ρ} {off : Int} {tgt : Nat} (hd : decode M.2.2.1 pc = .ok (.if_icmp .le off, 3)) (ht : (pc : Int) + off = (tgt : Int)) (kt : x ≤ y → aG X M R A E cs ss Qf e1 tgt lv st h) (kf : ¬ x ≤ y → aG X M R A E cs ss Qf e2 (pc + 3) lv st h) : aG X M R A E cs ss Qf (if x ≤ y then e1 else e2) pc lv (.int y :: .int x :: st) h := fun r hr p e s m args below meth c H locs ls B hP hS hl => lv_icmp_le B.1 B.2.1 hd ht (fun c1 => kt c1 r (by rw [if_pos c1] at hr; exact hr) p e s m args below meth c H locs ls B hP hS hl) (fun c1 => kf c1 r (by rw [if_neg c1] at hr; exact hr) p e s m args below meth c H locs ls B hP hS hl)
end Rows
