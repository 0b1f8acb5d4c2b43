/-! reading a law: clauses -/
section Claus
variable {N z n : Nat} {T : Nat → Nat} {hc0 hm0 hS h : mu_H}
def fl_t : List Cla → List Tok
  | [] => []
  | c :: r => c.1 ++ c.2 ++ fl_t r
theorem flt_snoc : ∀ (cl : List Cla) (c : Cla), fl_t (cl ++ [c]) = fl_t cl ++ (c.1 ++ c.2) := by
  intro cl
  induction cl with
  | nil => intro c; show c.1 ++ c.2 ++ [] = [] ++ (c.1 ++ c.2); rw [List.append_nil, List.nil_append]
  | cons d r ih => intro c; show d.1 ++ d.2 ++ fl_t (r ++ [c]) = d.1 ++ d.2 ++ fl_t r ++ (c.1 ++ c.2); simp only [ih, List.append_assoc]
theorem lay_snoc : ∀ (cl : List Cla) (p : Nat) (c : Cla), lay p (cl ++ [c]) = lay p cl ++ ofC (p + (lay p cl).length) c := by
  intro cl
  induction cl with
  | nil => intro p c; show ofC p c ++ [] = [] ++ ofC (p + 0) c; rw [List.append_nil, List.nil_append]; rfl
  | cons d r ih =>
    intro p c
    show ofC p d ++ lay (p + (ofC p d).length) (r ++ [c]) = ofC p d ++ lay (p + (ofC p d).length) r ++ ofC (p + (ofC p d ++ lay (p + (ofC p d).length) r).length) c
    rw [ih, List.append_assoc, List.length_append, Nat.add_assoc]
def mix (n : Nat) (TF SF ST : Nat → Int32) : Nat → Nat → List Cla → Prop
  | _, _, [] => True
  | q, i, c :: r => TF (140 * n + i) = nI q ∧ SF (140 * n + i) = nI (q + c.1.length) ∧ ST (140 * n + i) = nI (q + c.1.length + c.2.length) ∧ mix n TF SF ST (q + c.1.length + c.2.length) (i + 1) r
theorem mix_snoc {TF SF ST : Nat → Int32} : ∀ (cl : List Cla) (q i : Nat) (c : Cla), mix n TF SF ST q i cl → TF (140 * n + (i + cl.length)) = nI (q + (fl_t cl).length) → SF (140 * n + (i + cl.length)) = nI (q + (fl_t cl).length + c.1.length) → ST (140 * n + (i + cl.length)) = nI (q + (fl_t cl).length + c.1.length + c.2.length) → mix n TF SF ST q i (cl ++ [c]) := by
  intro cl
  induction cl with
  | nil => intro q i c _ h1 h2 h3; exact ⟨h1, h2, h3, trivial⟩
  | cons d r ih =>
    intro q i c hm h1 h2 h3
    obtain ⟨a1, a2, a3, a4⟩ := hm
    have l : (fl_t (d :: r)).length = d.1.length + d.2.length + (fl_t r).length := by
      show (d.1 ++ d.2 ++ fl_t r).length = _
      rw [List.length_append, List.length_append]
    rw [l, List.length_cons] at h1 h2 h3
    refine ⟨a1, a2, a3, ih _ _ c a4 ?_ ?_ ?_⟩
    · rw [show i + 1 + r.length = i + (r.length + 1) by omega, h1]; congr 1; omega
    · rw [show i + 1 + r.length = i + (r.length + 1) by omega, h2]; congr 1; omega
    · rw [show i + 1 + r.length = i + (r.length + 1) by omega, h3]; congr 1; omega
theorem mix_cg {TF SF ST TF' SF' ST' : Nat → Int32} : ∀ (cl : List Cla) (q i : Nat), mix n TF SF ST q i cl → (∀ k, k < i + cl.length → TF' (140 * n + k) = TF (140 * n + k) ∧ SF' (140 * n + k) = SF (140 * n + k) ∧ ST' (140 * n + k) = ST (140 * n + k)) → mix n TF' SF' ST' q i cl := by
  intro cl
  induction cl with
  | nil => intro q i _ _; trivial
  | cons d r ih =>
    intro q i hm hk
    obtain ⟨a1, a2, a3, a4⟩ := hm
    obtain ⟨b1, b2, b3⟩ := hk i (by rw [List.length_cons]; omega)
    exact ⟨b1.trans a1, b2.trans a2, b3.trans a3, ih _ _ a4 (fun k hk' => hk k (by rw [List.length_cons]; omega))⟩
theorem mlay_of {C V TF SF ST : Nat → Int32} : ∀ (cl : List Cla) (q i : Nat), mix n TF SF ST q i cl → toks C V (520 * n + q) (fl_t cl) → mlay n C V TF SF ST q i cl := by
  intro cl
  induction cl with
  | nil => intro q i _ _; trivial
  | cons d r ih =>
    intro q i hm ht
    obtain ⟨a1, a2, a3, a4⟩ := hm
    have ht : toks C V (520 * n + q) (d.1 ++ d.2 ++ fl_t r) := ht
    rw [tk_app] at ht
    refine ⟨a1, a2, a3, ht.1, ih _ _ a4 ?_⟩
    have := ht.2
    rw [List.length_append] at this
    rw [show 520 * n + (q + d.1.length + d.2.length) = 520 * n + q + (d.1.length + d.2.length) by omega]
    exact this
def MG (n : Nat) (h0 h : mu_H) : Prop := sM [53, 54, 55, 56, 57, 58, 59] [3, 4, 5, 14] h0 h ∧ (∀ i, i < 520 * n → h.1 53 i = h0.1 53 i ∧ h.1 54 i = h0.1 54 i) ∧ (∀ i, i < 140 * n → h.1 57 i = h0.1 57 i ∧ h.1 58 i = h0.1 58 i ∧ h.1 59 i = h0.1 59 i) ∧ ∀ j, j < n → h.1 56 j = h0.1 56 j
theorem MG_refl : MG n h h := ⟨sM_refl, fun _ _ => ⟨rfl, rfl⟩, fun _ _ => ⟨rfl, rfl, rfl⟩, fun _ _ => rfl⟩
theorem MG_trans {h' h'' : mu_H} (a : MG n h h') (b : MG n h' h'') : MG n h h'' := ⟨sM_trans a.1 b.1, fun i hi => ⟨(b.2.1 i hi).1.trans (a.2.1 i hi).1, (b.2.1 i hi).2.trans (a.2.1 i hi).2⟩, fun i hi => ⟨(b.2.2.1 i hi).1.trans (a.2.2.1 i hi).1, (b.2.2.1 i hi).2.1.trans (a.2.2.1 i hi).2.1, (b.2.2.1 i hi).2.2.trans (a.2.2.1 i hi).2.2⟩, fun j hj => (b.2.2.2 j hj).trans (a.2.2.2 j hj)⟩
theorem MG_F {h' : mu_H} (a : MF n h h') : MG n h h' := by
  refine ⟨sM_mono a.1 (by decide) (by decide), a.2, fun i _ => ⟨?_, ?_, ?_⟩, fun j _ => ?_⟩
  · rw [a.1.1 57 (by decide) (by decide)]
  · rw [a.1.1 58 (by decide) (by decide)]
  · rw [a.1.1 59 (by decide) (by decide)]
  · rw [a.1.1 56 (by decide) (by decide)]
theorem MG_5 {k : Nat} {x : Int32} (hk : k ∈ [3, 4, 5, 14]) : MG n h (ui h 51 k x) := by
  refine ⟨sM_u5 hk, fun i _ => ⟨?_, ?_⟩, fun i _ => ⟨?_, ?_, ?_⟩, fun j _ => ?_⟩ <;> rw [ui_n (by decide)]
theorem MG_57 {k : Nat} {x : Int32} (hk : 140 * n ≤ k) : MG n h (ui h 57 k x) := by
  refine ⟨sM_ui (by decide) (by decide), fun i _ => ⟨?_, ?_⟩, fun i hi => ⟨?_, ?_, ?_⟩, fun j _ => ?_⟩
  · rw [ui_n (by decide)]
  · rw [ui_n (by decide)]
  · rw [ui_s, upd_n (by omega)]
  · rw [ui_n (by decide)]
  · rw [ui_n (by decide)]
  · rw [ui_n (by decide)]
theorem MG_58 {k : Nat} {x : Int32} (hk : 140 * n ≤ k) : MG n h (ui h 58 k x) := by
  refine ⟨sM_ui (by decide) (by decide), fun i _ => ⟨?_, ?_⟩, fun i hi => ⟨?_, ?_, ?_⟩, fun j _ => ?_⟩
  · rw [ui_n (by decide)]
  · rw [ui_n (by decide)]
  · rw [ui_n (by decide)]
  · rw [ui_s, upd_n (by omega)]
  · rw [ui_n (by decide)]
  · rw [ui_n (by decide)]
theorem MG_59 {k : Nat} {x : Int32} (hk : 140 * n ≤ k) : MG n h (ui h 59 k x) := by
  refine ⟨sM_ui (by decide) (by decide), fun i _ => ⟨?_, ?_⟩, fun i hi => ⟨?_, ?_, ?_⟩, fun j _ => ?_⟩
  · rw [ui_n (by decide)]
  · rw [ui_n (by decide)]
  · rw [ui_n (by decide)]
  · rw [ui_n (by decide)]
  · rw [ui_s, upd_n (by omega)]
  · rw [ui_n (by decide)]
theorem MG_56 {x : Int32} : MG n h (ui h 56 n x) := by
  refine ⟨sM_ui (by decide) (by decide), fun i _ => ⟨?_, ?_⟩, fun i hi => ⟨?_, ?_, ?_⟩, fun j hj => ?_⟩
  · rw [ui_n (by decide)]
  · rw [ui_n (by decide)]
  · rw [ui_n (by decide)]
  · rw [ui_n (by decide)]
  · rw [ui_n (by decide)]
  · rw [ui_s, upd_n (by omega)]
theorem MG_55 {x : Int32} : MG n h (ui h 55 n x) := by
  refine ⟨sM_ui (by decide) (by decide), fun i _ => ⟨?_, ?_⟩, fun i hi => ⟨?_, ?_, ?_⟩, fun j hj => ?_⟩ <;> rw [ui_n (by decide)]
/-- an error, at the clauses -/
def GE (hS : mu_H) (n : Nat) (h : mu_H) (e : Nat) : Prop := MG n hS h ∧ h.1 51 4 = nI e ∧ h.1 51 14 = nI n
theorem GE_E {h' : mu_H} {e b : Nat} (hG : MG n hS h) (hE : ME h n h' e b) : GE hS n h' e := ⟨MG_trans hG (MG_F hE.1), hE.2.1, hE.2.2.1⟩
theorem GE_3 {e : Nat} {x : Int32} (hE : GE hS n h e) : GE hS n (ui h 51 3 x) e := ⟨MG_trans hE.1 (MG_5 (by decide)), by rw [u5_n (by decide)]; exact hE.2.1, by rw [u5_n (by decide)]; exact hE.2.2⟩
theorem GE_w {e : Nat} (hE : GE hS n h e) (he : e < 1000) : (h.1 51 4 = -1) = False := by rw [hE.2.1, neg1 (by omega)]
theorem MS_re {h' : mu_H} {p d : Nat} {ts : List Tok} (hM : MS hm0 n h p d ts) (e1 : h'.1 51 = h.1 51) (e3 : h'.1 53 = h.1 53) (e4 : h'.1 54 = h.1 54) (e5 : h'.1 55 = h.1 55) : MS h' n h' p d ts := by
  obtain ⟨-, b, c, e, f, g, i⟩ := hM
  exact ⟨MF_refl, by rw [e1]; exact b, by rw [e1]; exact c, by rw [e1]; exact e, by rw [e1]; exact f, by rw [e5]; exact g, by rw [e3, e4]; exact i⟩
theorem MS_se {p d : Nat} {ts : List Tok} (hM : MS hm0 n h p d ts) : MS h n h p d ts := MS_re hM rfl rfl rfl rfl
def LW (hS : mu_H) (n : Nat) (h : mu_H) (p : Nat) (cl : List Cla) : Prop := MG n hS h ∧ MS h n h p 0 (fl_t cl) ∧ h.1 56 n = nI cl.length ∧ mix n (h.1 57) (h.1 58) (h.1 59) 0 0 cl
def J19 (x1 : Int32) (h20 : mu_H) : Option mu_H := gd (ix (h20.1 51 14) 5) <| gd (ix x1 700) <| bn (ui h20 59 x1.toNatClampNeg (h20.1 55 (h20.1 51 14).toNatClampNeg)) fun h21 => gd (ix (h21.1 51 14) 5) <| gd (ix (h21.1 51 14) 5) <| bn (ui h21 56 (h21.1 51 14).toNatClampNeg ((h21.1 56 (h21.1 51 14).toNatClampNeg) + 1)) fun h22 => some h22
def J15 (N : Nat) (x1 x16 : Int32) (h17 : mu_H) : Option mu_H := gd (ix x1 700) <| gd (ix x1 700) <| bn (ui h17 58 x1.toNatClampNeg (h17.1 57 x1.toNatClampNeg)) fun h18 =>
  if x16 = 0 then J19 x1 h18 else
  if h18.1 51 4 = (-1) then
    bi (f_Mod_look N h18) fun x23 h24 =>
    if x23 = 63 then
      bn (ui h24 51 3 ((h24.1 51 3) + 1)) fun h26 =>
      gd (ix (h26.1 51 14) 5) <|
      gd (ix x1 700) <|
      bn (ui h26 58 x1.toNatClampNeg (h26.1 55 (h26.1 51 14).toNatClampNeg)) fun h27 =>
      (f_Mod_sum N h27).bind fun h28 => J19 x1 h28
    else (f_Mod_bad N h24).bind fun h29 => some h29
  else J19 x1 h18
def J12 (N : Nat) (x1 x13 : Int32) (h14 : mu_H) : Option mu_H :=
  if x13 = 0 then
    (f_Mod_sum N h14).bind fun h30 =>
    if h30.1 51 4 = (-1) then
      bi (f_Mod_look N h30) fun x39 h40 =>
      (f_Mod_isSign N h40 x39).bind fun x42 =>
      if x42 = 0 then J15 N x1 0 h40 else
        (f_Mod_compare N h40).bind fun h34 => (f_Mod_goOnAnd N h34).bind fun h35 => (f_Mod_goOnOr N h35).bind fun h36 => J15 N x1 1 h36
    else J15 N x1 0 h30
  else (f_Mod_condition N h14).bind fun h43 => J15 N x1 x13 h43
def M5 (N : Nat) (x1 : Int32) (h6 : mu_H) : Option mu_H := bn (ui h6 51 3 ((h6.1 51 3) + 1)) fun h7 =>
  if h7.1 51 4 = (-1) then
    gd (ix (h7.1 51 14) 5) <|
    gd (ix x1 700) <|
    bn (ui h7 57 x1.toNatClampNeg (h7.1 55 (h7.1 51 14).toNatClampNeg)) fun h8 =>
    bi (f_Mod_look N h8) fun x9 h10 =>
    if x9 = 33 then J12 N x1 1 h10 else
      bi (f_Mod_look N h10) fun x46 h47 => if x46 = 40 then J12 N x1 1 h47 else J12 N x1 0 h47
  else some h7
def M2 (N : Nat) (x1 : Int32) (h3 : mu_H) : Option mu_H := bn (ui h3 51 3 ((h3.1 51 3) + 1)) fun h4 =>
  if h4.1 51 4 = (-1) then
    bi (f_Mod_look N h4) fun x49 h50 => if x49 = 58 then M5 N x1 h50 else (f_Mod_bad N h50).bind fun h52 => M5 N x1 h52
  else M5 N x1 h4
theorem cl_m : f_Mod_clause N h = (gd (ix (h.1 51 14) 5) <| bn ((140 * (h.1 51 14)) + (h.1 56 (h.1 51 14).toNatClampNeg)) fun x1 => if h.1 51 4 = (-1) then bi (f_Mod_look N h) fun x53 h54 => if x53 = 121 then M2 N x1 h54 else (f_Mod_bad N h54).bind fun h56 => M2 N x1 h56 else M2 N x1 h) := rfl
def K15 (N : Nat) (x11 : Int32) (h16 : mu_H) : Option (Int32 × mu_H) := bi (f_LRd_readCondition N h16 0 x11) fun x17 h18 => if x17 = 0 then some (0, h18) else bi (f_LRd_skip N h18 63) fun x20 h21 => if x20 = 0 then some (0, h21) else (f_Law_size N h21 11).bind fun x23 => (f_Law_add N h21 11 (-1000)).bind fun h24 => bi (f_LRd_readSum N h24 0) fun x25 h26 => if x25 = 0 then some (0, h26) else (f_Law_add N h26 11 (-59)).bind fun h28 => (f_Law_leapFrom N h28 11 x23).bind fun h29 => some (1, h29)
def K13 (N : Nat) (x11 : Int32) (h14 : mu_H) : Option (Int32 × mu_H) := if x11 = 0 then K15 N x11 h14 else bi (f_LRd_next N h14) fun x30 h31 => (f_LRd_isComparison N h31 x30).bind fun x33 => if x33 = 0 then (f_Law_add N h31 11 (-59)).bind fun h34 => some (1, h34) else K15 N x11 h31
def K10 (N : Nat) (x11 : Int32) (h12 : mu_H) : Option (Int32 × mu_H) := if x11 = 0 then K13 N x11 h12 else bi (f_LRd_readSum N h12 0) fun x35 h36 => if x35 = 0 then some (0, h36) else K13 N x11 h36
def K5 (N : Nat) (h5 : mu_H) : Option (Int32 × mu_H) := bi (f_LRd_next N h5) fun x7 h8 => if x7 = 33 then K10 N 0 h8 else bi (f_LRd_next N h8) fun x40 h41 => if x40 = 40 then K10 N 0 h41 else K10 N 1 h41
theorem cl_c : f_LRd_readClause N h = (bi (f_LRd_skip N h 121) fun x1 h2 => if x1 = 0 then some (0, h2) else bi (f_LRd_skip N h2 58) fun x4 h5 => if x4 = 0 then some (0, h5) else K5 N h5) := rfl
theorem CS_leap {p : Nat} {A B : List Int32} {x : Int32} (hC : CS hc0 h p (A ++ x :: B)) (hl : (A ++ x :: B).length ≤ 240) : ∃ h', f_Law_leapFrom N h 11 (nI A.length) = some h' ∧ CS hc0 h' p (A ++ (-1000 - nI (A ++ x :: B).length) :: B) := by
  obtain ⟨a, b, c, d⟩ := hC
  have l : (A ++ x :: B).length = A.length + (B.length + 1) := by rw [List.length_append, List.length_cons]
  refine ⟨ui h 12 A.length (-1000 - nI (A ++ x :: B).length), ?_, sc_trans a (sc_ui (by decide)), by rw [ui_n (by decide)]; exact b, ?_, ?_⟩
  · rw [f_Law_leapFrom, if_neg (nI_pos (by omega)), c, if_neg (fun q => by have := (nI_leI (by omega) (by omega)).mp q; omega), ix_nI (by omega) (by decide), gd_t, bn_eq, nI_clamp (by omega)]
  · rw [ui_n (by decide), c, List.length_append, List.length_append, List.length_cons, List.length_cons]
  · rw [ui_s, At_app, At_cons]
    rw [At_app, At_cons] at d
    refine ⟨fun i hi => ?_, by rw [Nat.zero_add, upd_s], fun i hi => ?_⟩
    · rw [upd_n (by omega)]; exact d.1 i hi
    · rw [upd_n (by omega)]; exact d.2.2 i hi
theorem fin_e {e k : Nat} (hE : GE hS n h e) (hn : n ≤ 4) (hk : 140 * n ≤ k) (hk2 : k < 700) : ∃ h', J19 (nI k) h = some h' ∧ GE hS n h' e := by
  obtain ⟨g, w, t⟩ := hE
  have i1 : ix (nI n) 5 = true := ix_nI (by omega) (by decide)
  have i2 : ix (nI k) 700 = true := ix_nI hk2 (by decide)
  have c1 := nI_clamp (show n < 2147483648 by omega)
  have c2 := nI_clamp (show k < 2147483648 by omega)
  refine ⟨ui (ui h 59 k (h.1 55 n)) 56 n ((ui h 59 k (h.1 55 n)).1 56 n + 1), ?_, MG_trans g (MG_trans (MG_59 hk) MG_56), ?_, ?_⟩
  · have n1 : (ui h 59 k (h.1 55 n)).1 51 14 = nI n := by rw [ui_n (by decide)]; exact t
    simp only [J19, t, i1, i2, gd_t, bn_eq, c1, c2, n1]
  · rw [ui_n (by decide), ui_n (by decide)]; exact w
  · rw [ui_n (by decide), ui_n (by decide)]; exact t
theorem fin_s {p : Nat} {cl : List Cla} {c : Cla} (hn : n ≤ 4) (hl : cl.length < 140) (hG : MG n hS h) (hM : MS hm0 n h p 0 (fl_t cl ++ (c.1 ++ c.2))) (h56 : h.1 56 n = nI cl.length) (hx : mix n (h.1 57) (h.1 58) (h.1 59) 0 0 cl) (h57 : h.1 57 (140 * n + cl.length) = nI (fl_t cl).length) (h58 : h.1 58 (140 * n + cl.length) = nI ((fl_t cl).length + c.1.length)) : ∃ h', J19 (nI (140 * n + cl.length)) h = some h' ∧ LW hS n h' p (cl ++ [c]) := by
  have t := hM.2.2.2.2.1
  have h55 := hM.2.2.2.2.2.1
  have i1 : ix (nI n) 5 = true := ix_nI (by omega) (by decide)
  have i2 : ix (nI (140 * n + cl.length)) 700 = true := ix_nI (by omega) (by decide)
  have c1 := nI_clamp (show n < 2147483648 by omega)
  have c2 := nI_clamp (show 140 * n + cl.length < 2147483648 by omega)
  have l : (fl_t cl ++ (c.1 ++ c.2)).length = (fl_t cl).length + c.1.length + c.2.length := by rw [List.length_append, List.length_append, Nat.add_assoc]
  rw [l] at h55
  refine ⟨ui (ui h 59 (140 * n + cl.length) (nI ((fl_t cl).length + c.1.length + c.2.length))) 56 n (nI (cl.length + 1)), ?_, MG_trans hG (MG_trans (MG_59 (by omega)) MG_56), ?_, ?_, ?_⟩
  · have n1 : (ui h 59 (140 * n + cl.length) (nI ((fl_t cl).length + c.1.length + c.2.length))).1 51 14 = nI n := by rw [ui_n (by decide)]; exact t
    have n2 : (ui h 59 (140 * n + cl.length) (nI ((fl_t cl).length + c.1.length + c.2.length))).1 56 n = nI cl.length := by rw [ui_n (by decide)]; exact h56
    simp only [J19, t, i1, i2, gd_t, bn_eq, c1, c2, n1, n2, h55, nI_1]
  · rw [flt_snoc]
    exact MS_re hM (by rw [ui_n (by decide), ui_n (by decide)]) (by rw [ui_n (by decide), ui_n (by decide)]) (by rw [ui_n (by decide), ui_n (by decide)]) (by rw [ui_n (by decide), ui_n (by decide)])
  · rw [ui_s, upd_s, List.length_append]; rfl
  · rw [ui_n (by decide), ui_n (by decide), ui_n (by decide), ui_n (by decide), ui_n (by decide), ui_s]
    refine mix_snoc cl 0 0 c (mix_cg cl 0 0 hx (fun k hk => ⟨rfl, rfl, ?_⟩)) ?_ ?_ ?_
    · rw [upd_n (by omega)]
    · rw [Nat.zero_add, Nat.zero_add]; exact h57
    · rw [Nat.zero_add, Nat.zero_add]; exact h58
    · rw [Nat.zero_add, Nat.zero_add, upd_s]
theorem M5_e {e : Nat} {x1 : Int32} (hE : GE hS n h e) (he : e < 1000) : ∃ h', M5 N x1 h = some h' ∧ GE hS n h' e := by
  have E2 := GE_3 (x := h.1 51 3 + 1) hE
  refine ⟨_, ?_, E2⟩
  simp only [M5, bn_eq, GE_w E2 he, ↓reduceIte]
theorem M2_e {e : Nat} {x1 : Int32} (hE : GE hS n h e) (he : e < 1000) : ∃ h', M2 N x1 h = some h' ∧ GE hS n h' e := by
  have E2 := GE_3 (x := h.1 51 3 + 1) hE
  obtain ⟨h', e1, E3⟩ := M5_e (N := N) (x1 := x1) E2 he
  refine ⟨h', ?_, E3⟩
  simp only [M2, bn_eq, GE_w E2 he, ↓reduceIte, e1]
/-- what comes of a clause -/
def RC (hc0 hS : mu_H) (z n : Nat) (X : Option (Int32 × mu_H)) (Y : Option mu_H) (p : Nat) (cl : List Cla) : Prop :=
  (∃ e hc' hm', e ≤ z ∧ X = some (0, hc') ∧ Y = some hm' ∧ CE hc0 hc' e ∧ GE hS n hm' e) ∨
  (∃ q c hc' hm', q ≤ z ∧ p + 2 ≤ q ∧ X = some (1, hc') ∧ Y = some hm' ∧ CS hc0 hc' q (lay 0 (cl ++ [c])) ∧ LW hS n hm' q (cl ++ [c]) ∧ okC c ∧ (lay 0 (cl ++ [c])).length ≤ q ∧ (fl_t (cl ++ [c])).length ≤ q)
end Claus
