set_option maxRecDepth 100000 in
theorem fi_0 : ∀ w ∈ u_ws RX0 TX0 7, w ∈ lw_t2 := by
  intro w hw
  have hp : u_ws RX0 TX0 7 = [256, 258, 260, 262, 264, 266, 268].filterMap (fun i => lw_tbl[i]?) := by decide +kernel
  have hg : ∀ w ∈ u_ws RX0 TX0 7, goodWord w = true := by decide +kernel
  have hw0 := hw
  rw [hp] at hw
  obtain ⟨i, -, hi⟩ := List.mem_filterMap.mp hw
  exact List.mem_filter.mpr ⟨List.mem_of_getElem? hi, hg w hw0⟩
set_option maxRecDepth 100000 in
theorem fi_1 : ∀ w ∈ u_ws RX1 TX1 3, w ∈ lw_t2 := by
  intro w hw
  have hp : u_ws RX1 TX1 3 = [194, 196, 198].filterMap (fun i => lw_tbl[i]?) := by decide +kernel
  have hg : ∀ w ∈ u_ws RX1 TX1 3, goodWord w = true := by decide +kernel
  have hw0 := hw
  rw [hp] at hw
  obtain ⟨i, -, hi⟩ := List.mem_filterMap.mp hw
  exact List.mem_filter.mpr ⟨List.mem_of_getElem? hi, hg w hw0⟩
set_option maxRecDepth 100000 in
theorem fi_2 : ∀ w ∈ u_ws RX2 TX2 3, w ∈ lw_t2 := by
  intro w hw
  have hp : u_ws RX2 TX2 3 = [204, 206, 208].filterMap (fun i => lw_tbl[i]?) := by decide +kernel
  have hg : ∀ w ∈ u_ws RX2 TX2 3, goodWord w = true := by decide +kernel
  have hw0 := hw
  rw [hp] at hw
  obtain ⟨i, -, hi⟩ := List.mem_filterMap.mp hw
  exact List.mem_filter.mpr ⟨List.mem_of_getElem? hi, hg w hw0⟩
set_option maxRecDepth 100000 in
theorem fi_3 : ∀ w ∈ u_ws RX3 TX3 10, w ∈ lw_t2 := by
  intro w hw
  have hp : u_ws RX3 TX3 10 = [323, 325, 327, 329, 331, 333, 335, 337, 339, 341].filterMap (fun i => lw_tbl[i]?) := by decide +kernel
  have hg : ∀ w ∈ u_ws RX3 TX3 10, goodWord w = true := by decide +kernel
  have hw0 := hw
  rw [hp] at hw
  obtain ⟨i, -, hi⟩ := List.mem_filterMap.mp hw
  exact List.mem_filter.mpr ⟨List.mem_of_getElem? hi, hg w hw0⟩
set_option maxRecDepth 100000 in
theorem fi_4 : ∀ w ∈ u_ws RX4 TX4 4, w ∈ lw_t2 := by
  intro w hw
  have hp : u_ws RX4 TX4 4 = [148, 150, 152, 154].filterMap (fun i => lw_tbl[i]?) := by decide +kernel
  have hg : ∀ w ∈ u_ws RX4 TX4 4, goodWord w = true := by decide +kernel
  have hw0 := hw
  rw [hp] at hw
  obtain ⟨i, -, hi⟩ := List.mem_filterMap.mp hw
  exact List.mem_filter.mpr ⟨List.mem_of_getElem? hi, hg w hw0⟩
set_option maxRecDepth 100000 in
theorem fi_5 : ∀ w ∈ u_ws RX5 TX5 4, w ∈ lw_t2 := by
  intro w hw
  have hp : u_ws RX5 TX5 4 = [170, 172, 174, 176].filterMap (fun i => lw_tbl[i]?) := by decide +kernel
  have hg : ∀ w ∈ u_ws RX5 TX5 4, goodWord w = true := by decide +kernel
  have hw0 := hw
  rw [hp] at hw
  obtain ⟨i, -, hi⟩ := List.mem_filterMap.mp hw
  exact List.mem_filter.mpr ⟨List.mem_of_getElem? hi, hg w hw0⟩
set_option maxRecDepth 100000 in
theorem fi_6 : ∀ w ∈ u_ws RX6 TX6 3, w ∈ lw_t2 := by
  intro w hw
  have hp : u_ws RX6 TX6 3 = [233, 235, 237].filterMap (fun i => lw_tbl[i]?) := by decide +kernel
  have hg : ∀ w ∈ u_ws RX6 TX6 3, goodWord w = true := by decide +kernel
  have hw0 := hw
  rw [hp] at hw
  obtain ⟨i, -, hi⟩ := List.mem_filterMap.mp hw
  exact List.mem_filter.mpr ⟨List.mem_of_getElem? hi, hg w hw0⟩
set_option maxRecDepth 100000 in
theorem fi_7 : ∀ w ∈ u_ws RX7 TX7 3, w ∈ lw_t2 := by
  intro w hw
  have hp : u_ws RX7 TX7 3 = [280, 282, 284].filterMap (fun i => lw_tbl[i]?) := by decide +kernel
  have hg : ∀ w ∈ u_ws RX7 TX7 3, goodWord w = true := by decide +kernel
  have hw0 := hw
  rw [hp] at hw
  obtain ⟨i, -, hi⟩ := List.mem_filterMap.mp hw
  exact List.mem_filter.mpr ⟨List.mem_of_getElem? hi, hg w hw0⟩
set_option maxRecDepth 100000 in
theorem fi_8 : ∀ w ∈ u_ws RX8 TX8 4, w ∈ lw_t2 := by
  intro w hw
  have hp : u_ws RX8 TX8 4 = [297, 299, 301, 303].filterMap (fun i => lw_tbl[i]?) := by decide +kernel
  have hg : ∀ w ∈ u_ws RX8 TX8 4, goodWord w = true := by decide +kernel
  have hw0 := hw
  rw [hp] at hw
  obtain ⟨i, -, hi⟩ := List.mem_filterMap.mp hw
  exact List.mem_filter.mpr ⟨List.mem_of_getElem? hi, hg w hw0⟩
set_option maxRecDepth 100000 in
theorem fi_9 : ∀ w ∈ u_ws RX9 TX9 2, w ∈ lw_t2 := by
  intro w hw
  have hp : u_ws RX9 TX9 2 = [219, 221].filterMap (fun i => lw_tbl[i]?) := by decide +kernel
  have hg : ∀ w ∈ u_ws RX9 TX9 2, goodWord w = true := by decide +kernel
  have hw0 := hw
  rw [hp] at hw
  obtain ⟨i, -, hi⟩ := List.mem_filterMap.mp hw
  exact List.mem_filter.mpr ⟨List.mem_of_getElem? hi, hg w hw0⟩
set_option maxRecDepth 100000 in
theorem fi_10 : ∀ w ∈ u_ws RX10 TX10 2, w ∈ lw_t2 := by
  intro w hw
  have hp : u_ws RX10 TX10 2 = [132, 134].filterMap (fun i => lw_tbl[i]?) := by decide +kernel
  have hg : ∀ w ∈ u_ws RX10 TX10 2, goodWord w = true := by decide +kernel
  have hw0 := hw
  rw [hp] at hw
  obtain ⟨i, -, hi⟩ := List.mem_filterMap.mp hw
  exact List.mem_filter.mpr ⟨List.mem_of_getElem? hi, hg w hw0⟩
set_option maxRecDepth 100000 in
theorem fi_11 : ∀ w ∈ u_ws RX11 TX11 13, w ∈ lw_t2 := by
  intro w hw
  have hp : u_ws RX11 TX11 13 = [357, 359, 361, 363, 365, 367, 369, 371, 373, 375, 377, 379, 381].filterMap (fun i => lw_tbl[i]?) := by decide +kernel
  have hg : ∀ w ∈ u_ws RX11 TX11 13, goodWord w = true := by decide +kernel
  have hw0 := hw
  rw [hp] at hw
  obtain ⟨i, -, hi⟩ := List.mem_filterMap.mp hw
  exact List.mem_filter.mpr ⟨List.mem_of_getElem? hi, hg w hw0⟩
set_option maxRecDepth 100000 in
theorem fi_12 : ∀ w ∈ u_ws RX12 TX12 46, w ∈ lw_t2 := by
  intro w hw
  have hp : u_ws RX12 TX12 46 = [1368, 1370, 1372, 1374, 1376, 1378, 1380, 1382, 1384, 1386, 1388, 1390, 1392, 1394, 1396, 1398, 1400, 1402, 1404, 1406, 1408, 1410, 1412, 1414, 1416, 1418, 1420, 1422, 1424, 1426, 1428, 1430, 1432, 1434, 1436, 1438, 1440, 1442, 1444, 1446, 1448, 1450, 1452, 1454, 1456, 1458].filterMap (fun i => lw_tbl[i]?) := by decide +kernel
  have hg : ∀ w ∈ u_ws RX12 TX12 46, goodWord w = true := by decide +kernel
  have hw0 := hw
  rw [hp] at hw
  obtain ⟨i, -, hi⟩ := List.mem_filterMap.mp hw
  exact List.mem_filter.mpr ⟨List.mem_of_getElem? hi, hg w hw0⟩
section Rows2
variable {ρ σ : Type} {X : mu_X} {M : mu_M} {R : Room} {A : State → Nat → Prop} {E : Array Value → State → Code → Prop} {cs ss : Nat} {Qf : ρ → mu_Q} {ex : Option ρ} {pc : Nat} {lv lv' : List (Nat × Value)} {st : List Value} {h : mu_H}

theorem ro_get {ci i k index N : Nat} {fl : (Nat → Int32) → (Nat → Int64) → List Value} {C : String} {T : u_T} {v : Value} (hi : i < nn) (hc : ∀ f g, ce X i f g = .inr (ci, fl f g)) (hcl : vwCl[ci]? = some (C, T, N)) (hin : ∀ w ∈ u_ws C T N, w ∈ lw_t2) (hk : k < N) (hw : Cond.fieldLink M.1 index (T k).1 (T k).2.1 (T k).2.2.1 ∈ lw_t2) (hv : (fl (h.1 i) (h.2 i))[k]? = some v) (hd : decode M.2.2.1 pc = .ok (.getfield index, 3)) (k0 : aG X M R A E cs ss Qf ex (pc + 3) lv (v :: st) h) : aG X M R A E cs ss Qf ex pc lv (.ref (xa X i) :: st) h := fun r hr p e s m args below meth c H locs ls B hP hS hl =>
  va_get B.1 B.2.1 B.2.2.2.2.2.1 hin B.2.2.2.2.1 B.2.2.2.2.2.2.2.2.1 hP i (by rw [wo_get hi, hc]) hcl k hk (B.2.2.2.2.2.1 _ hw) (fun _ h9 => h9) hv hd (k0 r hr p e s m args below meth c H locs ls B hP hS hl)
theorem ro_put {ci i k index N : Nat} {fl : (Nat → Int32) → (Nat → Int64) → List Value} {C : String} {T : u_T} {x : Int32} {ty : FieldType} {ty0 : Nat → FieldType} (hi : i < nn) (hc : ∀ f g, ce X i f g = .inr (ci, fl f g)) (hcl : vwCl[ci]? = some (C, T, N)) (hin : ∀ w ∈ u_ws C T N, w ∈ lw_t2) (hty : ∀ k, k < N → parseFieldDescriptor (T k).2.2.1 = some (ty0 k)) (hnm : ∀ a, a < N → ∀ b, b < N → a ≠ b → (T a).2.1 ≠ (T b).2.1) (hk : k < N) (hw : Cond.fieldLink M.1 index (T k).1 (T k).2.1 (T k).2.2.1 ∈ lw_t2) (hfin : (T k).2.2.2 = false) (hdd : parseFieldDescriptor (T k).2.2.1 = some ty) (hn : narrow ty (.int x) = .int x) (hfit : fits ty (.int x) = true) (hl : k < (fl (h.1 i) (h.2 i)).length) (hset : (fl (h.1 i) (h.2 i)).set k (.int x) = fl (upd (h.1 i) k x) (h.2 i)) (hd : decode M.2.2.1 pc = .ok (.putfield index, 3)) (k0 : aG X M R A E cs ss Qf ex (pc + 3) lv st (ui h i k x)) : aG X M R A E cs ss Qf ex pc lv (.int x :: .ref (xa X i) :: st) h := fun r hr p e s m args below meth c H locs ls B hP hS hl9 =>
  va_put B.1 B.2.1 B.2.2.2.2.2.1 hin ty0 hty hnm B.2.2.2.2.1 B.2.2.2.2.2.2.2.2.1 hP (wo_D B.2.2.2.2.2.2.2.1 B.2.2.2.2.2.2.2.2.2.2.1) hS i (by rw [wo_get hi, hc]) hcl k hk (B.2.2.2.2.2.1 _ hw) (fun _ h9 => h9) hfin hdd hn hfit hl hd (fun H1 locs1 hP1 hD1 hS1 => k0 r hr p e s m args below meth c H1 locs1 ls B (by rw [hset, ← hc, wo_ur rfl] at hP1; exact hP1) hS1 ‹_›)
theorem ro_putl {ci i k index N : Nat} {fl : (Nat → Int32) → (Nat → Int64) → List Value} {C : String} {T : u_T} {x : Int64} {ty0 : Nat → FieldType} (hi : i < nn) (hc : ∀ f g, ce X i f g = .inr (ci, fl f g)) (hcl : vwCl[ci]? = some (C, T, N)) (hin : ∀ w ∈ u_ws C T N, w ∈ lw_t2) (hty : ∀ k, k < N → parseFieldDescriptor (T k).2.2.1 = some (ty0 k)) (hnm : ∀ a, a < N → ∀ b, b < N → a ≠ b → (T a).2.1 ≠ (T b).2.1) (hk : k < N) (hw : Cond.fieldLink M.1 index (T k).1 (T k).2.1 (T k).2.2.1 ∈ lw_t2) (hfin : (T k).2.2.2 = false) (hdd : parseFieldDescriptor (T k).2.2.1 = some .long) (hl : k < (fl (h.1 i) (h.2 i)).length) (hset : (fl (h.1 i) (h.2 i)).set k (.long x) = fl (h.1 i) (vp_updL (h.2 i) k x)) (hd : decode M.2.2.1 pc = .ok (.putfield index, 3)) (k0 : aG X M R A E cs ss Qf ex (pc + 3) lv st (ul h i k x)) : aG X M R A E cs ss Qf ex pc lv (.long x :: .ref (xa X i) :: st) h := fun r hr p e s m args below meth c H locs ls B hP hS hl9 =>
  va_put B.1 B.2.1 B.2.2.2.2.2.1 hin ty0 hty hnm B.2.2.2.2.1 B.2.2.2.2.2.2.2.2.1 hP (wo_D B.2.2.2.2.2.2.2.1 B.2.2.2.2.2.2.2.2.2.2.1) hS i (by rw [wo_get hi, hc]) hcl k hk (B.2.2.2.2.2.1 _ hw) (fun _ h9 => h9) hfin hdd rfl rfl hl hd (fun H1 locs1 hP1 hD1 hS1 => k0 r hr p e s m args below meth c H1 locs1 ls B (by rw [hset, ← hc, wo_ul rfl] at hP1; exact hP1) hS1 ‹_›)
theorem ro_iald {i n : Nat} {j : Int32} (hi : i < nn) (hc : ∀ f g, ce X i f g = .inl (xc X 0, n, .inl f)) (hd : decode M.2.2.1 pc = .ok (.iaload, 1)) (k : aG X M R A E cs ss Qf ex (pc + 1) lv (.int (h.1 i j.toNatClampNeg) :: st) h) : aG X M R A E cs ss Qf (gd (ix j n) ex) pc lv (.int j :: .ref (xa X i) :: st) h := fun r hr p e s m args below meth c H locs ls B hP hS hl =>
  va_iald B.1 B.2.1 B.2.2.2.2.2.2.2.2.1 hP i 0 (by rw [wo_get hi, hc]) rfl (ix_in (gd_some hr).1) hd (k r (gd_some hr).2 p e s m args below meth c H locs ls B hP hS hl)
theorem ro_bald {i n : Nat} {j : Int32} (hi : i < nn) (hc : ∀ f g, ce X i f g = .inl (xc X 1, n, .inl f)) (hd : decode M.2.2.1 pc = .ok (.baload, 1)) (k : aG X M R A E cs ss Qf ex (pc + 1) lv (.int (h.1 i j.toNatClampNeg) :: st) h) : aG X M R A E cs ss Qf (gd (ix j n) ex) pc lv (.int j :: .ref (xa X i) :: st) h := fun r hr p e s m args below meth c H locs ls B hP hS hl =>
  va_bald B.1 B.2.1 B.2.2.2.2.2.2.2.2.1 hP i 1 (by rw [wo_get hi, hc]) rfl (ix_in (gd_some hr).1) hd (k r (gd_some hr).2 p e s m args below meth c H locs ls B hP hS hl)
theorem ro_zald {i n : Nat} {j : Int32} (hi : i < nn) (hc : ∀ f g, ce X i f g = .inl (xc X 2, n, .inl f)) (hd : decode M.2.2.1 pc = .ok (.baload, 1)) (k : aG X M R A E cs ss Qf ex (pc + 1) lv (.int (h.1 i j.toNatClampNeg) :: st) h) : aG X M R A E cs ss Qf (gd (ix j n) ex) pc lv (.int j :: .ref (xa X i) :: st) h := fun r hr p e s m args below meth c H locs ls B hP hS hl =>
  va_zald B.1 B.2.1 B.2.2.2.2.2.2.2.2.1 hP i 2 (by rw [wo_get hi, hc]) rfl (ix_in (gd_some hr).1) hd (k r (gd_some hr).2 p e s m args below meth c H locs ls B hP hS hl)
theorem ro_lald {i n : Nat} {j : Int32} (hi : i < nn) (hc : ∀ f g, ce X i f g = .inl (xc X 3, n, .inr (.inl g))) (hd : decode M.2.2.1 pc = .ok (.laload, 1)) (k : aG X M R A E cs ss Qf ex (pc + 1) lv (.long (h.2 i j.toNatClampNeg) :: st) h) : aG X M R A E cs ss Qf (gd (ix j n) ex) pc lv (.int j :: .ref (xa X i) :: st) h := fun r hr p e s m args below meth c H locs ls B hP hS hl =>
  va_lald B.1 B.2.1 B.2.2.2.2.2.2.2.2.1 hP i 3 (by rw [wo_get hi, hc]) rfl (ix_in (gd_some hr).1) hd (k r (gd_some hr).2 p e s m args below meth c H locs ls B hP hS hl)
theorem ro_qald {j : Int32} (hd : decode M.2.2.1 pc = .ok (.aaload, 1)) (k : aG X M R A E cs ss Qf ex (pc + 1) lv (.ref (xa X (24 + 3 * j.toNatClampNeg)) :: st) h) : aG X M R A E cs ss Qf (gd (ix j 4) ex) pc lv (.int j :: .ref (xa X 23) :: st) h := fun r hr p e s m args below meth c H locs ls B hP hS hl =>
  va_aldq (f := fun j => some (xa X (24 + 3 * j))) B.1 B.2.1 B.2.2.2.2.2.2.2.2.1 hP 23 4 (by rw [wo_get (by decide)]; rfl) rfl (ix_in (gd_some hr).1) hd (k r (gd_some hr).2 p e s m args below meth c H locs ls B hP hS hl)
theorem ro_iast {i n : Nat} {j x : Int32} (hi : i < nn) (hc : ∀ f g, ce X i f g = .inl (xc X 0, n, .inl f)) (hd : decode M.2.2.1 pc = .ok (.iastore, 1)) (k : aG X M R A E cs ss Qf ex (pc + 1) lv st (ui h i j.toNatClampNeg x)) : aG X M R A E cs ss Qf (gd (ix j n) ex) pc lv (.int x :: .int j :: .ref (xa X i) :: st) h := fun r hr p e s m args below meth c H locs ls B hP hS hl =>
  va_iast B.1 B.2.1 B.2.2.2.2.2.2.2.2.1 hP (wo_D B.2.2.2.2.2.2.2.1 B.2.2.2.2.2.2.2.2.2.2.1) hS i 0 (by rw [wo_get hi, hc]) rfl (ix_in (gd_some hr).1) hd (fun H1 locs1 hP1 hD1 hS1 => k r (gd_some hr).2 p e s m args below meth c H1 locs1 ls B (by rw [← hc, wo_ur rfl] at hP1; exact hP1) hS1 hl)
theorem ro_bast {i n : Nat} {j x : Int32} (hi : i < nn) (hc : ∀ f g, ce X i f g = .inl (xc X 1, n, .inl f)) (hd : decode M.2.2.1 pc = .ok (.bastore, 1)) (k : aG X M R A E cs ss Qf ex (pc + 1) lv st (ui h i j.toNatClampNeg (vp_nar .byte x))) : aG X M R A E cs ss Qf (gd (ix j n) ex) pc lv (.int x :: .int j :: .ref (xa X i) :: st) h := fun r hr p e s m args below meth c H locs ls B hP hS hl =>
  va_bast B.1 B.2.1 B.2.2.2.2.2.2.2.2.1 hP (wo_D B.2.2.2.2.2.2.2.1 B.2.2.2.2.2.2.2.2.2.2.1) hS i 1 (by rw [wo_get hi, hc]) rfl (ix_in (gd_some hr).1) hd (fun H1 locs1 hP1 hD1 hS1 => k r (gd_some hr).2 p e s m args below meth c H1 locs1 ls B (by rw [← hc, wo_ur rfl] at hP1; exact hP1) hS1 hl)
theorem ro_zast {i n : Nat} {j x : Int32} (hi : i < nn) (hc : ∀ f g, ce X i f g = .inl (xc X 2, n, .inl f)) (hd : decode M.2.2.1 pc = .ok (.bastore, 1)) (k : aG X M R A E cs ss Qf ex (pc + 1) lv st (ui h i j.toNatClampNeg (vp_nar .boolean x))) : aG X M R A E cs ss Qf (gd (ix j n) ex) pc lv (.int x :: .int j :: .ref (xa X i) :: st) h := fun r hr p e s m args below meth c H locs ls B hP hS hl =>
  va_zast B.1 B.2.1 B.2.2.2.2.2.2.2.2.1 hP (wo_D B.2.2.2.2.2.2.2.1 B.2.2.2.2.2.2.2.2.2.2.1) hS i 2 (by rw [wo_get hi, hc]) rfl (ix_in (gd_some hr).1) hd (fun H1 locs1 hP1 hD1 hS1 => k r (gd_some hr).2 p e s m args below meth c H1 locs1 ls B (by rw [← hc, wo_ur rfl] at hP1; exact hP1) hS1 hl)
theorem ro_last {i n : Nat} {j : Int32} {x : Int64} (hi : i < nn) (hc : ∀ f g, ce X i f g = .inl (xc X 3, n, .inr (.inl g))) (hd : decode M.2.2.1 pc = .ok (.lastore, 1)) (k : aG X M R A E cs ss Qf ex (pc + 1) lv st (ul h i j.toNatClampNeg x)) : aG X M R A E cs ss Qf (gd (ix j n) ex) pc lv (.long x :: .int j :: .ref (xa X i) :: st) h := fun r hr p e s m args below meth c H locs ls B hP hS hl =>
  va_last B.1 B.2.1 B.2.2.2.2.2.2.2.2.1 hP (wo_D B.2.2.2.2.2.2.2.1 B.2.2.2.2.2.2.2.2.2.2.1) hS i 3 (by rw [wo_get hi, hc (h.1 i)]) rfl (ix_in (gd_some hr).1) hd (fun H1 locs1 hP1 hD1 hS1 => k r (gd_some hr).2 p e s m args below meth c H1 locs1 ls B (by rw [← hc (h.1 i), wo_ul rfl] at hP1; exact hP1) hS1 hl)
theorem ro_alen {i n t : Nat} {v : Int32} {ty : FieldType} (hi : i < nn) (hc : ∀ f g, ∃ y, ce X i f g = .inl (xc X t, n, y)) (ht : (ty_l X)[t]? = some (xc X t, ty)) (hv : Int32.ofNat n = v) (hd : decode M.2.2.1 pc = .ok (.arraylength, 1)) (k : aG X M R A E cs ss Qf ex (pc + 1) lv (.int v :: st) h) : aG X M R A E cs ss Qf ex pc lv (.ref (xa X i) :: st) h := fun r hr p e s m args below meth c H locs ls B hP hS hl => by
  obtain ⟨y, hy⟩ := hc (h.1 i) (h.2 i)
  exact va_alen (x := (n, y)) B.1 B.2.1 B.2.2.2.2.2.2.2.2.1 hP i t (by rw [wo_get hi, hy]) ht hv hd (k r hr p e s m args below meth c H locs ls B hP hS hl)
theorem ro_gets {kk index : Nat} {q : String × String × String × FieldType × List Int32} (hq : sL[kk]? = some q) (hw : Cond.fieldLink M.1 index q.1 q.2.1 q.2.2.1 ∈ lw_t2) (hd : decode M.2.2.1 pc = .ok (.getstatic index, 3)) (k : aG X M R A E cs ss Qf ex (pc + 3) lv (.ref (xs X kk) :: st) h) : aG X M R A E cs ss Qf ex pc lv st h := fun r hr p e s m args below meth c H locs ls B hP hS hl =>
  va_gets B.1 B.2.1 (B.2.2.2.2.2.2.2.2.2.1 kk q hq).1 hS B.2.2.2.2.1 (B.2.2.2.2.2.1 _ hw) (fun _ h9 => h9) hd (k r hr p e s m args below meth c H locs ls B hP hS hl)
theorem ro_ti {kk : Nat} {q : String × String × String × FieldType × List Int32} {j : Int32} (hq : sL[kk]? = some q) (hty : q.2.2.2.1 = .int) (hd : decode M.2.2.1 pc = .ok (.iaload, 1)) (k : aG X M R A E cs ss Qf ex (pc + 1) lv (.int (q.2.2.2.2.getD j.toNatClampNeg 0) :: st) h) : aG X M R A E cs ss Qf (gd (ix j q.2.2.2.2.length) ex) pc lv (.int j :: .ref (xs X kk) :: st) h := fun r hr p e s m args below meth c H locs ls B hP hS hl =>
  va_ti (t := xs X kk) B.1 B.2.1 (hty ▸ (B.2.2.2.2.2.2.2.2.2.1 kk q hq).2) hS (ix_in (gd_some hr).1) rfl hd (k r (gd_some hr).2 p e s m args below meth c H locs ls B hP hS hl)
theorem ro_tc {kk : Nat} {q : String × String × String × FieldType × List Int32} {j : Int32} (hq : sL[kk]? = some q) (hty : q.2.2.2.1 = .char) (hd : decode M.2.2.1 pc = .ok (.caload, 1)) (k : aG X M R A E cs ss Qf ex (pc + 1) lv (.int (q.2.2.2.2.getD j.toNatClampNeg 0) :: st) h) : aG X M R A E cs ss Qf (gd (ix j q.2.2.2.2.length) ex) pc lv (.int j :: .ref (xs X kk) :: st) h := fun r hr p e s m args below meth c H locs ls B hP hS hl =>
  va_tc (t := xs X kk) B.1 B.2.1 (hty ▸ (B.2.2.2.2.2.2.2.2.2.1 kk q hq).2) hS (ix_in (gd_some hr).1) rfl hd (k r (gd_some hr).2 p e s m args below meth c H locs ls B hP hS hl)
theorem ro_tlen {kk : Nat} {q : String × String × String × FieldType × List Int32} {v : Int32} (hq : sL[kk]? = some q) (hv : Int32.ofNat q.2.2.2.2.length = v) (hd : decode M.2.2.1 pc = .ok (.arraylength, 1)) (k : aG X M R A E cs ss Qf ex (pc + 1) lv (.int v :: st) h) : aG X M R A E cs ss Qf ex pc lv (.ref (xs X kk) :: st) h := fun r hr p e s m args below meth c H locs ls B hP hS hl =>
  va_tlen (t := xs X kk) B.1 B.2.1 (B.2.2.2.2.2.2.2.2.2.1 kk q hq).2 hS hv hd (k r hr p e s m args below meth c H locs ls B hP hS hl)
theorem ro_iret {r0 : ρ} {x : Int32} (hret : M.2.2.2.2 = some .int) (hq : Qf r0 = qI X x h) (hd : decode M.2.2.1 pc = .ok (.ireturn, 1)) : aG X M R (fun _ => ax X) E 0 0 Qf (some r0) pc lv [.int x] h := fun r hr p e s m args below meth c H locs ls B hP hS hl => by
  cases hr
  rw [hq]
  exact W.iret B.1 B.2.1 (B.2.2.1.trans hret) (fun t ht hW => ⟨⟨x, h, rfl, ⟨rfl, rfl⟩, by show va_P _ _ _ t.heap; rw [ht]; exact hP⟩, hS.F ht⟩) hS.2.2 hd B.2.2.2.2.2.2.1
theorem ro_zret {r0 : ρ} {x : Int32} (hz : narrow .boolean (.int x) = .int x) (hret : M.2.2.2.2 = some .boolean) (hq : Qf r0 = qI X x h) (hd : decode M.2.2.1 pc = .ok (.ireturn, 1)) : aG X M R (fun _ => ax X) E 0 0 Qf (some r0) pc lv [.int x] h := fun r hr p e s m args below meth c H locs ls B hP hS hl => by
  cases hr
  rw [hq]
  exact W.zret B.1 B.2.1 (B.2.2.1.trans hret) hz (fun t ht hW => ⟨⟨x, h, rfl, ⟨rfl, rfl⟩, by show va_P _ _ _ t.heap; rw [ht]; exact hP⟩, hS.F ht⟩) hS.2.2 hd B.2.2.2.2.2.2.1
/-- what a method that answers a boolean may return -/
def zb (x : Int32) : Bool := x == 0 || x == 1
theorem zb_nar {x : Int32} (hz : zb x = true) : narrow .boolean (.int x) = .int x := by
  simp only [zb, Bool.or_eq_true, beq_iff_eq] at hz
  rcases hz with rfl | rfl <;> rfl
theorem ro_zretg {r0 : ρ} {x : Int32} (hret : M.2.2.2.2 = some .boolean) (hq : Qf r0 = qI X x h) (hd : decode M.2.2.1 pc = .ok (.ireturn, 1)) : aG X M R (fun _ => ax X) E 0 0 Qf (gd (zb x) (some r0)) pc lv [.int x] h := fun r hr =>
  ro_zret (zb_nar (gd_some hr).1) hret hq hd r (gd_some hr).2
theorem ro_lret {r0 : ρ} {x : Int64} (hret : M.2.2.2.2 = some .long) (hq : Qf r0 = qL X x h) (hd : decode M.2.2.1 pc = .ok (.lreturn, 1)) : aG X M R (fun _ => ax X) E 0 0 Qf (some r0) pc lv [.long x] h := fun r hr p e s m args below meth c H locs ls B hP hS hl => by
  cases hr
  rw [hq]
  exact W.lret B.1 B.2.1 (B.2.2.1.trans hret) (fun t ht hW => ⟨⟨x, h, rfl, ⟨rfl, rfl⟩, by show va_P _ _ _ t.heap; rw [ht]; exact hP⟩, hS.F ht⟩) hS.2.2 hd B.2.2.2.2.2.2.1
theorem ro_vret {r0 : ρ} (hret : M.2.2.2.2 = none) (hq : Qf r0 = qV X h) (hd : decode M.2.2.1 pc = .ok (.return_, 1)) : aG X M R (fun _ => ax X) E 0 0 Qf (some r0) pc lv [] h := fun r hr p e s m args below meth c H locs ls B hP hS hl => by
  cases hr
  rw [hq]
  exact W.vret B.1 B.2.1 (B.2.2.1.trans hret) (fun t ht hW => ⟨⟨h, rfl, rfl, by show va_P _ _ _ t.heap; rw [ht]; exact hP⟩, hS.F ht⟩) hS.2.2 hd B.2.2.2.2.2.2.1
theorem ro_rret {r0 : ρ} {i : Nat} {C : String} (hret : M.2.2.2.2 = some (.object C)) (hq : Qf r0 = qR X i h) (hd : decode M.2.2.1 pc = .ok (.areturn, 1)) : aG X M R (fun _ => ax X) E 0 0 Qf (some r0) pc lv [.ref (xa X i)] h := fun r hr p e s m args below meth c H locs ls B hP hS hl => by
  cases hr
  rw [hq]
  exact W.aret B.1 B.2.1 (B.2.2.1.trans hret) (Or.inl ⟨C, rfl⟩) (Or.inr ⟨_, rfl⟩) (fun t ht hW => ⟨⟨h, xa X i, rfl, rfl, rfl, by show va_P _ _ _ t.heap; rw [ht]; exact hP⟩, hS.F ht⟩) hS.2.2 hd B.2.2.2.2.2.2.1
theorem lw_good : ∀ w ∈ lw_t2, (w.onTables && w.keeps) = true ∨ ∃ ty, w = .arrayClass ty := by
  intro w hw
  exact good_of_word (List.mem_filter.mp hw).2
/-- the words of a callee -/
def mOKv (M : mu_M) (n : Nat) : Prop := Cond.instanceMethod M.2.1 ∈ lw_t2 ∧ Cond.selects M.2.1.cls M.2.1 M.2.1 ∈ lw_t2 ∧ Cond.initialized M.2.1.cls ∈ lw_t2 ∧ Cond.code M.2.1 M.2.2.1 M.2.2.2.1 M.2.2.2.2 ∈ lw_t2 ∧ (M.2.1.cls ≠ "java/lang/invoke/MethodHandle" ∧ M.2.1.cls ≠ "java/lang/invoke/VarHandle" ∧ (parseMethodDescriptor M.2.1.desc).map (fun d => d.parameters.length) = some n)
def mOKs (M : mu_M) (n : Nat) : Prop := Cond.static M.2.1 ∈ lw_t2 ∧ Cond.initialized M.2.1.cls ∈ lw_t2 ∧ Cond.code M.2.1 M.2.2.1 M.2.2.2.1 M.2.2.2.2 ∈ lw_t2 ∧ (M.2.1.cls ≠ "java/lang/invoke/MethodHandle" ∧ M.2.1.cls ≠ "java/lang/invoke/VarHandle" ∧ (parseMethodDescriptor M.2.1.desc).map (fun d => d.parameters.length) = some n)
theorem mws_good {M : mu_M} (hc : Cond.code M.2.1 M.2.2.1 M.2.2.2.1 M.2.2.2.2 ∈ lw_t2) : GoodIn lw_t2 (mws M) := by
  intro w hw
  rcases List.mem_cons.mp hw with rfl | h
  · exact ⟨hc, lw_good _ hc⟩
  · exact ⟨h, lw_good _ h⟩
theorem wl_blind {avs : List Value} : FrameBlind (va_Pc avs (wl X h)) := fun a U g mk q =>
  ⟨q.1, q.2.1, q.2.2.1, va_K.moved (u := U) (U := U.calling g mk a) (Vm.Alike.refl U.vm) q.2.2.2.1, xS.moved (u := U) (U := U.calling g mk a) (Vm.Alike.refl U.vm) q.2.2.2.2⟩
theorem wl_of {p : Program} {s : State} {m : MethodId} {args : Array Value} {meth : Method} {c : Code} {H : Heap} {locs : List Loc} (B : mB X M A E p s m args meth c) (hP : va_P X.2.1 vwCl (wo X h) H) (hS : va_S (A s) s.heap H locs) {avs : List Value} : ∀ U : State, U.heap = H → s.WarmedH U.vm → va_Pc avs (wl X h) avs.toArray U := fun U hU hW =>
  ⟨rfl, B.2.2.2.2.2.2.2.1, by rw [hU]; exact hP, va_K.moved hW.alike B.2.2.2.2.2.2.2.2.1, by
    rw [hU]
    exact ((B.2.2.2.2.2.2.2.2.2.1.kept hS.2.1).moved hW.alike).narrow (fun q ⟨i, hi, e⟩ => e ▸ B.2.2.2.2.2.2.2.2.2.2.1 i hi)⟩
theorem ax_in {p : Program} {s : State} {m : MethodId} {args : Array Value} {meth : Method} {c : Code} (B : mB X M A E p s m args meth c) : ∀ q, ax X q → A s q := fun q ⟨i, hi, e⟩ => e ▸ B.2.2.2.2.2.2.2.2.2.2.1 i hi
theorem bind_some {α : Type} {F : Option α} {g : α → Option ρ} {r : ρ} (hr : F.bind g = some r) : ∃ q, F = some q ∧ g q = some r := Option.bind_eq_some_iff.mp hr
theorem ro_cvI {Mc : mu_M} {kc idx n : Nat} {avs stk : List Value} {i ci N : Nat} {fl : (Nat → Int32) → (Nat → Int64) → List Value} {T : u_T} {F : Option (Int32 × mu_H)} {g : Int32 → mu_H → Option ρ} (hok : mOKv Mc n) (hw : Cond.methodLink M.1 idx Mc.2.1 ∈ lw_t2) (hi : i < nn) (hc : ∀ f g, ce X i f g = .inr (ci, fl f g)) (hcl : vwCl[ci]? = some (Mc.2.1.cls, T, N)) (hR : kc + 1 ≤ R.frames ∧ 8 + (Mc.2.2.2.1 + 11) + 60 * kc ≤ R.locals) (hcs : cs ≤ R.cells ∧ ss ≤ R.slots) (hrun : ∀ r, F = some r → mI X Mc kc (.ref (xa X i) :: avs) h r.1 r.2) (hn : avs.length = n) (hstk : stk = avs.reverse ++ .ref (xa X i) :: st) (hcat : (st.map fun v => v.category).sum ≤ 8) (hd : decode M.2.2.1 pc = .ok (.invokevirtual idx, 3)) (kk : ∀ x h2, aG X M R A E cs ss Qf (g x h2) (pc + 3) lv (.int x :: st) h2) : aG X M R A E cs ss Qf (bi F g) pc lv stk h := fun r hr p e s m args below meth c H locs ls B hP hS hl => by
  subst hstk
  obtain ⟨q, hF, hg⟩ := bind_some hr
  refine va_calli (va_runV (As := avs) (rest := st) ⟨B.1, B.2.1, B.2.2.2.1, B.2.2.2.2.1, B.2.2.2.2.2.1⟩ (hrun q hF) ⟨callB_of n B.2.2.2.2.2.1 (mws_good hok.2.2.2.1) rfl rfl rfl (B.2.2.2.2.2.1 _ hok.2.2.1) (B.2.2.2.2.2.1 _ hw) hok.2.2.2.2 hR, B.2.2.2.2.2.1 _ hok.1, B.2.2.2.2.2.1 _ hok.2.1⟩ ⟨wl_blind, va_recv B.2.2.2.2.2.2.2.2.1 hP hcl (q0 := i) (by rw [wo_get hi, hc]), wl_of B hP hS⟩ rfl hn (hl.1) rfl (lv_room hcat) hd ⟨hcs.1, hcs.2⟩) hS (fun q _ h => ax_in B q h) (ax_in B) (fun x u t H1 locs1 ht hvm hw1 hB hz hk hS1 => ?_)
  obtain ⟨e1, e2⟩ := hw1
  rw [e2] at hB
  rw [e1]
  have hP1 : va_P X.2.1 vwCl (wo X _) t.heap := hB
  rw [ht] at hP1
  exact kk q.1 q.2 r hg p e s m args below meth c H1 locs1 ls B hP1 hS1 hl
theorem ro_csI {Mc : mu_M} {kc idx n : Nat} {avs stk : List Value} {F : Option (Int32 × mu_H)} {g : Int32 → mu_H → Option ρ} (hok : mOKs Mc n) (hw : Cond.methodLink M.1 idx Mc.2.1 ∈ lw_t2) (hR : kc + 1 ≤ R.frames ∧ 8 + (Mc.2.2.2.1 + 11) + 60 * kc ≤ R.locals) (hcs : cs ≤ R.cells ∧ ss ≤ R.slots) (hrun : ∀ r, F = some r → mI X Mc kc (avs) h r.1 r.2) (hn : avs.length = n) (hstk : stk = avs.reverse ++ st) (hcat : (st.map fun v => v.category).sum ≤ 8) (hd : decode M.2.2.1 pc = .ok (.invokestatic idx, 3)) (kk : ∀ x h2, aG X M R A E cs ss Qf (g x h2) (pc + 3) lv (.int x :: st) h2) : aG X M R A E cs ss Qf (bi F g) pc lv stk h := fun r hr p e s m args below meth c H locs ls B hP hS hl => by
  subst hstk
  obtain ⟨q, hF, hg⟩ := bind_some hr
  refine va_calli (va_runS (As := avs) (rest := st) ⟨B.1, B.2.1, B.2.2.2.1, B.2.2.2.2.1, B.2.2.2.2.2.1⟩ (hrun q hF) ⟨callB_of n B.2.2.2.2.2.1 (mws_good hok.2.2.1) rfl rfl rfl (B.2.2.2.2.2.1 _ hok.2.1) (B.2.2.2.2.2.1 _ hw) hok.2.2.2 hR, B.2.2.2.2.2.1 _ hok.1⟩ ⟨wl_blind, wl_of B hP hS⟩ rfl hn (hl.1) rfl (lv_room hcat) hd ⟨hcs.1, hcs.2⟩) hS (fun q _ h => ax_in B q h) (ax_in B) (fun x u t H1 locs1 ht hvm hw1 hB hz hk hS1 => ?_)
  obtain ⟨e1, e2⟩ := hw1
  rw [e2] at hB
  rw [e1]
  have hP1 : va_P X.2.1 vwCl (wo X _) t.heap := hB
  rw [ht] at hP1
  exact kk q.1 q.2 r hg p e s m args below meth c H1 locs1 ls B hP1 hS1 hl
theorem ro_cvV {Mc : mu_M} {kc idx n : Nat} {avs stk : List Value} {i ci N : Nat} {fl : (Nat → Int32) → (Nat → Int64) → List Value} {T : u_T} {F : Option mu_H} {g : mu_H → Option ρ} (hok : mOKv Mc n) (hw : Cond.methodLink M.1 idx Mc.2.1 ∈ lw_t2) (hi : i < nn) (hc : ∀ f g, ce X i f g = .inr (ci, fl f g)) (hcl : vwCl[ci]? = some (Mc.2.1.cls, T, N)) (hR : kc + 1 ≤ R.frames ∧ 8 + (Mc.2.2.2.1 + 11) + 60 * kc ≤ R.locals) (hcs : cs ≤ R.cells ∧ ss ≤ R.slots) (hrun : ∀ r, F = some r → mV X Mc kc (.ref (xa X i) :: avs) h r) (hn : avs.length = n) (hstk : stk = avs.reverse ++ .ref (xa X i) :: st) (hcat : (st.map fun v => v.category).sum ≤ 8) (hd : decode M.2.2.1 pc = .ok (.invokevirtual idx, 3)) (kk : ∀ h2, aG X M R A E cs ss Qf (g h2) (pc + 3) lv st h2) : aG X M R A E cs ss Qf (F.bind g) pc lv stk h := fun r hr p e s m args below meth c H locs ls B hP hS hl => by
  subst hstk
  obtain ⟨q, hF, hg⟩ := bind_some hr
  refine va_callv (va_runV (As := avs) (rest := st) ⟨B.1, B.2.1, B.2.2.2.1, B.2.2.2.2.1, B.2.2.2.2.2.1⟩ (hrun q hF) ⟨callB_of n B.2.2.2.2.2.1 (mws_good hok.2.2.2.1) rfl rfl rfl (B.2.2.2.2.2.1 _ hok.2.2.1) (B.2.2.2.2.2.1 _ hw) hok.2.2.2.2 hR, B.2.2.2.2.2.1 _ hok.1, B.2.2.2.2.2.1 _ hok.2.1⟩ ⟨wl_blind, va_recv B.2.2.2.2.2.2.2.2.1 hP hcl (q0 := i) (by rw [wo_get hi, hc]), wl_of B hP hS⟩ rfl hn (hl.1) rfl (lv_room hcat) hd ⟨hcs.1, hcs.2⟩) hS (fun q _ h => ax_in B q h) (ax_in B) (fun u t H1 locs1 ht hvm hw1 hB hz hk hS1 => ?_)
  rw [hw1] at hB
  have hP1 : va_P X.2.1 vwCl (wo X _) t.heap := hB
  rw [ht] at hP1
  exact kk q r hg p e s m args below meth c H1 locs1 ls B hP1 hS1 hl
theorem ro_csV {Mc : mu_M} {kc idx n : Nat} {avs stk : List Value} {F : Option mu_H} {g : mu_H → Option ρ} (hok : mOKs Mc n) (hw : Cond.methodLink M.1 idx Mc.2.1 ∈ lw_t2) (hR : kc + 1 ≤ R.frames ∧ 8 + (Mc.2.2.2.1 + 11) + 60 * kc ≤ R.locals) (hcs : cs ≤ R.cells ∧ ss ≤ R.slots) (hrun : ∀ r, F = some r → mV X Mc kc (avs) h r) (hn : avs.length = n) (hstk : stk = avs.reverse ++ st) (hcat : (st.map fun v => v.category).sum ≤ 8) (hd : decode M.2.2.1 pc = .ok (.invokestatic idx, 3)) (kk : ∀ h2, aG X M R A E cs ss Qf (g h2) (pc + 3) lv st h2) : aG X M R A E cs ss Qf (F.bind g) pc lv stk h := fun r hr p e s m args below meth c H locs ls B hP hS hl => by
  subst hstk
  obtain ⟨q, hF, hg⟩ := bind_some hr
  refine va_callv (va_runS (As := avs) (rest := st) ⟨B.1, B.2.1, B.2.2.2.1, B.2.2.2.2.1, B.2.2.2.2.2.1⟩ (hrun q hF) ⟨callB_of n B.2.2.2.2.2.1 (mws_good hok.2.2.1) rfl rfl rfl (B.2.2.2.2.2.1 _ hok.2.1) (B.2.2.2.2.2.1 _ hw) hok.2.2.2 hR, B.2.2.2.2.2.1 _ hok.1⟩ ⟨wl_blind, wl_of B hP hS⟩ rfl hn (hl.1) rfl (lv_room hcat) hd ⟨hcs.1, hcs.2⟩) hS (fun q _ h => ax_in B q h) (ax_in B) (fun u t H1 locs1 ht hvm hw1 hB hz hk hS1 => ?_)
  rw [hw1] at hB
  have hP1 : va_P X.2.1 vwCl (wo X _) t.heap := hB
  rw [ht] at hP1
  exact kk q r hg p e s m args below meth c H1 locs1 ls B hP1 hS1 hl
theorem ro_cvP {Mc : mu_M} {kc idx n : Nat} {avs stk : List Value} {i ci N : Nat} {fl : (Nat → Int32) → (Nat → Int64) → List Value} {T : u_T} {F : Option Int32} {g : Int32 → Option ρ} (hok : mOKv Mc n) (hw : Cond.methodLink M.1 idx Mc.2.1 ∈ lw_t2) (hi : i < nn) (hc : ∀ f g, ce X i f g = .inr (ci, fl f g)) (hcl : vwCl[ci]? = some (Mc.2.1.cls, T, N)) (hR : kc + 1 ≤ R.frames ∧ 8 + (Mc.2.2.2.1 + 11) + 60 * kc ≤ R.locals) (hcs : cs ≤ R.cells ∧ ss ≤ R.slots) (hrun : ∀ r, F = some r → mI X Mc kc (.ref (xa X i) :: avs) h r h) (hn : avs.length = n) (hstk : stk = avs.reverse ++ .ref (xa X i) :: st) (hcat : (st.map fun v => v.category).sum ≤ 8) (hd : decode M.2.2.1 pc = .ok (.invokevirtual idx, 3)) (kk : ∀ x, aG X M R A E cs ss Qf (g x) (pc + 3) lv (.int x :: st) h) : aG X M R A E cs ss Qf (F.bind g) pc lv stk h := fun r hr p e s m args below meth c H locs ls B hP hS hl => by
  subst hstk
  obtain ⟨q, hF, hg⟩ := bind_some hr
  refine va_calli (va_runV (As := avs) (rest := st) ⟨B.1, B.2.1, B.2.2.2.1, B.2.2.2.2.1, B.2.2.2.2.2.1⟩ (hrun q hF) ⟨callB_of n B.2.2.2.2.2.1 (mws_good hok.2.2.2.1) rfl rfl rfl (B.2.2.2.2.2.1 _ hok.2.2.1) (B.2.2.2.2.2.1 _ hw) hok.2.2.2.2 hR, B.2.2.2.2.2.1 _ hok.1, B.2.2.2.2.2.1 _ hok.2.1⟩ ⟨wl_blind, va_recv B.2.2.2.2.2.2.2.2.1 hP hcl (q0 := i) (by rw [wo_get hi, hc]), wl_of B hP hS⟩ rfl hn (hl.1) rfl (lv_room hcat) hd ⟨hcs.1, hcs.2⟩) hS (fun q _ h => ax_in B q h) (ax_in B) (fun x u t H1 locs1 ht hvm hw1 hB hz hk hS1 => ?_)
  obtain ⟨e1, e2⟩ := hw1
  rw [e2] at hB
  rw [e1]
  have hP1 : va_P X.2.1 vwCl (wo X _) t.heap := hB
  rw [ht] at hP1
  exact kk q r hg p e s m args below meth c H1 locs1 ls B hP1 hS1 hl
theorem ro_csP {Mc : mu_M} {kc idx n : Nat} {avs stk : List Value} {F : Option Int32} {g : Int32 → Option ρ} (hok : mOKs Mc n) (hw : Cond.methodLink M.1 idx Mc.2.1 ∈ lw_t2) (hR : kc + 1 ≤ R.frames ∧ 8 + (Mc.2.2.2.1 + 11) + 60 * kc ≤ R.locals) (hcs : cs ≤ R.cells ∧ ss ≤ R.slots) (hrun : ∀ r, F = some r → mI X Mc kc (avs) h r h) (hn : avs.length = n) (hstk : stk = avs.reverse ++ st) (hcat : (st.map fun v => v.category).sum ≤ 8) (hd : decode M.2.2.1 pc = .ok (.invokestatic idx, 3)) (kk : ∀ x, aG X M R A E cs ss Qf (g x) (pc + 3) lv (.int x :: st) h) : aG X M R A E cs ss Qf (F.bind g) pc lv stk h := fun r hr p e s m args below meth c H locs ls B hP hS hl => by
  subst hstk
  obtain ⟨q, hF, hg⟩ := bind_some hr
  refine va_calli (va_runS (As := avs) (rest := st) ⟨B.1, B.2.1, B.2.2.2.1, B.2.2.2.2.1, B.2.2.2.2.2.1⟩ (hrun q hF) ⟨callB_of n B.2.2.2.2.2.1 (mws_good hok.2.2.1) rfl rfl rfl (B.2.2.2.2.2.1 _ hok.2.1) (B.2.2.2.2.2.1 _ hw) hok.2.2.2 hR, B.2.2.2.2.2.1 _ hok.1⟩ ⟨wl_blind, wl_of B hP hS⟩ rfl hn (hl.1) rfl (lv_room hcat) hd ⟨hcs.1, hcs.2⟩) hS (fun q _ h => ax_in B q h) (ax_in B) (fun x u t H1 locs1 ht hvm hw1 hB hz hk hS1 => ?_)
  obtain ⟨e1, e2⟩ := hw1
  rw [e2] at hB
  rw [e1]
  have hP1 : va_P X.2.1 vwCl (wo X _) t.heap := hB
  rw [ht] at hP1
  exact kk q r hg p e s m args below meth c H1 locs1 ls B hP1 hS1 hl
theorem ro_cvL {Mc : mu_M} {kc idx n : Nat} {avs stk : List Value} {i ci N : Nat} {fl : (Nat → Int32) → (Nat → Int64) → List Value} {T : u_T} {F : Option Int64} {g : Int64 → Option ρ} (hok : mOKv Mc n) (hw : Cond.methodLink M.1 idx Mc.2.1 ∈ lw_t2) (hi : i < nn) (hc : ∀ f g, ce X i f g = .inr (ci, fl f g)) (hcl : vwCl[ci]? = some (Mc.2.1.cls, T, N)) (hR : kc + 1 ≤ R.frames ∧ 8 + (Mc.2.2.2.1 + 11) + 60 * kc ≤ R.locals) (hcs : cs ≤ R.cells ∧ ss ≤ R.slots) (hrun : ∀ r, F = some r → mL X Mc kc (.ref (xa X i) :: avs) h r h) (hn : avs.length = n) (hstk : stk = avs.reverse ++ .ref (xa X i) :: st) (hcat : (st.map fun v => v.category).sum ≤ 8) (hd : decode M.2.2.1 pc = .ok (.invokevirtual idx, 3)) (kk : ∀ x, aG X M R A E cs ss Qf (g x) (pc + 3) lv (.long x :: st) h) : aG X M R A E cs ss Qf (F.bind g) pc lv stk h := fun r hr p e s m args below meth c H locs ls B hP hS hl => by
  subst hstk
  obtain ⟨q, hF, hg⟩ := bind_some hr
  refine va_calll (va_runV (As := avs) (rest := st) ⟨B.1, B.2.1, B.2.2.2.1, B.2.2.2.2.1, B.2.2.2.2.2.1⟩ (hrun q hF) ⟨callB_of n B.2.2.2.2.2.1 (mws_good hok.2.2.2.1) rfl rfl rfl (B.2.2.2.2.2.1 _ hok.2.2.1) (B.2.2.2.2.2.1 _ hw) hok.2.2.2.2 hR, B.2.2.2.2.2.1 _ hok.1, B.2.2.2.2.2.1 _ hok.2.1⟩ ⟨wl_blind, va_recv B.2.2.2.2.2.2.2.2.1 hP hcl (q0 := i) (by rw [wo_get hi, hc]), wl_of B hP hS⟩ rfl hn (hl.1) rfl (lv_room hcat) hd ⟨hcs.1, hcs.2⟩) hS (fun q _ h => ax_in B q h) (ax_in B) (fun x u t H1 locs1 ht hvm hw1 hB hz hk hS1 => ?_)
  obtain ⟨e1, e2⟩ := hw1
  rw [e2] at hB
  rw [e1]
  have hP1 : va_P X.2.1 vwCl (wo X _) t.heap := hB
  rw [ht] at hP1
  exact kk q r hg p e s m args below meth c H1 locs1 ls B hP1 hS1 hl
theorem ro_csL {Mc : mu_M} {kc idx n : Nat} {avs stk : List Value} {F : Option Int64} {g : Int64 → Option ρ} (hok : mOKs Mc n) (hw : Cond.methodLink M.1 idx Mc.2.1 ∈ lw_t2) (hR : kc + 1 ≤ R.frames ∧ 8 + (Mc.2.2.2.1 + 11) + 60 * kc ≤ R.locals) (hcs : cs ≤ R.cells ∧ ss ≤ R.slots) (hrun : ∀ r, F = some r → mL X Mc kc (avs) h r h) (hn : avs.length = n) (hstk : stk = avs.reverse ++ st) (hcat : (st.map fun v => v.category).sum ≤ 8) (hd : decode M.2.2.1 pc = .ok (.invokestatic idx, 3)) (kk : ∀ x, aG X M R A E cs ss Qf (g x) (pc + 3) lv (.long x :: st) h) : aG X M R A E cs ss Qf (F.bind g) pc lv stk h := fun r hr p e s m args below meth c H locs ls B hP hS hl => by
  subst hstk
  obtain ⟨q, hF, hg⟩ := bind_some hr
  refine va_calll (va_runS (As := avs) (rest := st) ⟨B.1, B.2.1, B.2.2.2.1, B.2.2.2.2.1, B.2.2.2.2.2.1⟩ (hrun q hF) ⟨callB_of n B.2.2.2.2.2.1 (mws_good hok.2.2.1) rfl rfl rfl (B.2.2.2.2.2.1 _ hok.2.1) (B.2.2.2.2.2.1 _ hw) hok.2.2.2 hR, B.2.2.2.2.2.1 _ hok.1⟩ ⟨wl_blind, wl_of B hP hS⟩ rfl hn (hl.1) rfl (lv_room hcat) hd ⟨hcs.1, hcs.2⟩) hS (fun q _ h => ax_in B q h) (ax_in B) (fun x u t H1 locs1 ht hvm hw1 hB hz hk hS1 => ?_)
  obtain ⟨e1, e2⟩ := hw1
  rw [e2] at hB
  rw [e1]
  have hP1 : va_P X.2.1 vwCl (wo X _) t.heap := hB
  rw [ht] at hP1
  exact kk q r hg p e s m args below meth c H1 locs1 ls B hP1 hS1 hl
theorem ro_cvR {Mc : mu_M} {kc idx n : Nat} {avs stk : List Value} {i ci N : Nat} {fl : (Nat → Int32) → (Nat → Int64) → List Value} {T : u_T} {i2 : Nat} (hok : mOKv Mc n) (hw : Cond.methodLink M.1 idx Mc.2.1 ∈ lw_t2) (hi : i < nn) (hc : ∀ f g, ce X i f g = .inr (ci, fl f g)) (hcl : vwCl[ci]? = some (Mc.2.1.cls, T, N)) (hR : kc + 1 ≤ R.frames ∧ 8 + (Mc.2.2.2.1 + 11) + 60 * kc ≤ R.locals) (hcs : cs ≤ R.cells ∧ ss ≤ R.slots) (hrun : mR X Mc kc (.ref (xa X i) :: avs) h i2 h) (hn : avs.length = n) (hstk : stk = avs.reverse ++ .ref (xa X i) :: st) (hcat : (st.map fun v => v.category).sum ≤ 8) (hd : decode M.2.2.1 pc = .ok (.invokevirtual idx, 3)) (kk : aG X M R A E cs ss Qf ex (pc + 3) lv (.ref (xa X i2) :: st) h) : aG X M R A E cs ss Qf ex pc lv stk h := fun r hr p e s m args below meth c H locs ls B hP hS hl => by
  subst hstk
  refine va_callr (va_runV (As := avs) (rest := st) ⟨B.1, B.2.1, B.2.2.2.1, B.2.2.2.2.1, B.2.2.2.2.2.1⟩ hrun ⟨callB_of n B.2.2.2.2.2.1 (mws_good hok.2.2.2.1) rfl rfl rfl (B.2.2.2.2.2.1 _ hok.2.2.1) (B.2.2.2.2.2.1 _ hw) hok.2.2.2.2 hR, B.2.2.2.2.2.1 _ hok.1, B.2.2.2.2.2.1 _ hok.2.1⟩ ⟨wl_blind, va_recv B.2.2.2.2.2.2.2.2.1 hP hcl (q0 := i) (by rw [wo_get hi, hc]), wl_of B hP hS⟩ rfl hn (hl.1) rfl (lv_room hcat) hd ⟨hcs.1, hcs.2⟩) hS (fun q _ h => ax_in B q h) (ax_in B) (fun u ra t H1 locs1 ht hvm hw1 hB hz hk hS1 => ?_)
  rw [hw1] at hB
  obtain ⟨e1, hB⟩ := hB
  rw [e1]
  have hP1 : va_P X.2.1 vwCl (wo X _) t.heap := hB
  rw [ht] at hP1
  exact kk r hr p e s m args below meth c H1 locs1 ls B hP1 hS1 hl
theorem mI_of {k : Nat} {avs : List Value} {r : Int32} {h' : mu_H} (hp : plainName M.2.1.cls = true) (hown : M.1 = M.2.1.cls) (hlen : (lg_sl avs).length ≤ M.2.2.2.1) (hlv : lv_args 0 avs = lv) (K : aW X M (rmk k) (fun _ => ax X) (fun _ _ _ => True) 0 0 (qI X r h') 0 lv [] h) : mI X M k avs h r h' := by
  refine Met.ofW (cc := M.2.2.1) (maxL := M.2.2.2.1) (ret := M.2.2.2.2) hp rfl ?_
  intro p e s m args below meth c s₁ B hml hv
  obtain ⟨rfl, hj, hP, hK, hS⟩ := hv
  have hts := atoms_spec (ws := mws M) B.pre
  have hl := lv_entry avs (n := M.2.2.2.1) hlen
  rw [lg_entry_eq]
  rw [hlv] at hl
  exact K p e s m _ below meth c s.heap [] _ ⟨B.exec, B.bytes, B.returns, hml, by rw [hown]; exact findClass_of_methodNamed B.named, fun w hw => hts w (List.mem_cons_of_mem _ hw), B.notSynchronized, hj, hK, hS, fun i hi => ⟨i, hi, rfl⟩, trivial⟩ hP va_S.rf hl
theorem mV_of {k : Nat} {avs : List Value} {h' : mu_H} (hp : plainName M.2.1.cls = true) (hown : M.1 = M.2.1.cls) (hlen : (lg_sl avs).length ≤ M.2.2.2.1) (hlv : lv_args 0 avs = lv) (K : aW X M (rmk k) (fun _ => ax X) (fun _ _ _ => True) 0 0 (qV X h') 0 lv [] h) : mV X M k avs h h' := by
  refine Met.ofW (cc := M.2.2.1) (maxL := M.2.2.2.1) (ret := M.2.2.2.2) hp rfl ?_
  intro p e s m args below meth c s₁ B hml hv
  obtain ⟨rfl, hj, hP, hK, hS⟩ := hv
  have hts := atoms_spec (ws := mws M) B.pre
  have hl := lv_entry avs (n := M.2.2.2.1) hlen
  rw [lg_entry_eq]
  rw [hlv] at hl
  exact K p e s m _ below meth c s.heap [] _ ⟨B.exec, B.bytes, B.returns, hml, by rw [hown]; exact findClass_of_methodNamed B.named, fun w hw => hts w (List.mem_cons_of_mem _ hw), B.notSynchronized, hj, hK, hS, fun i hi => ⟨i, hi, rfl⟩, trivial⟩ hP va_S.rf hl
theorem mL_of {k : Nat} {avs : List Value} {r : Int64} {h' : mu_H} (hp : plainName M.2.1.cls = true) (hown : M.1 = M.2.1.cls) (hlen : (lg_sl avs).length ≤ M.2.2.2.1) (hlv : lv_args 0 avs = lv) (K : aW X M (rmk k) (fun _ => ax X) (fun _ _ _ => True) 0 0 (qL X r h') 0 lv [] h) : mL X M k avs h r h' := by
  refine Met.ofW (cc := M.2.2.1) (maxL := M.2.2.2.1) (ret := M.2.2.2.2) hp rfl ?_
  intro p e s m args below meth c s₁ B hml hv
  obtain ⟨rfl, hj, hP, hK, hS⟩ := hv
  have hts := atoms_spec (ws := mws M) B.pre
  have hl := lv_entry avs (n := M.2.2.2.1) hlen
  rw [lg_entry_eq]
  rw [hlv] at hl
  exact K p e s m _ below meth c s.heap [] _ ⟨B.exec, B.bytes, B.returns, hml, by rw [hown]; exact findClass_of_methodNamed B.named, fun w hw => hts w (List.mem_cons_of_mem _ hw), B.notSynchronized, hj, hK, hS, fun i hi => ⟨i, hi, rfl⟩, trivial⟩ hP va_S.rf hl
theorem mR_of {k : Nat} {avs : List Value} {r : Nat} {h' : mu_H} (hp : plainName M.2.1.cls = true) (hown : M.1 = M.2.1.cls) (hlen : (lg_sl avs).length ≤ M.2.2.2.1) (hlv : lv_args 0 avs = lv) (K : aW X M (rmk k) (fun _ => ax X) (fun _ _ _ => True) 0 0 (qR X r h') 0 lv [] h) : mR X M k avs h r h' := by
  refine Met.ofW (cc := M.2.2.1) (maxL := M.2.2.2.1) (ret := M.2.2.2.2) hp rfl ?_
  intro p e s m args below meth c s₁ B hml hv
  obtain ⟨rfl, hj, hP, hK, hS⟩ := hv
  have hts := atoms_spec (ws := mws M) B.pre
  have hl := lv_entry avs (n := M.2.2.2.1) hlen
  rw [lg_entry_eq]
  rw [hlv] at hl
  exact K p e s m _ below meth c s.heap [] _ ⟨B.exec, B.bytes, B.returns, hml, by rw [hown]; exact findClass_of_methodNamed B.named, fun w hw => hts w (List.mem_cons_of_mem _ hw), B.notSynchronized, hj, hK, hS, fun i hi => ⟨i, hi, rfl⟩, trivial⟩ hP va_S.rf hl
end Rows2
