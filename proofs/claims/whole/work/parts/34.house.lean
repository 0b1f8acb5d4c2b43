theorem dX11_house_0 : decode cX11_house 0 = .ok (.aload_n 0, 1) := by decide +kernel
theorem dX11_house_1 : decode cX11_house 1 = .ok (.getfield 19, 3) := by decide +kernel
theorem dX11_house_4 : decode cX11_house 4 = .ok (.iload_n 1, 1) := by decide +kernel
theorem dX11_house_5 : decode cX11_house 5 = .ok (.invokevirtual 155, 3) := by decide +kernel
theorem dX11_house_8 : decode cX11_house 8 = .ok (.ifCond .ne 13, 3) := by decide +kernel
theorem dX11_house_11 : decode cX11_house 11 = .ok (.new 158, 3) := by decide +kernel
theorem dX11_house_14 : decode cX11_house 14 = .ok (.dup, 1) := by decide +kernel
theorem dX11_house_15 : decode cX11_house 15 = .ok (.ldc 160, 2) := by decide +kernel
theorem dX11_house_17 : decode cX11_house 17 = .ok (.invokespecial 162, 3) := by decide +kernel
theorem dX11_house_20 : decode cX11_house 20 = .ok (.athrow, 1) := by decide +kernel
theorem dX11_house_21 : decode cX11_house 21 = .ok (.iload_n 2, 1) := by decide +kernel
theorem dX11_house_22 : decode cX11_house 22 = .ok (.tableswitch 82 0 4 #[34, 44, 54, 64, 73], 34) := by decide +kernel
theorem dX11_house_56 : decode cX11_house 56 = .ok (.aload_n 0, 1) := by decide +kernel
theorem dX11_house_57 : decode cX11_house 57 = .ok (.getfield 19, 3) := by decide +kernel
theorem dX11_house_60 : decode cX11_house 60 = .ok (.iload_n 1, 1) := by decide +kernel
theorem dX11_house_61 : decode cX11_house 61 = .ok (.iconst 0, 1) := by decide +kernel
theorem dX11_house_62 : decode cX11_house 62 = .ok (.invokevirtual 165, 3) := by decide +kernel
theorem dX11_house_65 : decode cX11_house 65 = .ok (.ireturn, 1) := by decide +kernel
theorem dX11_house_66 : decode cX11_house 66 = .ok (.aload_n 0, 1) := by decide +kernel
theorem dX11_house_67 : decode cX11_house 67 = .ok (.getfield 19, 3) := by decide +kernel
theorem dX11_house_70 : decode cX11_house 70 = .ok (.iload_n 1, 1) := by decide +kernel
theorem dX11_house_71 : decode cX11_house 71 = .ok (.iconst 1, 1) := by decide +kernel
theorem dX11_house_72 : decode cX11_house 72 = .ok (.invokevirtual 165, 3) := by decide +kernel
theorem dX11_house_75 : decode cX11_house 75 = .ok (.ireturn, 1) := by decide +kernel
theorem dX11_house_76 : decode cX11_house 76 = .ok (.aload_n 0, 1) := by decide +kernel
theorem dX11_house_77 : decode cX11_house 77 = .ok (.getfield 19, 3) := by decide +kernel
theorem dX11_house_80 : decode cX11_house 80 = .ok (.iload_n 1, 1) := by decide +kernel
theorem dX11_house_81 : decode cX11_house 81 = .ok (.iconst 2, 1) := by decide +kernel
theorem dX11_house_82 : decode cX11_house 82 = .ok (.invokevirtual 165, 3) := by decide +kernel
theorem dX11_house_85 : decode cX11_house 85 = .ok (.ireturn, 1) := by decide +kernel
theorem dX11_house_86 : decode cX11_house 86 = .ok (.aload_n 0, 1) := by decide +kernel
theorem dX11_house_87 : decode cX11_house 87 = .ok (.getfield 42, 3) := by decide +kernel
theorem dX11_house_90 : decode cX11_house 90 = .ok (.iload_n 1, 1) := by decide +kernel
theorem dX11_house_91 : decode cX11_house 91 = .ok (.invokevirtual 168, 3) := by decide +kernel
theorem dX11_house_94 : decode cX11_house 94 = .ok (.ireturn, 1) := by decide +kernel
theorem dX11_house_95 : decode cX11_house 95 = .ok (.aload_n 0, 1) := by decide +kernel
theorem dX11_house_96 : decode cX11_house 96 = .ok (.getfield 42, 3) := by decide +kernel
theorem dX11_house_99 : decode cX11_house 99 = .ok (.iload_n 1, 1) := by decide +kernel
theorem dX11_house_100 : decode cX11_house 100 = .ok (.invokevirtual 171, 3) := by decide +kernel
theorem dX11_house_103 : decode cX11_house 103 = .ok (.ireturn, 1) := by decide +kernel
theorem dX11_house_104 : decode cX11_house 104 = .ok (.new 158, 3) := by decide +kernel
theorem dX11_house_107 : decode cX11_house 107 = .ok (.dup, 1) := by decide +kernel
theorem dX11_house_108 : decode cX11_house 108 = .ok (.ldc 174, 2) := by decide +kernel
theorem dX11_house_110 : decode cX11_house 110 = .ok (.invokespecial 162, 3) := by decide +kernel
theorem dX11_house_113 : decode cX11_house 113 = .ok (.athrow, 1) := by decide +kernel
section NyThrow
variable {p : Program} {l : Launch} {e : Env} {R : Room} {s : State} {m : MethodId} {args : Array Value} {below : List Frame} {meth : Method} {c : Code} {H : Heap} {locs : List Loc} {cells slots : Nat} {Q : State → Prop}
variable {Qc : Array Value → State → Outcome → State → Prop} {XC : String → State → State → Prop} {free : Addr → Prop} {ls : Array Slot} {rest : List Value}
set_option maxHeartbeats 1000000 in
theorem ny_throw {cc : ByteArray} {pc : Nat} (hexec : p.tables.exec = Jvm.exec) (hb : c.code = cc) (hl : l.stackTraces = false) {text : String} {is mc ms sa : Nat} {A : Nat → Prop}
    (hown : s.vm.findClass RX11 = some m.cls) (hk : (Cond.classLink RX11 158 ny_C).before args s = true) (hini : (Cond.initialized ny_C).before args s = true) (hstr : vk_R RX11 is text sa s) (hat : ∀ w ∈ ny_A.filter vx_no, w.before args s = true)
    (hU : vx_Zq Bundle.tN "UNASSIGNED_STACK" Bundle.steD A s s.heap) (hN : vx_Zq Bundle.tN "SUPPRESSED_SENTINEL" Bundle.listD A s s.heap) (hS : va_S A s.heap H locs) (hsize : ls.size = c.maxLocals)
    (d0 : decode cc pc = .ok (.new 158, 3)) (d3 : decode cc (pc + 3) = .ok (.dup, 1)) (d4 : decode cc (pc + 4) = .ok (.ldc is, 2)) (d6 : decode cc (pc + 6) = .ok (.invokespecial 162, 3)) (d9 : decode cc (pc + 9) = .ok (.athrow, 1))
    (hout : ∀ x ∈ c.exceptionTable.toList, covers x (pc + 9) = false)
    (hRframes : 5 < R.frames) (hRlocals : (rest.map fun v => v.category).sum + 82 ≤ R.locals) (hRcells : cells + 1 ≤ R.cells) (hRslots : slots + 6 ≤ R.slots) (hlocks : meth.locks = false)
    (hx : ∀ t : State, s.vm.Alike t.vm → H.size ≤ t.heap.size → (∀ q : Nat, q < H.size → t.heap[q]? = H[q]?) → XC ny_C s t)
    (hf : ∀ z ∈ locs, free z.base) (hc : cells + 1 ≤ mc) (hs : slots + 6 ≤ ms) :
    W p l e R s m args below meth c H locs cells slots (vx_MQ below Qc XC args s mc ms free) (F0 m pc ls rest) := by
  intro T hT X
  have htr : e.platform.stackTraces = false := (show e.platform.stackTraces = l.stackTraces by rw [X.admits.platform]).trans hl
  have Y := vx_rebase X (R' := { frames := R.frames, locals := R.locals, cells := 1, slots := 6 }) (Nat.le_refl _) (Nat.le_refl _) hRcells hRslots
  obtain ⟨s', hA⟩ : ∃ z, z = (T.setVm s.vm).setFrames (.invoking m args :: below) := ⟨_, rfl⟩
  rw [← hA] at Y
  have hvm : s'.vm = s.vm := by rw [hA]; rfl
  have hhp : s'.heap = H := by rw [hA]; exact hT
  have hW0 : s.WarmedH s'.vm := by rw [hvm]; exact State.WarmedH.refl s
  have hat' : ∀ w ∈ ny_A.filter vx_no, w.before args s' = true := fun w hw => vx_ot_at hW0 hvm.symm (List.all_eq_true.mp ny_o w hw) (hat w hw)
  have hk' : (Cond.classLink RX11 158 ny_C).before args s' = true := vx_ot_at hW0 hvm.symm rfl hk
  have hini' : (Cond.initialized ny_C).before args s' = true := vx_ot_at hW0 hvm.symm rfl hini
  have hU' : vx_Zq Bundle.tN "UNASSIGNED_STACK" Bundle.steD A s' s'.heap := by rw [hhp]; exact vx_Zq.moved hW0.alike (hU.kept hS.2.1)
  have hN' : vx_Zq Bundle.tN "SUPPRESSED_SENTINEL" Bundle.listD A s' s'.heap := by rw [hhp]; exact vx_Zq.moved hW0.alike (hN.kept hS.2.1)
  have h : ∀ w ∈ ny_A, w.before args s' = true := vx_own hat' (vx_isRefq hU'.1) (vx_isRefq hN'.1) hU'.2.word hN'.2.word
  have hown' : s'.vm.findClass RX11 = some m.cls := by rw [hvm]; exact hown
  have hins : (Cond.instantiable ny_C 6).before args s' = true := h _ (by decide +kernel)
  obtain ⟨vm₁, cX, kX, hfX, hkX, -, -, X₁, st1⟩ := Y.newCold hexec (own := RX11) (C := ny_C) (index := 158) (n := 6) hown' hk' hins hini'
    (g := F0 m pc ls rest) rfl (by rw [hb]; exact d0) (Nat.le_refl _) (Nat.le_refl _)
  generalize hT1 : (T.setVm vm₁).pushCell { cls := cX, slots := kX.instanceTypes.map defaultValue, vm := .none } = T1 at X₁ st1
  have hcat : (Value.ref T.heap.size).category = 1 := rfl
  have hcellA : T1.heap[T.heap.size]? = some (freshCell cX kX) := by rw [← hT1]; exact State.heap_pushCell_size _ _
  have d3' : decode c.code (pc + 3) = .ok (.dup, 1) := by rw [hb]; exact d3
  have d4' : decode c.code (pc + 4) = .ok (.ldc is, 2) := by rw [hb]; exact d4
  have hstr' : vk_R RX11 is text sa s' := vk_R.warm hW0 hstr
  obtain ⟨U, hsteps, hrun, hend, hW, hsame, ce, hce, hcv, hcc⟩ := ny_ctor X₁ hexec htr hown' h (fun x hx => nomatch hx) hfX hkX hcellA (by rw [hhp, hT]; exact Nat.le_refl _) (msg := .ref sa) rfl
    (g := { method := m, pc := pc + 6, locals := ls, stack := .ref sa :: .ref T.heap.size :: .ref T.heap.size :: rest, locked := none }) rfl hsize rfl rfl (rest := rest) rfl
    (by rw [hb]; exact d6) (by rw [hb]; exact d9) hout hRframes (by
      have h0 : 2 * JFrame.monitorRoom { method := m, pc := pc + 6, locals := ls, stack := .ref sa :: .ref T.heap.size :: .ref T.heap.size :: rest, locked := none } = 0 := rfl
      simp only [List.map_cons, List.sum_cons, hcat]; omega) hlocks
  obtain ⟨f1, f2⟩ := vx_frame hsame
  rw [hhp] at f1 f2
  have hWs : s.WarmedH U.vm := State.WarmedH.trans hW0 hW
  have hcl : s.vm.findClass ny_C = some ce.cls := by
    rw [hvm] at hcc
    exact hcc
  have hall : s.sameButNew ({ U with vm := s.vm } : State) locs mc ms := by
    subst hA
    obtain ⟨e1, e2⟩ := hsame
    rw [State.setFrames_setFrames] at e1
    have h2 : (T.setVm s.vm).sameButNew ({ U with vm := s.vm } : State) [] (0 + 1) (0 + 6) := ⟨e1, e2⟩
    have h3 := X.same.trans h2
    rw [List.append_nil] at h3
    exact h3.mono hc hs
  refine ⟨U, ?_, .threw T.heap.size, hrun, hend, Or.inr ⟨T.heap.size, rfl, ny_C, ce, locs, hx U hWs.alike f1 (fun q hq => f2 q hq (fun z hz => nomatch hz)), hce, hcv, hcl, hWs, hall, hf⟩⟩
  refine st1 _ ?_
  show Steps p.tables e below (T1.setTop { method := m, pc := pc + 3, locals := ls, stack := .ref T.heap.size :: rest, locked := none }) _
  jvm_step X₁.here [X₁.here.top, hexec, d3', Value.category]
  exact X₁.ldcString hexec (own := RX11) (text := text) (index := is) (a := sa) hown' hstr'.1 hstr'.2
    (g := { method := m, pc := pc + 4, locals := ls, stack := .ref T.heap.size :: .ref T.heap.size :: rest, locked := none }) rfl d4' _ hsteps
end NyThrow
/-! OwedDays.house: answers q, or throws where q is none -/
def rmx (k : Nat) : Room := { frames := k, cells := 1, slots := 6, locals := 60 * k }
def xcH (X : mu_X) (h : mu_H) (q : Option Int32) : String → State → State → Prop := vx_X (fun _ : Unit => q = none) (fun E _ t => E = ny_C ∧ wB X h t) (ax X)
def qcH (X : mu_X) (h : mu_H) (q : Option Int32) : Array Value → State → Outcome → State → Prop := va_Qi (fun x (u : mu_H) => q = some x ∧ u = h) (wB X) (ax X)
def wlx (X : mu_X) (h : mu_H) (U : State) : Prop := wl X h U ∧ lwF (ax X) U U.heap
def mH (X : mu_X) (M : mu_M) (avs : List Value) (h : mu_H) (q : Option Int32) : Prop := vx_Met X.1 M.2.1 (mws M) (rmx 8) (va_Pc avs (wlx X h)) (qcH X h q) (xcH X h q) 1 6 (ax X)
def qH (X : mu_X) (h : mu_H) (q : Option Int32) : mu_Q := fun below args s => vx_MQ below (qcH X h q) (xcH X h q) args s 1 6 (ax X)
def eH (X : mu_X) : Array Value → State → Code → Prop := fun _ s c => lwF (ax X) s s.heap ∧ (∀ x ∈ c.exceptionTable.toList, False) ∧ X.1.stackTraces = false
theorem lwF_moved {A B : Nat → Prop} {s U : State} {H0 H : Heap} (hW : s.WarmedH U.vm) (hq : ∀ a : Nat, a < H0.size → ¬ A a → H[a]? = H0[a]?) (hAB : ∀ q, B q → A q) (h : lwF A s H0) : lwF B U H := by
  obtain ⟨⟨a1, h1⟩, ⟨a2, h2⟩, h3, h4, h5, h6, h7, h8⟩ := h
  exact ⟨⟨a1, vk_R.warm hW h1⟩, ⟨a2, vk_R.warm hW h2⟩, ((h3.kept hq).moved hW.alike).narrow hAB, ((h4.kept hq).moved hW.alike).narrow hAB, va_Nw.warmC hW h5, va_Nw.warmD hW h6, va_Nw.warmD hW h7, va_Nw.warmD hW h8⟩
theorem wlx_blind {X : mu_X} {h : mu_H} {avs : List Value} : FrameBlind (va_Pc avs (wlx X h)) := fun a U g mk q =>
  ⟨q.1, (wl_blind a U g mk ⟨q.1, q.2.1⟩).2, lwF_moved (s := U) (U := U.calling g mk a) (H0 := U.heap) (H := U.heap) (State.WarmedH.refl U) (fun _ _ _ => rfl) (fun _ h => h) q.2.2⟩
theorem ny_hat {A : Nat → Prop} {args : Array Value} {s : State} {H : Heap} (hts : ∀ w ∈ lw_t2, w.before args s = true) (hF : lwF A s H) : ∀ w ∈ ny_A.filter vx_no, w.before args s = true := by
  obtain ⟨-, -, -, -, h5, h6, h7, h8⟩ := hF
  refine vx_hat (B := [Cond.castable ny_C ny_C, .declares (Bundle.initS ny_Y), .declares (Bundle.initS "java/lang/Exception"), .declares (Bundle.initS Bundle.tN)]) (fun w hw => hts w (List.mem_filter.mpr ⟨ny_t w hw, (List.mem_filter.mp hw).2⟩)) ny_n ?_
  intro w hw
  simp only [List.mem_cons, List.not_mem_nil, or_false] at hw
  rcases hw with rfl | rfl | rfl | rfl
  · exact va_Nw.use rfl h5
  · exact va_Nw.use rfl h6
  · exact va_Nw.use rfl h7
  · exact va_Nw.use rfl h8
section HouseRows
variable {X : mu_X} {M : mu_M} {pc : Nat} {lv : List (Nat × Value)} {st : List Value} {h : mu_H}
theorem rh_ret {x : Int32} (hret : M.2.2.2.2 = some .int) (hd : decode M.2.2.1 pc = .ok (.ireturn, 1)) : aG X M (rmx 8) (fun _ => ax X) (eH X) 0 0 (fun q => qH X h q) (some (some x)) pc lv [.int x] h := fun r hr p e s m args below meth c H locs ls B hP hS hl => by
  cases hr
  refine W.widen (k := 1) (n := 6) (by omega) (by omega) ?_
  exact vx_ret (W.iret B.1 B.2.1 (B.2.2.1.trans hret) (fun t ht hW => ⟨⟨x, h, rfl, ⟨rfl, rfl⟩, by show va_P _ _ _ t.heap; rw [ht]; exact hP⟩, hS.F ht⟩) hS.2.2 hd B.2.2.2.2.2.2.1)
theorem rh_throw {is : Nat} {text : String} (hM : M.1 = RX11) (hstr : ∀ s : State, lwF (ax X) s s.heap → ∃ sa, vk_R RX11 is text sa s) (d0 : decode M.2.2.1 pc = .ok (.new 158, 3)) (d3 : decode M.2.2.1 (pc + 3) = .ok (.dup, 1)) (d4 : decode M.2.2.1 (pc + 4) = .ok (.ldc is, 2)) (d6 : decode M.2.2.1 (pc + 6) = .ok (.invokespecial 162, 3)) (d9 : decode M.2.2.1 (pc + 9) = .ok (.athrow, 1)) : aG X M (rmx 8) (fun _ => ax X) (eH X) 0 0 (fun q => qH X h q) (some none) pc lv [] h := fun r hr p e s m args below meth c H locs ls B hP hS hl => by
  cases hr
  obtain ⟨hF, htab, htr⟩ := B.2.2.2.2.2.2.2.2.2.2.2
  obtain ⟨sa, hsa⟩ := hstr s hF
  have hown := B.2.2.2.2.1
  rw [hM] at hown
  refine ny_throw B.1 B.2.1 htr hown (B.2.2.2.2.2.1 _ wd_1248) (B.2.2.2.2.2.1 _ wd_114) hsa (ny_hat B.2.2.2.2.2.1 hF) hF.2.2.1 hF.2.2.2.1 hS (hl.1.trans B.2.2.2.1.symm) d0 d3 d4 d6 d9 (fun x hx => (htab x hx).elim) (by decide) (by decide) (by decide) (by decide) B.2.2.2.2.2.2.1 (fun t hvm h1 h2 => ?_) hS.2.2 (Nat.le_refl _) (Nat.le_refl _)
  refine ⟨(), rfl, ⟨rfl, ?_⟩, ?_⟩
  · exact fun k q hk => (hP k q hk).kept (h2 _ (hP k q hk).lt)
  · exact ⟨Nat.le_trans hS.1 h1, fun q hq hA => (h2 q (Nat.lt_of_lt_of_le hq hS.1)).trans (hS.2.1 q hq hA)⟩
theorem mH_of {avs : List Value} {q : Option Int32} (htr : X.1.stackTraces = false) (hp : plainName M.2.1.cls = true) (hown : M.1 = M.2.1.cls) (hlen : (lg_sl avs).length ≤ M.2.2.2.1) (hlv : lv_args 0 avs = lv) (K : aW X M (rmx 8) (fun _ => ax X) (eH X) 0 0 (qH X h q) 0 lv [] h) : mH X M avs h q := by
  refine vx_ofW (cc := M.2.2.1) (maxL := M.2.2.2.1) (ret := M.2.2.2.2) hp rfl ?_
  intro p e s m args below meth c s₁ B hml htab hv
  obtain ⟨rfl, ⟨hj, hP, hK, hS⟩, hF⟩ := hv
  have hts := atoms_spec (ws := mws M) B.pre
  have hl := lv_entry avs (n := M.2.2.2.1) hlen
  rw [lg_entry_eq]
  rw [hlv] at hl
  exact K p e s m _ below meth c s.heap [] _ ⟨B.exec, B.bytes, B.returns, hml, by rw [hown]; exact findClass_of_methodNamed B.named, fun w hw => hts w (List.mem_cons_of_mem _ hw), B.notSynchronized, hj, hK, hS, fun i hi => ⟨i, hi, rfl⟩, hF, htab, htr⟩ hP va_S.rf hl
end HouseRows
def m_Owe_house : mu_M := (RX11, yX11_house, cX11_house, 3, some .int)
theorem ok_Owe_house : mOKv m_Owe_house 2 := ⟨wd_1245, wd_1246, wd_95, wd_1247, by decide, by decide, by decide +kernel⟩
def f_Owe_house (N : Nat) (h : mu_H) (a1 a2 : Int32) : Option (Option Int32) :=
  (f_Par_hasHouse N h 3 a1).bind fun x1 =>
  if x1 = 0 then
    some none
  else
    if a2 = 0 then
      (f_Par_ofHouse N h 3 a1 0).bind fun x2 =>
      some (some x2)
    else if a2 = 1 then
      (f_Par_ofHouse N h 3 a1 1).bind fun x3 =>
      some (some x3)
    else if a2 = 2 then
      (f_Par_ofHouse N h 3 a1 2).bind fun x4 =>
      some (some x4)
    else if a2 = 3 then
      (f_Sta_owed N h 14 a1).bind fun x5 =>
      some (some x5)
    else if a2 = 4 then
      (f_Sta_debt N h 14 a1).bind fun x6 =>
      some (some x6)
    else 
      some none
set_option maxRecDepth 20000 in
theorem cb_Owe_house (X : mu_X) (N : Nat) (h : mu_H) (a1 a2 : Int32) : aG X m_Owe_house (rmx 8) (fun _ => ax X) (eH X) 0 0 (fun q => qH X h q) (f_Owe_house N h a1 a2) 0 [(0, .ref (xa X 0)), (1, .int a1), (2, .int a2)] [] h := by
  unfold f_Owe_house
  refine ro_aload_n (pc := 0) 0 dX11_house_0 rfl rfl ?_
  refine gf_X11_1 (pc := 1) wd_345 dX11_house_1 ?_
  refine ro_iload_n (pc := 4) 1 dX11_house_4 rfl rfl ?_
  refine ro_cvP (pc := 5) (kc := 1) (avs := [.int a1]) (st := []) ok_Par_hasHouse wd_671 cl_3 cv_3 rfl ⟨by decide, by decide⟩ ⟨Nat.zero_le _, Nat.zero_le _⟩ (c_Par_hasHouse X N h 3 isP_i3 a1) rfl rfl (Nat.le_of_ble_eq_true rfl) dX11_house_5 (fun x1 => ?_)
  refine ro_if_ne (tgt := 21) (pc := 8) dX11_house_8 (by decide) (fun _ => ?_) (fun _ => ?_)
  · skip
    refine ro_iload_n (pc := 21) 2 dX11_house_21 rfl rfl ?_
    refine ro_tsk (key := 0) (tgt := 56) (pc := 22) dX11_house_22 (by decide) (by decide) rfl (by decide) (fun _ => ?_) (fun c22_0 => ?_)
    · skip
      refine ro_aload_n (pc := 56) 0 dX11_house_56 rfl rfl ?_
      refine gf_X11_1 (pc := 57) wd_345 dX11_house_57 ?_
      refine ro_iload_n (pc := 60) 1 dX11_house_60 rfl rfl ?_
      refine ro_iconst (v := 0) (pc := 61) dX11_house_61 (by decide) ?_
      refine ro_cvP (pc := 62) (kc := 1) (avs := [.int a1, .int 0]) (st := []) ok_Par_ofHouse wd_1313 cl_3 cv_3 rfl ⟨by decide, by decide⟩ ⟨Nat.zero_le _, Nat.zero_le _⟩ (c_Par_ofHouse X N h 3 isP_i3 a1 0) rfl rfl (Nat.le_of_ble_eq_true rfl) dX11_house_62 (fun x2 => ?_)
      exact rh_ret (pc := 65) rfl dX11_house_65
    refine ro_tsk (key := 1) (tgt := 66) (pc := 22) dX11_house_22 (by decide) (by decide) rfl (by decide) (fun _ => ?_) (fun c22_1 => ?_)
    · skip
      refine ro_aload_n (pc := 66) 0 dX11_house_66 rfl rfl ?_
      refine gf_X11_1 (pc := 67) wd_345 dX11_house_67 ?_
      refine ro_iload_n (pc := 70) 1 dX11_house_70 rfl rfl ?_
      refine ro_iconst (v := 1) (pc := 71) dX11_house_71 (by decide) ?_
      refine ro_cvP (pc := 72) (kc := 1) (avs := [.int a1, .int 1]) (st := []) ok_Par_ofHouse wd_1313 cl_3 cv_3 rfl ⟨by decide, by decide⟩ ⟨Nat.zero_le _, Nat.zero_le _⟩ (c_Par_ofHouse X N h 3 isP_i3 a1 1) rfl rfl (Nat.le_of_ble_eq_true rfl) dX11_house_72 (fun x3 => ?_)
      exact rh_ret (pc := 75) rfl dX11_house_75
    refine ro_tsk (key := 2) (tgt := 76) (pc := 22) dX11_house_22 (by decide) (by decide) rfl (by decide) (fun _ => ?_) (fun c22_2 => ?_)
    · skip
      refine ro_aload_n (pc := 76) 0 dX11_house_76 rfl rfl ?_
      refine gf_X11_1 (pc := 77) wd_345 dX11_house_77 ?_
      refine ro_iload_n (pc := 80) 1 dX11_house_80 rfl rfl ?_
      refine ro_iconst (v := 2) (pc := 81) dX11_house_81 (by decide) ?_
      refine ro_cvP (pc := 82) (kc := 1) (avs := [.int a1, .int 2]) (st := []) ok_Par_ofHouse wd_1313 cl_3 cv_3 rfl ⟨by decide, by decide⟩ ⟨Nat.zero_le _, Nat.zero_le _⟩ (c_Par_ofHouse X N h 3 isP_i3 a1 2) rfl rfl (Nat.le_of_ble_eq_true rfl) dX11_house_82 (fun x4 => ?_)
      exact rh_ret (pc := 85) rfl dX11_house_85
    refine ro_tsk (key := 3) (tgt := 86) (pc := 22) dX11_house_22 (by decide) (by decide) rfl (by decide) (fun _ => ?_) (fun c22_3 => ?_)
    · skip
      refine ro_aload_n (pc := 86) 0 dX11_house_86 rfl rfl ?_
      refine gf_X11_4 (pc := 87) wd_348 dX11_house_87 ?_
      refine ro_iload_n (pc := 90) 1 dX11_house_90 rfl rfl ?_
      refine ro_cvP (pc := 91) (kc := 1) (avs := [.int a1]) (st := []) ok_Sta_owed wd_736 cl_14 cv_14 rfl ⟨by decide, by decide⟩ ⟨Nat.zero_le _, Nat.zero_le _⟩ (c_Sta_owed X N h 14 isT_i14 a1) rfl rfl (Nat.le_of_ble_eq_true rfl) dX11_house_91 (fun x5 => ?_)
      exact rh_ret (pc := 94) rfl dX11_house_94
    refine ro_tsk (key := 4) (tgt := 95) (pc := 22) dX11_house_22 (by decide) (by decide) rfl (by decide) (fun _ => ?_) (fun c22_4 => ?_)
    · skip
      refine ro_aload_n (pc := 95) 0 dX11_house_95 rfl rfl ?_
      refine gf_X11_4 (pc := 96) wd_348 dX11_house_96 ?_
      refine ro_iload_n (pc := 99) 1 dX11_house_99 rfl rfl ?_
      refine ro_cvP (pc := 100) (kc := 1) (avs := [.int a1]) (st := []) ok_Sta_debt wd_1314 cl_14 cv_14 rfl ⟨by decide, by decide⟩ ⟨Nat.zero_le _, Nat.zero_le _⟩ (c_Sta_debt X N h 14 isT_i14 a1) rfl rfl (Nat.le_of_ble_eq_true rfl) dX11_house_100 (fun x6 => ?_)
      exact rh_ret (pc := 103) rfl dX11_house_103
    refine ro_tsd (tgt := 104) (pc := 22) dX11_house_22 (by have a0 := ne_int c22_0 (k := 0) (z := 0) (by decide); have a1 := ne_int c22_1 (k := 1) (z := 1) (by decide); have a2 := ne_int c22_2 (k := 2) (z := 2) (by decide); have a3 := ne_int c22_3 (k := 3) (z := 3) (by decide); have a4 := ne_int c22_4 (k := 4) (z := 4) (by decide); omega) (by decide) ?_
    exact rh_throw (pc := 104) rfl (fun s hF => hF.2.1) dX11_house_104 dX11_house_107 dX11_house_108 dX11_house_110 dX11_house_113
  · skip
    exact rh_throw (pc := 11) rfl (fun s hF => hF.1) dX11_house_11 dX11_house_14 dX11_house_15 dX11_house_17 dX11_house_20
theorem c_Owe_house (X : mu_X) (htr : X.1.stackTraces = false) (N : Nat) (h : mu_H) (a1 a2 : Int32) : ∀ q, f_Owe_house N h a1 a2 = some q → mH X m_Owe_house [.ref (xa X 0), .int a1, .int a2] h q := fun q hq => mH_of htr (by decide) rfl (Nat.le_of_ble_eq_true rfl) rfl (cb_Owe_house X N h a1 a2 q hq)
