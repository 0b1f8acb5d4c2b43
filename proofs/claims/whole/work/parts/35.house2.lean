theorem ao_eq {ρ : Type} {X : mu_X} {M : mu_M} {R : Room} {A : State → Nat → Prop} {E : Array Value → State → Code → Prop} {cs ss : Nat} {Qf : ρ → mu_Q} {ex ex' : Option ρ} {pc : Nat} {lv : List (Nat × Value)} {st : List Value} {h : mu_H} (he : ex = ex') (k : aG X M R A E cs ss Qf ex' pc lv st h) : aG X M R A E cs ss Qf ex pc lv st h := he ▸ k
def m_Lw_house : mu_M := (RL, yL_house, cL_house, 5, some .int)
def ws_Lw : List Cond := Cond.codeWith yL_house cL_house 5 (some .int) [(0, 10, 13, 13)] :: lw_t2
set_option maxRecDepth 100000 in
theorem wd_Lw : Cond.codeWith yL_house cL_house 5 (some .int) [(0, 10, 13, 13)] ∈ lw_t2 := List.mem_filter.mpr ⟨List.mem_of_getElem? (i := 1242) rfl, rfl⟩
def eL (X : mu_X) : Array Value → State → Code → Prop := fun _ s c => lwF (ax X) s s.heap ∧ c.exceptionTable.toList = tableOf [(0, 10, 13, 13)]
def xcN (X : mu_X) : String → State → State → Prop := vx_X (fun _ : Unit => False) (fun _ _ _ => True) (ax X)
def qN (X : mu_X) (x : Int32) (h' : mu_H) : mu_Q := fun below args s => vx_MQ below (qcI X x h') (xcN X) args s 1 6 (ax X)
def mN (X : mu_X) (avs : List Value) (h : mu_H) (x : Int32) (h' : mu_H) : Prop := vx_Met X.1 yL_house ws_Lw (rmx 10) (va_Pc avs (wlx X h)) (qcI X x h') (xcN X) 1 6 (ax X)
section LawHouse
variable {X : mu_X} {pc : Nat} {lv : List (Nat × Value)} {st : List Value} {h : mu_H}
theorem rn_ret {x : Int32} (hd : decode cL_house pc = .ok (.ireturn, 1)) : aG X m_Lw_house (rmx 10) (fun _ => ax X) (eL X) 1 6 (fun _ : Unit => qN X x h) (some ()) pc lv [.int x] h := fun r hr p e s m args below meth c H locs ls B hP hS hl => by
  exact vx_ret (W.iret B.1 B.2.1 B.2.2.1 (fun t ht hW => ⟨⟨x, h, rfl, ⟨rfl, rfl⟩, by show va_P _ _ _ t.heap; rw [ht]; exact hP⟩, hS.F ht⟩) hS.2.2 hd B.2.2.2.2.2.2.1)
theorem rn_call {q : Option Int32} {a1 a2 : Int32} {Q : mu_Q} (hrun : mH X m_Owe_house [.ref (xa X 0), .int a1, .int a2] h q) (kk : ∀ v, q = some v → aG X m_Lw_house (rmx 10) (fun _ => ax X) (eL X) 1 6 (fun _ : Unit => Q) (some ()) 8 lv [.int v, .int 0, .ref (xa X 79)] h) (kx : q = none → ∀ a : Nat, aG X m_Lw_house (rmx 10) (fun _ => ax X) (eL X) 1 6 (fun _ : Unit => Q) (some ()) 13 lv [.ref a] h) : aG X m_Lw_house (rmx 10) (fun _ => ax X) (eL X) 0 0 (fun _ : Unit => Q) (some ()) 5 lv [.int a2, .int a1, .ref (xa X 0), .int 0, .ref (xa X 79)] h := fun r hr p e s m args below meth c H locs ls B hP hS hl => by
  obtain ⟨hF, htab⟩ := B.2.2.2.2.2.2.2.2.2.2.2
  refine vx_calli (vx_runV (As := [.int a1, .int a2]) (rest := [.int 0, .ref (xa X 79)]) ⟨B.1, B.2.1, B.2.2.2.1, B.2.2.2.2.1, B.2.2.2.2.2.1⟩ hrun ⟨callB_of 2 B.2.2.2.2.2.1 (mws_good ok_Owe_house.2.2.2.1) rfl rfl rfl (B.2.2.2.2.2.1 _ ok_Owe_house.2.2.1) (B.2.2.2.2.2.1 _ wd_1244) ok_Owe_house.2.2.2.2 ⟨by decide, by decide⟩, B.2.2.2.2.2.1 _ ok_Owe_house.1, B.2.2.2.2.2.1 _ ok_Owe_house.2.1⟩ ⟨wlx_blind, va_recv B.2.2.2.2.2.2.2.2.1 hP (ci := 11) (q := (RX11, TX11, 13)) rfl (q0 := 0) (by rw [wo_get cl_0, cv_0]), fun U hU hW => ⟨rfl, (wl_of B hP hS (avs := [.ref (xa X 0), .int a1, .int a2]) U hU hW).2, by rw [hU]; exact lwF_moved hW hS.2.1 (fun _ h => h) hF⟩⟩ rfl rfl (hl.1) rfl (lv_room (Nat.le_of_ble_eq_true rfl)) dL_house_5 ⟨by decide, by decide⟩) hS (fun q _ h => h) (fun q h => h) (fun q _ h => h) (fun E ce q9 u t H1 locs1 ht hvm hpx hBX hz hk hS1 hq9 hcv hcl => ?_) (fun v u t H1 locs1 ht hvm hw1 hB hz hk hS1 => ?_)
  · obtain ⟨rfl, hB⟩ := hBX
    have hP1 : va_P X.2.1 vwCl (wo X _) t.heap := hB
    rw [ht] at hP1
    refine vx_catch (own := RL) (name := ny_C) B.2.2.2.2.1 [] ⟨0, 10, 13, 13⟩ [] htab (fun z hz => nomatch hz) rfl (by decide) (B.2.2.2.2.2.1 _ wd_1243) (va_Nw.use rfl hF.2.2.2.2.1) hq9 hcv hcl ?_
    exact kx hpx q9 r hr p e s m args below meth c H1 locs1 ls B hP1 hS1 hl
  · obtain ⟨e1, e2⟩ := hw1
    rw [e2] at hB
    have hP1 : va_P X.2.1 vwCl (wo X _) t.heap := hB
    rw [ht] at hP1
    exact kk v e1 r hr p e s m args below meth c H1 locs1 ls B hP1 hS1 hl
/-- the law's house: 1 where OwedDays.house threw, else 0, and out holds its answer -/
def oN (q : Option Int32) : Int32 := match q with
  | some _ => 0
  | none => 1
def oH (q : Option Int32) (h : mu_H) : mu_H := match q with
  | some v => ul h 79 0 v.toInt64
  | none => h
theorem c_Lw_house (htr : X.1.stackTraces = false) (N : Nat) (a1 a2 : Int32) {q : Option Int32} (hq : f_Owe_house N h a1 a2 = some q) : mN X [.ref (xa X 0), .int a1, .int a2, .ref (xa X 79)] h (oN q) (oH q h) := by
  have K : aG X m_Lw_house (rmx 10) (fun _ => ax X) (eL X) 0 0 (fun _ : Unit => qN X (oN q) (oH q h)) (some ()) 0 [(0, .ref (xa X 0)), (1, .int a1), (2, .int a2), (3, .ref (xa X 79))] [] h := by
    refine ro_aload_n (pc := 0) 3 dL_house_0 rfl rfl ?_
    refine ro_iconst (v := 0) (pc := 1) dL_house_1 (by decide) ?_
    refine ro_aload_n (pc := 2) 0 dL_house_2 rfl rfl ?_
    refine ro_iload_n (pc := 3) 1 dL_house_3 rfl rfl ?_
    refine ro_iload_n (pc := 4) 2 dL_house_4 rfl rfl ?_
    refine rn_call (c_Owe_house X htr N h a1 a2 q hq) (fun v e => ?_) (fun e a => ?_)
    · subst e
      refine ro_i2l (pc := 8) dL_house_8 ?_
      refine ao_eq (ex' := gd (ix 0 1) (some ())) rfl ?_
      refine ro_last (pc := 9) (n := 1) (i := 79) cl_79 cv_79 dL_house_9 ?_
      refine ro_goto (tgt := 17) (pc := 10) dL_house_10 (by decide) ?_
      refine ro_iconst (v := 0) (pc := 17) dL_house_17 (by decide) ?_
      exact rn_ret (pc := 18) dL_house_18
    · subst e
      refine ro_astore (pc := 13) (lv' := [(4, .ref a), (0, .ref (xa X 0)), (1, .int a1), (2, .int a2), (3, .ref (xa X 79))]) dL_house_13 (by decide) rfl ?_
      refine ro_iconst (v := 1) (pc := 15) dL_house_15 (by decide) ?_
      exact rn_ret (pc := 16) dL_house_16
  refine vx_ofWH (cc := cL_house) (maxL := 5) (ret := some .int) (hh := [(0, 10, 13, 13)]) (by decide) rfl ?_
  intro p e s m args below meth c s₁ B hml hv
  obtain ⟨rfl, ⟨hj, hP, hK, hS⟩, hF⟩ := hv
  have hts := atoms_spec (ws := ws_Lw) B.pre
  have hl := lv_entry [.ref (xa X 0), .int a1, .int a2, .ref (xa X 79)] (n := 5) (Nat.le_of_ble_eq_true rfl)
  rw [lg_entry_eq]
  exact K () rfl p e s m _ below meth c s.heap [] _ ⟨B.exec, B.bytes, B.returns, hml, findClass_of_methodNamed B.named, fun w hw => hts w (List.mem_cons_of_mem _ hw), B.notSynchronized, hj, hK, hS, fun i hi => ⟨i, hi, rfl⟩, hF, vx_table (x := yL_house) B (hts _ List.mem_cons_self)⟩ hP va_S.rf hl
theorem GoodLw : GoodIn lw_t2 (va_wsS RL 46 yL_house ws_Lw) := by
  intro x hx
  have h : x ∈ lw_t2 := by
    rcases List.mem_append.mp hx with h | h
    · simp only [List.mem_cons, List.not_mem_nil, or_false] at h
      rcases h with rfl | rfl | rfl
      · exact wd_1240
      · exact wd_1241
      · exact wd_94
    · rcases List.mem_cons.mp h with rfl | h
      · exact wd_Lw
      · exact h
  exact ⟨h, lw_good x h⟩
theorem rl_call {b L : Nat} {xs : Nat → Int32} {cs ss : Nat} {x a1 a2 : Int32} {h' : mu_H} {Q : mu_Q} (hcs : cs + 1 ≤ 601024 ∧ ss + 6 ≤ 7293034) (hrun : mN X [.ref (xa X 0), .int a1, .int a2, .ref (xa X 79)] h x h') (kk : aG X m_law room_1 lwA (lwE b L xs) (cs + 1) (ss + 6) (fun _ : Unit => Q) (some ()) 447 lv [.int x] h') : aG X m_law room_1 lwA (lwE b L xs) cs ss (fun _ : Unit => Q) (some ()) 444 lv [.ref (xa X 79), .int a2, .int a1, .ref (xa X 0)] h := fun r hr p e s m args below meth c H locs ls B hP hS hl => by
  have hF := B.2.2.2.2.2.2.2.2.2.2.2.2.2.2
  refine vx_calli (vx_runSX (As := [.ref (xa X 0), .int a1, .int a2, .ref (xa X 79)]) (rest := []) ⟨B.1, B.2.1, B.2.2.2.1, B.2.2.2.2.1, B.2.2.2.2.2.1⟩ hrun (vx_cwSW 4 B.2.2.2.2.2.1 GoodLw rfl rfl rfl (by decide +kernel) ⟨by decide, by decide⟩) ⟨wlx_blind, fun U hU hW => ⟨rfl, (wl_of B hP hS (avs := [.ref (xa X 0), .int a1, .int a2, .ref (xa X 79)]) U hU hW).2, by rw [hU]; exact lwF_moved hW hS.2.1 (ax_in B) hF⟩⟩ rfl rfl (hl.1) rfl (lv_room (Nat.le_of_ble_eq_true rfl)) dL_law_444 hcs) hS (fun q _ h => ax_in B q h) (ax_in B) (fun q _ h => ax_in B q h) (fun E ce q9 u t H1 locs1 ht hvm hpx hBX hz hk hS1 hq9 hcv hcl => hpx.elim) (fun v u t H1 locs1 ht hvm hw1 hB hz hk hS1 => ?_)
  obtain ⟨e1, e2⟩ := hw1
  rw [e2] at hB
  rw [e1]
  have hP1 : va_P X.2.1 vwCl (wo X _) t.heap := hB
  rw [ht] at hP1
  exact kk r hr p e s m args below meth c H1 locs1 ls B hP1 hS1 hl
end LawHouse
/-- the step of house: thrown where the model says so, else the same answer -/
def LS_6 (N : Nat) (Inv : mu_H → Prop) : Prop := ∀ h, Inv h → ∀ a1 a2 : Int32, ∃ (q : Option Int32) (x : Int32) (h2 : mu_H), f_Owe_house N h a1 a2 = some q ∧ f_Mod_house N (oH q h) a1 a2 = some (x, h2) ∧ f_Mod_thrown N h2 = some (oN q) ∧ (∀ v, q = some v → h2.2 79 0 = x.toInt64) ∧ Inv h2
set_option maxRecDepth 100000 in
theorem lc_6 {X : mu_X} {N : Nat} {Inv : mu_H → Prop} (htr : X.1.stackTraces = false) (H6 : LS_6 N Inv) : LC6 X N Inv := by
  intro b L xs cs ss i h hI hc hs hx1 hx2 k
  obtain ⟨q, x, h2, hq, hm, ht, hv, hI2⟩ := H6 h hI (xs (i + 1).toNatClampNeg) (xs (i + 2).toNatClampNeg)
  have k := k h2 hI2
  refine ro_aload_n (pc := 430) 1 dL_law_430 rfl rfl ?_
  refine ro_aload_n (pc := 431) 0 dL_law_431 rfl rfl ?_
  refine ro_iload (pc := 432) 4 dL_law_432 rfl ?_
  refine ro_iconst (v := 1) (pc := 434) dL_law_434 (by decide) ?_
  refine ro_iadd (pc := 435) dL_law_435 ?_
  refine ao_sld (pc := 436) hx1 dL_law_436 ?_
  refine ro_aload_n (pc := 437) 0 dL_law_437 rfl rfl ?_
  refine ro_iload (pc := 438) 4 dL_law_438 rfl ?_
  refine ro_iconst (v := 2) (pc := 440) dL_law_440 (by decide) ?_
  refine ro_iadd (pc := 441) dL_law_441 ?_
  refine ao_sld (pc := 442) hx2 dL_law_442 ?_
  refine ro_aload_n (pc := 443) 3 dL_law_443 rfl rfl ?_
  refine rl_call ⟨hc, hs⟩ (c_Lw_house htr N _ _ hq) ?_
  refine ro_istore (pc := 447) (lv' := [(5, .int (oN q)), (0, .ref b), (1, .ref (xa X 0)), (2, .ref (xa X 51)), (3, .ref (xa X 79)), (4, .int i)]) dL_law_447 (by decide) rfl ?_
  refine ro_aload_n (pc := 449) 3 dL_law_449 rfl rfl ?_
  refine ro_aload_n (pc := 450) 1 dL_law_450 rfl rfl ?_
  refine ro_iload (pc := 451) 5 dL_law_451 rfl ?_
  refine ro_iconst (v := 1) (pc := 453) dL_law_453 (by decide) ?_
  refine ro_iadd (pc := 454) dL_law_454 ?_
  refine ao_sld (pc := 455) hx1 dL_law_455 ?_
  refine ro_aload_n (pc := 456) 1 dL_law_456 rfl rfl ?_
  refine ro_iload (pc := 457) 5 dL_law_457 rfl ?_
  refine ro_iconst (v := 2) (pc := 459) dL_law_459 (by decide) ?_
  refine ro_iadd (pc := 460) dL_law_460 ?_
  refine ao_sld (pc := 461) hx2 dL_law_461 ?_
  have hcs : cs + 1 ≤ room_1.cells ∧ ss + 6 ≤ room_1.slots := ⟨hc, hs⟩
  refine ao_cv (pc := 462) (kc := 3) (avs := [.int (xs (i + 1).toNatClampNeg), .int (xs (i + 2).toNatClampNeg)]) (st := []) ok_Mod_house wd_1630 cl_51 cv_51 rfl ⟨by decide, by decide⟩ hcs (c_Mod_house X N (oH q h) (xs (i + 1).toNatClampNeg) (xs (i + 2).toNatClampNeg) (x, h2) hm) rfl rfl (Nat.le_of_ble_eq_true rfl) dL_law_462 ?_
  refine ro_istore (pc := 465) (lv' := [(6, .int x), (5, .int (oN q)), (0, .ref b), (1, .ref (xa X 0)), (2, .ref (xa X 51)), (3, .ref (xa X 79)), (4, .int i)]) dL_law_465 (by decide) rfl ?_
  refine ro_aload_n (pc := 467) 4 dL_law_467 rfl rfl ?_
  refine ao_cv (pc := 468) (kc := 1) (avs := []) (st := []) ok_Mod_thrown wd_1462 cl_51 cv_51 rfl ⟨by decide, by decide⟩ hcs (c_Mod_thrown X N h2 (oN q) ht) rfl rfl (Nat.le_of_ble_eq_true rfl) dL_law_468 ?_
  refine ro_iload (pc := 471) 1 dL_law_471 rfl ?_
  refine ao_icmp_eq_t (tgt := 478) (pc := 473) dL_law_473 (by decide) rfl ?_
  refine ro_iload (pc := 478) 1 dL_law_478 rfl ?_
  have kend : aG X m_law room_1 lwA (lwE b L xs) (cs + 1) (ss + 6) (fun _ : Unit => lawQ) (some ()) 495 [(6, .int x), (5, .int (oN q)), (0, .ref b), (1, .ref (xa X 0)), (2, .ref (xa X 51)), (3, .ref (xa X 79)), (4, .int i)] [] h2 := by
    refine ro_goto (tgt := 1638) (pc := 495) dL_law_495 (by decide) ?_
    exact ro_lv [2, 3, 4, 5, 6] rfl k
  cases q with
  | none => exact ao_if_ne_t (tgt := 495) (pc := 480) dL_law_480 (by decide) (by decide) kend
  | some v =>
    refine ao_if_ne_f (tgt := 495) (pc := 480) dL_law_480 (by decide) rfl ?_
    refine ro_aload_n (pc := 483) 5 dL_law_483 rfl rfl ?_
    refine ro_iconst (v := 0) (pc := 484) dL_law_484 (by decide) ?_
    refine ao_eq (ex' := gd (ix 0 1) (some ())) rfl ?_
    refine ro_lald (pc := 485) (n := 1) (i := 79) cl_79 cv_79 dL_law_485 ?_
    refine ro_iload (pc := 486) 0 dL_law_486 rfl ?_
    refine ro_i2l (pc := 488) dL_law_488 ?_
    refine ro_lcmp (pc := 489) dL_law_489 ?_
    refine ao_if_eq_t (tgt := 495) (pc := 490) dL_law_490 (by decide) ?_ kend
    show lg_cmp (h2.2 79 0) x.toInt64 = 0
    rw [hv v rfl]
    simp [lg_cmp]
