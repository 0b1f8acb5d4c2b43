/-! THE CLAIM OUT OF ONE WALK OF THE LAW'S BODY. Your part is whole_start (and what it stands on); all else here is the same for every law, but numbers. -/
def R_law : String := "OwedDaysLaw"
def lw_P (b : Addr) (xs : List Int32) (args : Array Value) (s : State) : Prop := args = #[.ref b] ∧ s.IntsAt b xs ∧ xs.length ≤ 3584 ∧ (Jvm.Cond.and given_1 narrow_1).before args s = true
def lw_Q (_ : Array Value) (s : State) (o : Outcome) (t : State) : Prop := o = .returned (some (.int 1)) ∧ Framed s o t [] 601024 7293034
def lw_Z (below : List Frame) (a : Array Value) (s : State) : State → Prop := fun t => ∃ o, t.status = .running ∧ Ended t below o ∧ lw_Q a s o t
/-- the law's own end, with 1 on the stack, nothing written that was there before, its room as the claim has it -/
theorem lw_ret {p : Program} {l : Launch} {e : Env} {s : State} {m : MethodId} {below : List Frame} {meth : Method} {c : Code} {b : Nat} (hx : p.tables.exec = Jvm.exec) (hb : c.code = code) (hr : meth.sig.returnType = ret) (hlocks : meth.locks = false) {pc : Nat} {H : Heap} {ls : Array Slot} (hdg : decode code pc = .ok (.ireturn, 1)) : W p l e room_1 s m #[Value.ref b] below meth c H [] 601024 7293034 (lw_Z below #[Value.ref b] s) (F0 m pc ls [.int 1]) := by
  intro T hT X
  obtain ⟨fs, hret, hrun, hended, hW, hframe⟩ := X.leave (v := some (.int 1)) (hlocks := hlocks) (fun h => by rw [hr] at h; cases h)
  have hmeth' : T.vm.method? m = some meth := X.method'
  refine ⟨T.setFrames fs, ?_, .returned (some (.int 1)), hrun, hended, rfl, ⟨_, rfl⟩, hW, hframe⟩
  jvm_step X.here [X.here.top, hx, hb, hdg, hmeth', hr, ret, narrow_b1]
  (try refine ⟨rfl, ?_⟩); (try refine ⟨rfl, ?_⟩)
  first | (intro acts; rw [hret _ acts rfl rfl rfl]) | rw [hret _ _ rfl rfl rfl]
  exact Steps.refl _
/-- what holds at the law's entry: the machine, the code, the tables' words (any of lw_tbl by 'hts w (by decide +kernel)'), the script of L ints xs at the cell b, what the Statement gives of the start (any of its parts by flat_of_before) -/
def lw_At (p : Program) (s : State) (m : MethodId) (meth : Method) (c : Code) (b L : Nat) (xs : Nat → Int32) : Prop :=
  p.tables.exec = Jvm.exec ∧ c.code = code ∧ meth.sig.returnType = ret ∧ c.maxLocals = 7 ∧ s.vm.findClass R_law = some m.cls ∧ (∀ w ∈ lw_tbl, w.before #[Value.ref b] s = true) ∧ va_X b L xs s s.heap ∧ b < s.heap.size ∧ meth.locks = false ∧ (Jvm.Cond.and given_1 narrow_1).before #[Value.ref b] s = true

def lawQ : mu_Q := fun below args s => lw_Z below args s
theorem ix_nI {n N : Nat} (h : n < N) (hN : N < 2 ^ 31) : ix (nI n) N = true := by
  simp only [ix, Bool.and_eq_true, decide_eq_true_eq]
  exact ⟨nI_pos' (by omega), by rw [nI_clamp (by omega)]; exact h⟩
theorem and63 (v : Int32) : ∃ k : Nat, k < 64 ∧ v &&& 63 = nI k := by
  refine ⟨(v.toUInt32 &&& 63).toNat, ?_, ?_⟩
  · rw [UInt32.toNat_and]
    exact Nat.lt_of_le_of_lt Nat.and_le_right (by decide)
  · show Int32.ofUInt32 (v.toUInt32 &&& 63) = Int32.ofUInt32 (UInt32.ofNat (v.toUInt32 &&& 63).toNat)
    rw [UInt32.ofNat_toNat]
theorem law_next {X : mu_X} {b L : Nat} {xs : Nat → Int32} {cs ss : Nat} {Q : mu_Q} {i : Int32} {h : mu_H} (k : aG X m_law room_1 lwA (lwE b L xs) cs ss (fun _ : Unit => Q) (some ()) 23 [(0, .ref b), (1, .ref (xa X 0)), (2, .ref (xa X 51)), (3, .ref (xa X 79)), (4, .int (i + 7))] [] h) : aG X m_law room_1 lwA (lwE b L xs) cs ss (fun _ : Unit => Q) (some ()) 1638 [(0, .ref b), (1, .ref (xa X 0)), (2, .ref (xa X 51)), (3, .ref (xa X 79)), (4, .int i)] [] h := by
  refine ro_iinc (pc := 1638) (v := i + 7) (lv' := [(4, .int (i + 7)), (0, .ref b), (1, .ref (xa X 0)), (2, .ref (xa X 51)), (3, .ref (xa X 79))]) 4 dL_law_1638 rfl rfl (by decide) rfl ?_
  refine ro_goto (tgt := 23) (pc := 1641) dL_law_1641 (by decide) ?_
  exact ro_lv [1, 2, 3, 4, 0] rfl k
theorem law_end {X : mu_X} {b L : Nat} {xs : Nat → Int32} {cs ss : Nat} {i : Int32} {h : mu_H} (hcs : cs ≤ 601024) (hss : ss ≤ 7293034) : aG X m_law room_1 lwA (lwE b L xs) cs ss (fun _ : Unit => lawQ) (some ()) 1644 [(0, .ref b), (1, .ref (xa X 0)), (2, .ref (xa X 51)), (3, .ref (xa X 79)), (4, .int i)] [] h := by
  refine ro_iconst (v := 1) (pc := 1644) dL_law_1644 (by decide) ?_
  intro r hr p e s m args below meth c H locs ls B hP hS hl
  obtain ⟨rfl, hX, hbl, -⟩ := B.2.2.2.2.2.2.2.2.2.2.2
  exact va_forget hS.2.2 (W.widen hcs hss (lw_ret B.1 B.2.1 (B.2.2.1.trans rfl) B.2.2.2.2.2.2.1 dL_law_1645))
def LS_0 (N : Nat) (Inv : mu_H → Prop) : Prop := ∀ h, Inv h → ∀ a1 a2 a3 a4 a5 : Int32, ∃ (r : Int32) (h1 : mu_H) (h2 : mu_H), f_Owe_feed N h a1 a2 a3 a4 a5 = some (r, h1) ∧ f_Mod_feed N h1 a1 a2 a3 a4 a5 = some (r, h2) ∧ Inv h2
def LS_1 (N : Nat) (Inv : mu_H → Prop) : Prop := ∀ h, Inv h → ∀ a1 : Int32, ∃ (r : Int32) (h1 : mu_H) (h2 : mu_H), f_Owe_end N h a1 = some (r, h1) ∧ f_Mod_end N h1 a1 = some (r, h2) ∧ Inv h2
def LS_2 (N : Nat) (Inv : mu_H → Prop) : Prop := ∀ h, Inv h → ∀ a1 : Int32, ∃ (r : Int32) (h1 : mu_H) (h2 : mu_H), f_Owe_fault N h a1 = some (r, h1) ∧ f_Mod_fault N h1 a1 = some (r, h2) ∧ Inv h2
def LS_3 (N : Nat) (Inv : mu_H → Prop) : Prop := ∀ h, Inv h → ∀ a1 : Int32, ∃ (r : Int32) (h1 : mu_H) (h2 : mu_H), f_Owe_text N h a1 = some (r, h1) ∧ f_Mod_text N h1 a1 = some (r, h2) ∧ Inv h2
def LS_4 (N : Nat) (Inv : mu_H → Prop) : Prop := ∀ h, Inv h → ∀ a1 : Int32, ∃ (r : Int32), f_Owe_rule N h a1 = some r ∧ f_Mod_rule N h a1 = some r
def LS_5 (N : Nat) (Inv : mu_H → Prop) : Prop := ∀ h, Inv h → ∀ a1 a2 : Int32, ∃ (r : Int32), f_Owe_stretch N h a1 a2 = some r ∧ f_Mod_stretch N h a1 a2 = some r
def LS_7 (N : Nat) (Inv : mu_H → Prop) : Prop := ∀ h, Inv h → ∀ a1 : Int32, ∃ (r : Int32) (h1 : mu_H) (h2 : mu_H), f_Owe_law N h a1 = some (r, h1) ∧ f_Mod_law N h1 a1 = some (r, h2) ∧ Inv h2
def LS_8 (N : Nat) (Inv : mu_H → Prop) : Prop := ∀ h, Inv h → ∀ a1 a2 : Int32, ∃ (r : Int32), f_Owe_haul N h a1 a2 = some r ∧ f_Mod_haul N h a1 a2 = some r
def LS_9 (N : Nat) (Inv : mu_H → Prop) : Prop := ∀ h, Inv h → ∀ a1 a2 a3 : Int32, ∃ (r : Int32) (h1 : mu_H) (h2 : mu_H), f_Owe_does N h a1 a2 a3 = some (r, h1) ∧ f_Mod_does N h1 a1 a2 a3 = some (r, h2) ∧ Inv h2
def LS_10 (N : Nat) (Inv : mu_H → Prop) : Prop := ∀ h, Inv h → ∀ a1 a2 a3 : Int32, ∃ (r : Int32) (h1 : mu_H) (h2 : mu_H), f_Owe_work N h a1 a2 a3 = some (r, h1) ∧ f_Mod_work N h1 a1 a2 a3 = some (r, h2) ∧ Inv h2
def LS_11 (N : Nat) (Inv : mu_H → Prop) : Prop := ∀ h, Inv h → ∀ a1 a2 : Int32, ∃ (r : Int32) (h1 : mu_H) (h2 : mu_H), f_Owe_pay N h a1 a2 = some (r, h1) ∧ f_Mod_pay N h1 a1 a2 = some (r, h2) ∧ Inv h2
def LS_12 (N : Nat) (Inv : mu_H → Prop) : Prop := ∀ h, Inv h → ∀ a1 : Int32, ∃ (r : Int32) (h1 : mu_H) (h2 : mu_H), f_Owe_ditch N h a1 = some (r, h1) ∧ f_Mod_ditch N h1 a1 = some (r, h2) ∧ Inv h2
def LS_13 (N : Nat) (Inv : mu_H → Prop) : Prop := ∀ h, Inv h → ∀ a1 : Int32, ∃ (r : Int32) (h1 : mu_H) (h2 : mu_H), f_Owe_seasons N h a1 = some (r, h1) ∧ f_Mod_seasons N h1 a1 = some (r, h2) ∧ Inv h2
def LS_14 (N : Nat) (Inv : mu_H → Prop) : Prop := ∀ h, Inv h → ∀ a1 a2 a3 : Int32, ∃ (r : Int32) (h1 : mu_H) (h2 : mu_H), f_Owe_years N h a1 ((a2.toInt64 <<< ((32 : Int32).toInt64 &&& 63)) ||| (a3.toInt64 &&& 4294967295)) = some (r, h1) ∧ f_Mod_years N h1 a1 ((a2.toInt64 <<< ((32 : Int32).toInt64 &&& 63)) ||| (a3.toInt64 &&& 4294967295)) = some (r, h2) ∧ Inv h2
def LS_15 (N : Nat) (Inv : mu_H → Prop) : Prop := ∀ h, Inv h → ∀ a1 : Int32, ∃ (r : Int32), f_Owe_status N h a1 = some r ∧ f_Mod_status N h a1 = some r
def LS_16 (N : Nat) (Inv : mu_H → Prop) : Prop := ∀ h, Inv h → ∃ (r : Int32) (h1 : mu_H) (h2 : mu_H), f_Owe_undo N h  = some (r, h1) ∧ f_Mod_undo N h1  = some (r, h2) ∧ Inv h2
def LS_17 (N : Nat) (Inv : mu_H → Prop) : Prop := ∀ h, Inv h → ∀ a1 a2 : Int32, ∃ (r : Int32), f_Owe_log N h a1 a2 = some r ∧ f_Mod_log N h a1 a2 = some r
def LS_18 (N : Nat) (Inv : mu_H → Prop) : Prop := ∀ h, Inv h → ∀ a1 a2 a3 : Int32, ∃ (r : Int32) (h1 : mu_H) (h2 : mu_H), f_Owe_least N h a1 a2 a3 = some (r, h1) ∧ f_Mod_least N h1 a1 a2 a3 = some (r, h2) ∧ Inv h2
def LS_19 (N : Nat) (Inv : mu_H → Prop) : Prop := ∀ h, Inv h → ∀ a1 a2 a3 : Int32, ∃ (r : Int32) (h1 : mu_H) (h2 : mu_H), f_Owe_way N h a1 a2 a3 = some (r, h1) ∧ f_Mod_way N h1 a1 a2 a3 = some (r, h2) ∧ Inv h2
def LS_20 (N : Nat) (Inv : mu_H → Prop) : Prop := ∀ h, Inv h → ∀ a1 : Int32, ∃ (r : Int32) (h1 : mu_H) (h2 : mu_H), f_Owe_worth N h a1 = some (r, h1) ∧ f_Mod_worth N h1 a1 = some (r, h2) ∧ Inv h2
def LS_21 (N : Nat) (Inv : mu_H → Prop) : Prop := ∀ h, Inv h → ∃ (r : Int32) (h1 : mu_H) (h2 : mu_H), f_Owe_buys N h  = some (r, h1) ∧ f_Mod_buys N h1  = some (r, h2) ∧ Inv h2
def LS_22 (N : Nat) (Inv : mu_H → Prop) : Prop := ∀ h, Inv h → ∀ a1 a2 a3 a4 a5 a6 : Int32, ∃ (r : Int32) (h1 : mu_H) (h2 : mu_H), f_Owe_game N h a1 a2 a3 a4 a5 a6 = some (r, h1) ∧ f_Mod_game N h1 a1 a2 a3 a4 a5 a6 = some (r, h2) ∧ Inv h2
def LS_23 (N : Nat) (Inv : mu_H → Prop) : Prop := ∀ h, Inv h → ∀ a1 a2 a3 a4 : Int32, ∃ (r : Int32) (h1 : mu_H) (h2 : mu_H), f_Owe_rests N h a1 a2 a3 a4 = some (r, h1) ∧ f_Mod_rests N h1 a1 a2 a3 a4 = some (r, h2) ∧ Inv h2
def LS_24 (N : Nat) (Inv : mu_H → Prop) : Prop := ∀ h, Inv h → ∀ a1 : Int32, ∃ (r : Int32) (h1 : mu_H) (h2 : mu_H), f_Owe_road N h a1 = some (r, h1) ∧ f_Mod_road N h1 a1 = some (r, h2) ∧ Inv h2
def LS_25 (N : Nat) (Inv : mu_H → Prop) : Prop := ∀ h, Inv h → ∀ a1 a2 : Int32, ∃ (r : Int32) (h1 : mu_H) (h2 : mu_H), f_Owe_shares N h a1 a2 = some (r, h1) ∧ f_Mod_shares N h1 a1 a2 = some (r, h2) ∧ Inv h2
def LS_26 (N : Nat) (Inv : mu_H → Prop) : Prop := ∀ h, Inv h → ∀ a1 a2 : Int32, ∃ (r : Int32) (h1 : mu_H) (h2 : mu_H), f_Owe_seen N h a1 (if a2 = 0 then 0 else 1) = some (r, h1) ∧ f_Mod_seen N h1 a1 (if a2 = 0 then 0 else 1) = some (r, h2) ∧ Inv h2
def LS_27 (N : Nat) (Inv : mu_H → Prop) : Prop := ∀ h, Inv h → ∀ a1 a2 : Int32, ∃ (r : Int32), f_Owe_feigned N h a1 a2 = some r ∧ f_Mod_feigned N h a1 a2 = some r
def LS_28 (N : Nat) (Inv : mu_H → Prop) : Prop := ∀ h, Inv h → ∀ a1 : Int32, ∃ (r : Int32), f_Owe_honest N h a1 = some r ∧ f_Mod_honest N h a1 = some r
def LS_29 (N : Nat) (Inv : mu_H → Prop) : Prop := ∀ h, Inv h → ∀ a1 : Int32, ∃ (r : Int32), f_Owe_best N h a1 = some r ∧ f_Mod_best N h a1 = some r
def LS_30 (N : Nat) (Inv : mu_H → Prop) : Prop := ∀ h, Inv h → ∀ a1 a2 : Int32, ∃ (r : Int32) (h1 : mu_H) (h2 : mu_H), f_Owe_whose N h a1 a2 = some (r, h1) ∧ f_Mod_whose N h1 a1 a2 = some (r, h2) ∧ Inv h2
def LS_31 (N : Nat) (Inv : mu_H → Prop) : Prop := ∀ h, Inv h → ∀ a1 : Int32, ∃ (r : Int32) (h2 : mu_H), f_Owe_fails N h a1 = some r ∧ f_Mod_fails N h a1 = some (r, h2) ∧ Inv h2
def LS_32 (N : Nat) (Inv : mu_H → Prop) : Prop := ∀ h, Inv h → ∀ a1 a2 a3 : Int32, ∃ (r : Int32) (h1 : mu_H) (h2 : mu_H), f_Owe_odds N h a1 a2 a3 = some (r, h1) ∧ f_Mod_odds N h1 a1 a2 a3 = some (r, h2) ∧ Inv h2
def LS_33 (N : Nat) (Inv : mu_H → Prop) : Prop := ∀ h, Inv h → ∀ a1 a2 : Int32, ∃ (r : Int32) (h1 : mu_H) (h2 : mu_H), f_Owe_toll N h a1 a2 = some (r, h1) ∧ f_Mod_toll N h1 a1 a2 = some (r, h2) ∧ Inv h2
def LS_34 (N : Nat) (Inv : mu_H → Prop) : Prop := ∀ h, Inv h → ∃ (r : Int32), f_Owe_worst N h  = some r ∧ f_Mod_worst N h  = some r
def LS_35 (N : Nat) (Inv : mu_H → Prop) : Prop := ∀ h, Inv h → ∃ (r : Int32), f_Owe_ends N h  = some r ∧ f_Mod_ends N h  = some r
def LS_36 (N : Nat) (Inv : mu_H → Prop) : Prop := ∀ h, Inv h → ∃ (r : Int32), f_Owe_cut N h  = some r ∧ f_Mod_cut N h  = some r
def LS_37 (N : Nat) (Inv : mu_H → Prop) : Prop := ∀ h, Inv h → ∀ a1 : Int32, ∃ (r : Int32), f_Owe_neighbours N h a1 = some r ∧ f_Mod_neighbours N h a1 = some r
def LS_38 (N : Nat) (Inv : mu_H → Prop) : Prop := ∀ h, Inv h → ∃ (r : Int32) (h1 : mu_H) (h2 : mu_H), f_Owe_image N h  = some (r, h1) ∧ f_Mod_image N h1  = some (r, h2) ∧ Inv h2
def LS_39 (N : Nat) (Inv : mu_H → Prop) : Prop := ∀ h, Inv h → ∃ (r : Int32) (h1 : mu_H) (h2 : mu_H), f_Owe_back N h  = some (r, h1) ∧ f_Mod_back N h1  = some (r, h2) ∧ Inv h2
def LS_40 (N : Nat) (Inv : mu_H → Prop) : Prop := ∀ h, Inv h → ∀ a1 : Int32, ∃ (r : Int32), f_Owe_count N h a1 = some r ∧ f_Mod_count N h a1 = some r
/-- every call of both, from every state that Inv tells: the same answer, and Inv again (house apart) -/
def LSall (N : Nat) (Inv : mu_H → Prop) : Prop := LS_0 N Inv ∧ LS_1 N Inv ∧ LS_2 N Inv ∧ LS_3 N Inv ∧ LS_4 N Inv ∧ LS_5 N Inv ∧ LS_7 N Inv ∧ LS_8 N Inv ∧ LS_9 N Inv ∧ LS_10 N Inv ∧ LS_11 N Inv ∧ LS_12 N Inv ∧ LS_13 N Inv ∧ LS_14 N Inv ∧ LS_15 N Inv ∧ LS_16 N Inv ∧ LS_17 N Inv ∧ LS_18 N Inv ∧ LS_19 N Inv ∧ LS_20 N Inv ∧ LS_21 N Inv ∧ LS_22 N Inv ∧ LS_23 N Inv ∧ LS_24 N Inv ∧ LS_25 N Inv ∧ LS_26 N Inv ∧ LS_27 N Inv ∧ LS_28 N Inv ∧ LS_29 N Inv ∧ LS_30 N Inv ∧ LS_31 N Inv ∧ LS_32 N Inv ∧ LS_33 N Inv ∧ LS_34 N Inv ∧ LS_35 N Inv ∧ LS_36 N Inv ∧ LS_37 N Inv ∧ LS_38 N Inv ∧ LS_39 N Inv ∧ LS_40 N Inv
/-- the case of house, told apart -/
def LC6 (X : mu_X) (N : Nat) (Inv : mu_H → Prop) : Prop := ∀ (b L : Nat) (xs : Nat → Int32) (cs ss : Nat) (i : Int32) (h : mu_H), Inv h → cs + 1 ≤ 601024 → ss + 6 ≤ 7293034 → ix (i + 1) L = true → ix (i + 2) L = true → (∀ h2, Inv h2 → aG X m_law room_1 lwA (lwE b L xs) (cs + 1) (ss + 6) (fun _ : Unit => lawQ) (some ()) 1638 [(0, .ref b), (1, .ref (xa X 0)), (2, .ref (xa X 51)), (3, .ref (xa X 79)), (4, .int i)] [] h2) → aG X m_law room_1 lwA (lwE b L xs) cs ss (fun _ : Unit => lawQ) (some ()) 430 [(0, .ref b), (1, .ref (xa X 0)), (2, .ref (xa X 51)), (3, .ref (xa X 79)), (4, .int i)] [] h
theorem nI_s7 (j : Nat) : nI (7 * j) + 7 = nI (7 * (j + 1)) := by
  rw [show (7 : Int32) = nI 7 from rfl, nI_add]; rfl
set_option maxHeartbeats 4000000 in
set_option maxRecDepth 100000 in
theorem law_loop {X : mu_X} {b L : Nat} {xs : Nat → Int32} {N : Nat} {Inv : mu_H → Prop} (hL : L ≤ 3584) (HS : LSall N Inv) (h6 : LC6 X N Inv) : ∀ (n j : Nat) (i : Int32) (h : mu_H) (cs ss : Nat), i = nI (7 * j) → 7 * j ≤ L → L - 7 * j < n → Inv h → cs ≤ 100 + j → ss ≤ 30000 + 6 * j → aG X m_law room_1 lwA (lwE b L xs) cs ss (fun _ : Unit => lawQ) (some ()) 23 [(0, .ref b), (1, .ref (xa X 0)), (2, .ref (xa X 51)), (3, .ref (xa X 79)), (4, .int i)] [] h := by
  intro n
  induction n with
  | zero => intro j i h cs ss hi hj hn; omega
  | succ n ih =>
    intro j i h cs ss hi hj hn hI hcs hss
    refine ro_iload (pc := 23) 4 dL_law_23 rfl ?_
    refine ro_aload_n (pc := 25) 0 dL_law_25 rfl rfl ?_
    refine ao_slen (v := nI L) (pc := 26) rfl dL_law_26 ?_
    refine ro_bipush (v := 7) (pc := 27) dL_law_27 (by decide) ?_
    refine ro_isub (pc := 29) dL_law_29 ?_
    have hsub : (nI L - 7).toInt = (L : Int) - 7 := pk_sub_toInt (a := L) (b := 7) (by omega) (by omega)
    have hit : i.toInt = ((7 * j : Nat) : Int) := by rw [hi]; exact nI_toInt (by omega)
    by_cases hend : nI L - 7 < i
    · refine ao_icmp_gt_t (tgt := 1644) (pc := 30) dL_law_30 (by decide) hend ?_
      exact law_end (by omega) (by omega)
    refine ao_icmp_gt_f (tgt := 1644) (pc := 30) dL_law_30 (by decide) hend ?_
    have hle : 7 * j + 7 ≤ L := by
      have h1 : ¬ (nI L - 7).toInt < i.toInt := fun q => hend (Int32.lt_iff_toInt_lt.mpr q)
      rw [hsub, hit] at h1
      omega
    have hxk : ∀ q : Nat, q < 7 → ix (i + nI q) L = true := fun q hq => by rw [hi, nI_add]; exact ix_nI (by omega) (by omega)
    have hx0 : ix i L = true := by rw [hi]; exact ix_nI (by omega) (by omega)
    have hx1 : ix (i + 1) L = true := hxk 1 (by omega)
    have hx2 : ix (i + 2) L = true := hxk 2 (by omega)
    have hx3 : ix (i + 3) L = true := hxk 3 (by omega)
    have hx4 : ix (i + 4) L = true := hxk 4 (by omega)
    have hx5 : ix (i + 5) L = true := hxk 5 (by omega)
    have hx6 : ix (i + 6) L = true := hxk 6 (by omega)
    have hcs2 : cs ≤ room_1.cells ∧ ss ≤ room_1.slots := ⟨show cs ≤ 601024 by omega, show ss ≤ 7293034 by omega⟩
    refine ro_aload_n (pc := 33) 0 dL_law_33 rfl rfl ?_
    refine ro_iload (pc := 34) 4 dL_law_34 rfl ?_
    refine ao_sld (pc := 36) hx0 dL_law_36 ?_
    refine ro_bipush (v := 63) (pc := 37) dL_law_37 (by decide) ?_
    refine ro_iand (pc := 39) dL_law_39 ?_
    generalize xs i.toNatClampNeg = v
    obtain ⟨k, hk, e⟩ := and63 v
    have hkk : k = 0 ∨ k = 1 ∨ k = 2 ∨ k = 3 ∨ k = 4 ∨ k = 5 ∨ k = 6 ∨ k = 7 ∨ k = 8 ∨ k = 9 ∨ k = 10 ∨ k = 11 ∨ k = 12 ∨ k = 13 ∨ k = 14 ∨ k = 15 ∨ k = 16 ∨ k = 17 ∨ k = 18 ∨ k = 19 ∨ k = 20 ∨ k = 21 ∨ k = 22 ∨ k = 23 ∨ k = 24 ∨ k = 25 ∨ k = 26 ∨ k = 27 ∨ k = 28 ∨ k = 29 ∨ k = 30 ∨ k = 31 ∨ k = 32 ∨ k = 33 ∨ k = 34 ∨ k = 35 ∨ k = 36 ∨ k = 37 ∨ k = 38 ∨ k = 39 ∨ k = 40 ∨ 41 ≤ k := by omega
    rcases hkk with rfl | rfl | rfl | rfl | rfl | rfl | rfl | rfl | rfl | rfl | rfl | rfl | rfl | rfl | rfl | rfl | rfl | rfl | rfl | rfl | rfl | rfl | rfl | rfl | rfl | rfl | rfl | rfl | rfl | rfl | rfl | rfl | rfl | rfl | rfl | rfl | rfl | rfl | rfl | rfl | rfl | hkk
    · rw [show v &&& 63 = nI 0 from e]
      refine ao_ts (x := nI 0) (off := 180) (tgt := 220) (pc := 40) dL_law_40 (by decide) (by decide) (by decide) (by decide) ?_
      obtain ⟨r, h1, h2, hF, hG, hI2⟩ := HS.1 h hI (xs (i + 1).toNatClampNeg) (xs (i + 2).toNatClampNeg) (xs (i + 3).toNatClampNeg) (xs (i + 4).toNatClampNeg) (xs (i + 5).toNatClampNeg)
      exact lc_0 hcs2 hx1 hx2 hx3 hx4 hx5 hx6 hF hG (ao_widen (Nat.le_succ cs) (Nat.le_add_right ss 6) (law_next (ih (j + 1) (i + 7) h2 (cs + 1) (ss + 6) (by rw [hi]; exact nI_s7 j) (by omega) (by omega) hI2 (by omega) (by omega))))
    · rw [show v &&& 63 = nI 1 from e]
      refine ao_ts (x := nI 1) (off := 253) (tgt := 293) (pc := 40) dL_law_40 (by decide) (by decide) (by decide) (by decide) ?_
      obtain ⟨r, h1, h2, hF, hG, hI2⟩ := HS.2.1 h hI (xs (i + 1).toNatClampNeg)
      exact lc_1 hcs2 hx1 hx2 hx3 hx4 hx5 hx6 hF hG (ao_widen (Nat.le_succ cs) (Nat.le_add_right ss 6) (law_next (ih (j + 1) (i + 7) h2 (cs + 1) (ss + 6) (by rw [hi]; exact nI_s7 j) (by omega) (by omega) hI2 (by omega) (by omega))))
    · rw [show v &&& 63 = nI 2 from e]
      refine ao_ts (x := nI 2) (off := 278) (tgt := 318) (pc := 40) dL_law_40 (by decide) (by decide) (by decide) (by decide) ?_
      obtain ⟨r, h1, h2, hF, hG, hI2⟩ := HS.2.2.1 h hI (xs (i + 1).toNatClampNeg)
      exact lc_2 hcs2 hx1 hx2 hx3 hx4 hx5 hx6 hF hG (ao_widen (Nat.le_succ cs) (Nat.le_add_right ss 6) (law_next (ih (j + 1) (i + 7) h2 (cs + 1) (ss + 6) (by rw [hi]; exact nI_s7 j) (by omega) (by omega) hI2 (by omega) (by omega))))
    · rw [show v &&& 63 = nI 3 from e]
      refine ao_ts (x := nI 3) (off := 303) (tgt := 343) (pc := 40) dL_law_40 (by decide) (by decide) (by decide) (by decide) ?_
      obtain ⟨r, h1, h2, hF, hG, hI2⟩ := HS.2.2.2.1 h hI (xs (i + 1).toNatClampNeg)
      exact lc_3 hcs2 hx1 hx2 hx3 hx4 hx5 hx6 hF hG (ao_widen (Nat.le_succ cs) (Nat.le_add_right ss 6) (law_next (ih (j + 1) (i + 7) h2 (cs + 1) (ss + 6) (by rw [hi]; exact nI_s7 j) (by omega) (by omega) hI2 (by omega) (by omega))))
    · rw [show v &&& 63 = nI 4 from e]
      refine ao_ts (x := nI 4) (off := 328) (tgt := 368) (pc := 40) dL_law_40 (by decide) (by decide) (by decide) (by decide) ?_
      have hI2 := hI
      obtain ⟨r, hF, hG⟩ := HS.2.2.2.2.1 h hI (xs (i + 1).toNatClampNeg)
      exact lc_4 hcs2 hx1 hx2 hx3 hx4 hx5 hx6 hF hG (ao_widen (Nat.le_succ cs) (Nat.le_add_right ss 6) (law_next (ih (j + 1) (i + 7) h (cs + 1) (ss + 6) (by rw [hi]; exact nI_s7 j) (by omega) (by omega) hI2 (by omega) (by omega))))
    · rw [show v &&& 63 = nI 5 from e]
      refine ao_ts (x := nI 5) (off := 353) (tgt := 393) (pc := 40) dL_law_40 (by decide) (by decide) (by decide) (by decide) ?_
      have hI2 := hI
      obtain ⟨r, hF, hG⟩ := HS.2.2.2.2.2.1 h hI (xs (i + 1).toNatClampNeg) (xs (i + 2).toNatClampNeg)
      exact lc_5 hcs2 hx1 hx2 hx3 hx4 hx5 hx6 hF hG (ao_widen (Nat.le_succ cs) (Nat.le_add_right ss 6) (law_next (ih (j + 1) (i + 7) h (cs + 1) (ss + 6) (by rw [hi]; exact nI_s7 j) (by omega) (by omega) hI2 (by omega) (by omega))))
    · rw [show v &&& 63 = nI 6 from e]
      refine ao_ts (x := nI 6) (off := 390) (tgt := 430) (pc := 40) dL_law_40 (by decide) (by decide) (by decide) (by decide) ?_
      exact h6 b L xs cs ss i h hI (by omega) (by omega) hx1 hx2 (fun h2 hI2 => law_next (ih (j + 1) (i + 7) h2 (cs + 1) (ss + 6) (by rw [hi]; exact nI_s7 j) (by omega) (by omega) hI2 (by omega) (by omega)))
    · rw [show v &&& 63 = nI 7 from e]
      refine ao_ts (x := nI 7) (off := 458) (tgt := 498) (pc := 40) dL_law_40 (by decide) (by decide) (by decide) (by decide) ?_
      obtain ⟨r, h1, h2, hF, hG, hI2⟩ := HS.2.2.2.2.2.2.1 h hI (xs (i + 1).toNatClampNeg)
      exact lc_7 hcs2 hx1 hx2 hx3 hx4 hx5 hx6 hF hG (ao_widen (Nat.le_succ cs) (Nat.le_add_right ss 6) (law_next (ih (j + 1) (i + 7) h2 (cs + 1) (ss + 6) (by rw [hi]; exact nI_s7 j) (by omega) (by omega) hI2 (by omega) (by omega))))
    · rw [show v &&& 63 = nI 8 from e]
      refine ao_ts (x := nI 8) (off := 483) (tgt := 523) (pc := 40) dL_law_40 (by decide) (by decide) (by decide) (by decide) ?_
      have hI2 := hI
      obtain ⟨r, hF, hG⟩ := HS.2.2.2.2.2.2.2.1 h hI (xs (i + 1).toNatClampNeg) (xs (i + 2).toNatClampNeg)
      exact lc_8 hcs2 hx1 hx2 hx3 hx4 hx5 hx6 hF hG (ao_widen (Nat.le_succ cs) (Nat.le_add_right ss 6) (law_next (ih (j + 1) (i + 7) h (cs + 1) (ss + 6) (by rw [hi]; exact nI_s7 j) (by omega) (by omega) hI2 (by omega) (by omega))))
    · rw [show v &&& 63 = nI 9 from e]
      refine ao_ts (x := nI 9) (off := 520) (tgt := 560) (pc := 40) dL_law_40 (by decide) (by decide) (by decide) (by decide) ?_
      obtain ⟨r, h1, h2, hF, hG, hI2⟩ := HS.2.2.2.2.2.2.2.2.1 h hI (xs (i + 1).toNatClampNeg) (xs (i + 2).toNatClampNeg) (xs (i + 3).toNatClampNeg)
      exact lc_9 hcs2 hx1 hx2 hx3 hx4 hx5 hx6 hF hG (ao_widen (Nat.le_succ cs) (Nat.le_add_right ss 6) (law_next (ih (j + 1) (i + 7) h2 (cs + 1) (ss + 6) (by rw [hi]; exact nI_s7 j) (by omega) (by omega) hI2 (by omega) (by omega))))
    · rw [show v &&& 63 = nI 10 from e]
      refine ao_ts (x := nI 10) (off := 569) (tgt := 609) (pc := 40) dL_law_40 (by decide) (by decide) (by decide) (by decide) ?_
      obtain ⟨r, h1, h2, hF, hG, hI2⟩ := HS.2.2.2.2.2.2.2.2.2.1 h hI (xs (i + 1).toNatClampNeg) (xs (i + 2).toNatClampNeg) (xs (i + 3).toNatClampNeg)
      exact lc_10 hcs2 hx1 hx2 hx3 hx4 hx5 hx6 hF hG (ao_widen (Nat.le_succ cs) (Nat.le_add_right ss 6) (law_next (ih (j + 1) (i + 7) h2 (cs + 1) (ss + 6) (by rw [hi]; exact nI_s7 j) (by omega) (by omega) hI2 (by omega) (by omega))))
    · rw [show v &&& 63 = nI 11 from e]
      refine ao_ts (x := nI 11) (off := 618) (tgt := 658) (pc := 40) dL_law_40 (by decide) (by decide) (by decide) (by decide) ?_
      obtain ⟨r, h1, h2, hF, hG, hI2⟩ := HS.2.2.2.2.2.2.2.2.2.2.1 h hI (xs (i + 1).toNatClampNeg) (xs (i + 2).toNatClampNeg)
      exact lc_11 hcs2 hx1 hx2 hx3 hx4 hx5 hx6 hF hG (ao_widen (Nat.le_succ cs) (Nat.le_add_right ss 6) (law_next (ih (j + 1) (i + 7) h2 (cs + 1) (ss + 6) (by rw [hi]; exact nI_s7 j) (by omega) (by omega) hI2 (by omega) (by omega))))
    · rw [show v &&& 63 = nI 12 from e]
      refine ao_ts (x := nI 12) (off := 655) (tgt := 695) (pc := 40) dL_law_40 (by decide) (by decide) (by decide) (by decide) ?_
      obtain ⟨r, h1, h2, hF, hG, hI2⟩ := HS.2.2.2.2.2.2.2.2.2.2.2.1 h hI (xs (i + 1).toNatClampNeg)
      exact lc_12 hcs2 hx1 hx2 hx3 hx4 hx5 hx6 hF hG (ao_widen (Nat.le_succ cs) (Nat.le_add_right ss 6) (law_next (ih (j + 1) (i + 7) h2 (cs + 1) (ss + 6) (by rw [hi]; exact nI_s7 j) (by omega) (by omega) hI2 (by omega) (by omega))))
    · rw [show v &&& 63 = nI 13 from e]
      refine ao_ts (x := nI 13) (off := 680) (tgt := 720) (pc := 40) dL_law_40 (by decide) (by decide) (by decide) (by decide) ?_
      obtain ⟨r, h1, h2, hF, hG, hI2⟩ := HS.2.2.2.2.2.2.2.2.2.2.2.2.1 h hI (xs (i + 1).toNatClampNeg)
      exact lc_13 hcs2 hx1 hx2 hx3 hx4 hx5 hx6 hF hG (ao_widen (Nat.le_succ cs) (Nat.le_add_right ss 6) (law_next (ih (j + 1) (i + 7) h2 (cs + 1) (ss + 6) (by rw [hi]; exact nI_s7 j) (by omega) (by omega) hI2 (by omega) (by omega))))
    · rw [show v &&& 63 = nI 14 from e]
      refine ao_ts (x := nI 14) (off := 705) (tgt := 745) (pc := 40) dL_law_40 (by decide) (by decide) (by decide) (by decide) ?_
      obtain ⟨r, h1, h2, hF, hG, hI2⟩ := HS.2.2.2.2.2.2.2.2.2.2.2.2.2.1 h hI (xs (i + 1).toNatClampNeg) (xs (i + 2).toNatClampNeg) (xs (i + 3).toNatClampNeg)
      exact lc_14 hcs2 hx1 hx2 hx3 hx4 hx5 hx6 hF hG (ao_widen (Nat.le_succ cs) (Nat.le_add_right ss 6) (law_next (ih (j + 1) (i + 7) h2 (cs + 1) (ss + 6) (by rw [hi]; exact nI_s7 j) (by omega) (by omega) hI2 (by omega) (by omega))))
    · rw [show v &&& 63 = nI 15 from e]
      refine ao_ts (x := nI 15) (off := 774) (tgt := 814) (pc := 40) dL_law_40 (by decide) (by decide) (by decide) (by decide) ?_
      have hI2 := hI
      obtain ⟨r, hF, hG⟩ := HS.2.2.2.2.2.2.2.2.2.2.2.2.2.2.1 h hI (xs (i + 1).toNatClampNeg)
      exact lc_15 hcs2 hx1 hx2 hx3 hx4 hx5 hx6 hF hG (ao_widen (Nat.le_succ cs) (Nat.le_add_right ss 6) (law_next (ih (j + 1) (i + 7) h (cs + 1) (ss + 6) (by rw [hi]; exact nI_s7 j) (by omega) (by omega) hI2 (by omega) (by omega))))
    · rw [show v &&& 63 = nI 16 from e]
      refine ao_ts (x := nI 16) (off := 799) (tgt := 839) (pc := 40) dL_law_40 (by decide) (by decide) (by decide) (by decide) ?_
      obtain ⟨r, h1, h2, hF, hG, hI2⟩ := HS.2.2.2.2.2.2.2.2.2.2.2.2.2.2.2.1 h hI 
      exact lc_16 hcs2 hx1 hx2 hx3 hx4 hx5 hx6 hF hG (ao_widen (Nat.le_succ cs) (Nat.le_add_right ss 6) (law_next (ih (j + 1) (i + 7) h2 (cs + 1) (ss + 6) (by rw [hi]; exact nI_s7 j) (by omega) (by omega) hI2 (by omega) (by omega))))
    · rw [show v &&& 63 = nI 17 from e]
      refine ao_ts (x := nI 17) (off := 812) (tgt := 852) (pc := 40) dL_law_40 (by decide) (by decide) (by decide) (by decide) ?_
      have hI2 := hI
      obtain ⟨r, hF, hG⟩ := HS.2.2.2.2.2.2.2.2.2.2.2.2.2.2.2.2.1 h hI (xs (i + 1).toNatClampNeg) (xs (i + 2).toNatClampNeg)
      exact lc_17 hcs2 hx1 hx2 hx3 hx4 hx5 hx6 hF hG (ao_widen (Nat.le_succ cs) (Nat.le_add_right ss 6) (law_next (ih (j + 1) (i + 7) h (cs + 1) (ss + 6) (by rw [hi]; exact nI_s7 j) (by omega) (by omega) hI2 (by omega) (by omega))))
    · rw [show v &&& 63 = nI 18 from e]
      refine ao_ts (x := nI 18) (off := 849) (tgt := 889) (pc := 40) dL_law_40 (by decide) (by decide) (by decide) (by decide) ?_
      obtain ⟨r, h1, h2, hF, hG, hI2⟩ := HS.2.2.2.2.2.2.2.2.2.2.2.2.2.2.2.2.2.1 h hI (xs (i + 1).toNatClampNeg) (xs (i + 2).toNatClampNeg) (xs (i + 3).toNatClampNeg)
      exact lc_18 hcs2 hx1 hx2 hx3 hx4 hx5 hx6 hF hG (ao_widen (Nat.le_succ cs) (Nat.le_add_right ss 6) (law_next (ih (j + 1) (i + 7) h2 (cs + 1) (ss + 6) (by rw [hi]; exact nI_s7 j) (by omega) (by omega) hI2 (by omega) (by omega))))
    · rw [show v &&& 63 = nI 19 from e]
      refine ao_ts (x := nI 19) (off := 898) (tgt := 938) (pc := 40) dL_law_40 (by decide) (by decide) (by decide) (by decide) ?_
      obtain ⟨r, h1, h2, hF, hG, hI2⟩ := HS.2.2.2.2.2.2.2.2.2.2.2.2.2.2.2.2.2.2.1 h hI (xs (i + 1).toNatClampNeg) (xs (i + 2).toNatClampNeg) (xs (i + 3).toNatClampNeg)
      exact lc_19 hcs2 hx1 hx2 hx3 hx4 hx5 hx6 hF hG (ao_widen (Nat.le_succ cs) (Nat.le_add_right ss 6) (law_next (ih (j + 1) (i + 7) h2 (cs + 1) (ss + 6) (by rw [hi]; exact nI_s7 j) (by omega) (by omega) hI2 (by omega) (by omega))))
    · rw [show v &&& 63 = nI 20 from e]
      refine ao_ts (x := nI 20) (off := 947) (tgt := 987) (pc := 40) dL_law_40 (by decide) (by decide) (by decide) (by decide) ?_
      obtain ⟨r, h1, h2, hF, hG, hI2⟩ := HS.2.2.2.2.2.2.2.2.2.2.2.2.2.2.2.2.2.2.2.1 h hI (xs (i + 1).toNatClampNeg)
      exact lc_20 hcs2 hx1 hx2 hx3 hx4 hx5 hx6 hF hG (ao_widen (Nat.le_succ cs) (Nat.le_add_right ss 6) (law_next (ih (j + 1) (i + 7) h2 (cs + 1) (ss + 6) (by rw [hi]; exact nI_s7 j) (by omega) (by omega) hI2 (by omega) (by omega))))
    · rw [show v &&& 63 = nI 21 from e]
      refine ao_ts (x := nI 21) (off := 972) (tgt := 1012) (pc := 40) dL_law_40 (by decide) (by decide) (by decide) (by decide) ?_
      obtain ⟨r, h1, h2, hF, hG, hI2⟩ := HS.2.2.2.2.2.2.2.2.2.2.2.2.2.2.2.2.2.2.2.2.1 h hI 
      exact lc_21 hcs2 hx1 hx2 hx3 hx4 hx5 hx6 hF hG (ao_widen (Nat.le_succ cs) (Nat.le_add_right ss 6) (law_next (ih (j + 1) (i + 7) h2 (cs + 1) (ss + 6) (by rw [hi]; exact nI_s7 j) (by omega) (by omega) hI2 (by omega) (by omega))))
    · rw [show v &&& 63 = nI 22 from e]
      refine ao_ts (x := nI 22) (off := 985) (tgt := 1025) (pc := 40) dL_law_40 (by decide) (by decide) (by decide) (by decide) ?_
      obtain ⟨r, h1, h2, hF, hG, hI2⟩ := HS.2.2.2.2.2.2.2.2.2.2.2.2.2.2.2.2.2.2.2.2.2.1 h hI (xs (i + 1).toNatClampNeg) (xs (i + 2).toNatClampNeg) (xs (i + 3).toNatClampNeg) (xs (i + 4).toNatClampNeg) (xs (i + 5).toNatClampNeg) (xs (i + 6).toNatClampNeg)
      exact lc_22 hcs2 hx1 hx2 hx3 hx4 hx5 hx6 hF hG (ao_widen (Nat.le_succ cs) (Nat.le_add_right ss 6) (law_next (ih (j + 1) (i + 7) h2 (cs + 1) (ss + 6) (by rw [hi]; exact nI_s7 j) (by omega) (by omega) hI2 (by omega) (by omega))))
    · rw [show v &&& 63 = nI 23 from e]
      refine ao_ts (x := nI 23) (off := 1072) (tgt := 1112) (pc := 40) dL_law_40 (by decide) (by decide) (by decide) (by decide) ?_
      obtain ⟨r, h1, h2, hF, hG, hI2⟩ := HS.2.2.2.2.2.2.2.2.2.2.2.2.2.2.2.2.2.2.2.2.2.2.1 h hI (xs (i + 1).toNatClampNeg) (xs (i + 2).toNatClampNeg) (xs (i + 3).toNatClampNeg) (xs (i + 4).toNatClampNeg)
      exact lc_23 hcs2 hx1 hx2 hx3 hx4 hx5 hx6 hF hG (ao_widen (Nat.le_succ cs) (Nat.le_add_right ss 6) (law_next (ih (j + 1) (i + 7) h2 (cs + 1) (ss + 6) (by rw [hi]; exact nI_s7 j) (by omega) (by omega) hI2 (by omega) (by omega))))
    · rw [show v &&& 63 = nI 24 from e]
      refine ao_ts (x := nI 24) (off := 1133) (tgt := 1173) (pc := 40) dL_law_40 (by decide) (by decide) (by decide) (by decide) ?_
      obtain ⟨r, h1, h2, hF, hG, hI2⟩ := HS.2.2.2.2.2.2.2.2.2.2.2.2.2.2.2.2.2.2.2.2.2.2.2.1 h hI (xs (i + 1).toNatClampNeg)
      exact lc_24 hcs2 hx1 hx2 hx3 hx4 hx5 hx6 hF hG (ao_widen (Nat.le_succ cs) (Nat.le_add_right ss 6) (law_next (ih (j + 1) (i + 7) h2 (cs + 1) (ss + 6) (by rw [hi]; exact nI_s7 j) (by omega) (by omega) hI2 (by omega) (by omega))))
    · rw [show v &&& 63 = nI 25 from e]
      refine ao_ts (x := nI 25) (off := 1158) (tgt := 1198) (pc := 40) dL_law_40 (by decide) (by decide) (by decide) (by decide) ?_
      obtain ⟨r, h1, h2, hF, hG, hI2⟩ := HS.2.2.2.2.2.2.2.2.2.2.2.2.2.2.2.2.2.2.2.2.2.2.2.2.1 h hI (xs (i + 1).toNatClampNeg) (xs (i + 2).toNatClampNeg)
      exact lc_25 hcs2 hx1 hx2 hx3 hx4 hx5 hx6 hF hG (ao_widen (Nat.le_succ cs) (Nat.le_add_right ss 6) (law_next (ih (j + 1) (i + 7) h2 (cs + 1) (ss + 6) (by rw [hi]; exact nI_s7 j) (by omega) (by omega) hI2 (by omega) (by omega))))
    · rw [show v &&& 63 = nI 26 from e]
      refine ao_ts (x := nI 26) (off := 1195) (tgt := 1235) (pc := 40) dL_law_40 (by decide) (by decide) (by decide) (by decide) ?_
      obtain ⟨r, h1, h2, hF, hG, hI2⟩ := HS.2.2.2.2.2.2.2.2.2.2.2.2.2.2.2.2.2.2.2.2.2.2.2.2.2.1 h hI (xs (i + 1).toNatClampNeg) (xs (i + 2).toNatClampNeg)
      by_cases hz : xs (i + 2).toNatClampNeg = 0
      · rw [if_pos hz] at hF hG
        exact lc_26_z hcs2 hx1 hx2 hx3 hx4 hx5 hx6 hz hF hG (ao_widen (Nat.le_succ cs) (Nat.le_add_right ss 6) (law_next (ih (j + 1) (i + 7) h2 (cs + 1) (ss + 6) (by rw [hi]; exact nI_s7 j) (by omega) (by omega) hI2 (by omega) (by omega))))
      · rw [if_neg hz] at hF hG
        exact lc_26_n hcs2 hx1 hx2 hx3 hx4 hx5 hx6 hz hF hG (ao_widen (Nat.le_succ cs) (Nat.le_add_right ss 6) (law_next (ih (j + 1) (i + 7) h2 (cs + 1) (ss + 6) (by rw [hi]; exact nI_s7 j) (by omega) (by omega) hI2 (by omega) (by omega))))
    · rw [show v &&& 63 = nI 27 from e]
      refine ao_ts (x := nI 27) (off := 1248) (tgt := 1288) (pc := 40) dL_law_40 (by decide) (by decide) (by decide) (by decide) ?_
      have hI2 := hI
      obtain ⟨r, hF, hG⟩ := HS.2.2.2.2.2.2.2.2.2.2.2.2.2.2.2.2.2.2.2.2.2.2.2.2.2.2.1 h hI (xs (i + 1).toNatClampNeg) (xs (i + 2).toNatClampNeg)
      exact lc_27 hcs2 hx1 hx2 hx3 hx4 hx5 hx6 hF hG (ao_widen (Nat.le_succ cs) (Nat.le_add_right ss 6) (law_next (ih (j + 1) (i + 7) h (cs + 1) (ss + 6) (by rw [hi]; exact nI_s7 j) (by omega) (by omega) hI2 (by omega) (by omega))))
    · rw [show v &&& 63 = nI 28 from e]
      refine ao_ts (x := nI 28) (off := 1285) (tgt := 1325) (pc := 40) dL_law_40 (by decide) (by decide) (by decide) (by decide) ?_
      have hI2 := hI
      obtain ⟨r, hF, hG⟩ := HS.2.2.2.2.2.2.2.2.2.2.2.2.2.2.2.2.2.2.2.2.2.2.2.2.2.2.2.1 h hI (xs (i + 1).toNatClampNeg)
      exact lc_28 hcs2 hx1 hx2 hx3 hx4 hx5 hx6 hF hG (ao_widen (Nat.le_succ cs) (Nat.le_add_right ss 6) (law_next (ih (j + 1) (i + 7) h (cs + 1) (ss + 6) (by rw [hi]; exact nI_s7 j) (by omega) (by omega) hI2 (by omega) (by omega))))
    · rw [show v &&& 63 = nI 29 from e]
      refine ao_ts (x := nI 29) (off := 1310) (tgt := 1350) (pc := 40) dL_law_40 (by decide) (by decide) (by decide) (by decide) ?_
      have hI2 := hI
      obtain ⟨r, hF, hG⟩ := HS.2.2.2.2.2.2.2.2.2.2.2.2.2.2.2.2.2.2.2.2.2.2.2.2.2.2.2.2.1 h hI (xs (i + 1).toNatClampNeg)
      exact lc_29 hcs2 hx1 hx2 hx3 hx4 hx5 hx6 hF hG (ao_widen (Nat.le_succ cs) (Nat.le_add_right ss 6) (law_next (ih (j + 1) (i + 7) h (cs + 1) (ss + 6) (by rw [hi]; exact nI_s7 j) (by omega) (by omega) hI2 (by omega) (by omega))))
    · rw [show v &&& 63 = nI 30 from e]
      refine ao_ts (x := nI 30) (off := 1335) (tgt := 1375) (pc := 40) dL_law_40 (by decide) (by decide) (by decide) (by decide) ?_
      obtain ⟨r, h1, h2, hF, hG, hI2⟩ := HS.2.2.2.2.2.2.2.2.2.2.2.2.2.2.2.2.2.2.2.2.2.2.2.2.2.2.2.2.2.1 h hI (xs (i + 1).toNatClampNeg) (xs (i + 2).toNatClampNeg)
      exact lc_30 hcs2 hx1 hx2 hx3 hx4 hx5 hx6 hF hG (ao_widen (Nat.le_succ cs) (Nat.le_add_right ss 6) (law_next (ih (j + 1) (i + 7) h2 (cs + 1) (ss + 6) (by rw [hi]; exact nI_s7 j) (by omega) (by omega) hI2 (by omega) (by omega))))
    · rw [show v &&& 63 = nI 31 from e]
      refine ao_ts (x := nI 31) (off := 1372) (tgt := 1412) (pc := 40) dL_law_40 (by decide) (by decide) (by decide) (by decide) ?_
      obtain ⟨r, h2, hF, hG, hI2⟩ := HS.2.2.2.2.2.2.2.2.2.2.2.2.2.2.2.2.2.2.2.2.2.2.2.2.2.2.2.2.2.2.1 h hI (xs (i + 1).toNatClampNeg)
      exact lc_31 hcs2 hx1 hx2 hx3 hx4 hx5 hx6 hF hG (ao_widen (Nat.le_succ cs) (Nat.le_add_right ss 6) (law_next (ih (j + 1) (i + 7) h2 (cs + 1) (ss + 6) (by rw [hi]; exact nI_s7 j) (by omega) (by omega) hI2 (by omega) (by omega))))
    · rw [show v &&& 63 = nI 32 from e]
      refine ao_ts (x := nI 32) (off := 1397) (tgt := 1437) (pc := 40) dL_law_40 (by decide) (by decide) (by decide) (by decide) ?_
      obtain ⟨r, h1, h2, hF, hG, hI2⟩ := HS.2.2.2.2.2.2.2.2.2.2.2.2.2.2.2.2.2.2.2.2.2.2.2.2.2.2.2.2.2.2.2.1 h hI (xs (i + 1).toNatClampNeg) (xs (i + 2).toNatClampNeg) (xs (i + 3).toNatClampNeg)
      exact lc_32 hcs2 hx1 hx2 hx3 hx4 hx5 hx6 hF hG (ao_widen (Nat.le_succ cs) (Nat.le_add_right ss 6) (law_next (ih (j + 1) (i + 7) h2 (cs + 1) (ss + 6) (by rw [hi]; exact nI_s7 j) (by omega) (by omega) hI2 (by omega) (by omega))))
    · rw [show v &&& 63 = nI 33 from e]
      refine ao_ts (x := nI 33) (off := 1446) (tgt := 1486) (pc := 40) dL_law_40 (by decide) (by decide) (by decide) (by decide) ?_
      obtain ⟨r, h1, h2, hF, hG, hI2⟩ := HS.2.2.2.2.2.2.2.2.2.2.2.2.2.2.2.2.2.2.2.2.2.2.2.2.2.2.2.2.2.2.2.2.1 h hI (xs (i + 1).toNatClampNeg) (xs (i + 2).toNatClampNeg)
      exact lc_33 hcs2 hx1 hx2 hx3 hx4 hx5 hx6 hF hG (ao_widen (Nat.le_succ cs) (Nat.le_add_right ss 6) (law_next (ih (j + 1) (i + 7) h2 (cs + 1) (ss + 6) (by rw [hi]; exact nI_s7 j) (by omega) (by omega) hI2 (by omega) (by omega))))
    · rw [show v &&& 63 = nI 34 from e]
      refine ao_ts (x := nI 34) (off := 1483) (tgt := 1523) (pc := 40) dL_law_40 (by decide) (by decide) (by decide) (by decide) ?_
      have hI2 := hI
      obtain ⟨r, hF, hG⟩ := HS.2.2.2.2.2.2.2.2.2.2.2.2.2.2.2.2.2.2.2.2.2.2.2.2.2.2.2.2.2.2.2.2.2.1 h hI 
      exact lc_34 hcs2 hx1 hx2 hx3 hx4 hx5 hx6 hF hG (ao_widen (Nat.le_succ cs) (Nat.le_add_right ss 6) (law_next (ih (j + 1) (i + 7) h (cs + 1) (ss + 6) (by rw [hi]; exact nI_s7 j) (by omega) (by omega) hI2 (by omega) (by omega))))
    · rw [show v &&& 63 = nI 35 from e]
      refine ao_ts (x := nI 35) (off := 1496) (tgt := 1536) (pc := 40) dL_law_40 (by decide) (by decide) (by decide) (by decide) ?_
      have hI2 := hI
      obtain ⟨r, hF, hG⟩ := HS.2.2.2.2.2.2.2.2.2.2.2.2.2.2.2.2.2.2.2.2.2.2.2.2.2.2.2.2.2.2.2.2.2.2.1 h hI 
      exact lc_35 hcs2 hx1 hx2 hx3 hx4 hx5 hx6 hF hG (ao_widen (Nat.le_succ cs) (Nat.le_add_right ss 6) (law_next (ih (j + 1) (i + 7) h (cs + 1) (ss + 6) (by rw [hi]; exact nI_s7 j) (by omega) (by omega) hI2 (by omega) (by omega))))
    · rw [show v &&& 63 = nI 36 from e]
      refine ao_ts (x := nI 36) (off := 1509) (tgt := 1549) (pc := 40) dL_law_40 (by decide) (by decide) (by decide) (by decide) ?_
      have hI2 := hI
      obtain ⟨r, hF, hG⟩ := HS.2.2.2.2.2.2.2.2.2.2.2.2.2.2.2.2.2.2.2.2.2.2.2.2.2.2.2.2.2.2.2.2.2.2.2.1 h hI 
      exact lc_36 hcs2 hx1 hx2 hx3 hx4 hx5 hx6 hF hG (ao_widen (Nat.le_succ cs) (Nat.le_add_right ss 6) (law_next (ih (j + 1) (i + 7) h (cs + 1) (ss + 6) (by rw [hi]; exact nI_s7 j) (by omega) (by omega) hI2 (by omega) (by omega))))
    · rw [show v &&& 63 = nI 37 from e]
      refine ao_ts (x := nI 37) (off := 1522) (tgt := 1562) (pc := 40) dL_law_40 (by decide) (by decide) (by decide) (by decide) ?_
      have hI2 := hI
      obtain ⟨r, hF, hG⟩ := HS.2.2.2.2.2.2.2.2.2.2.2.2.2.2.2.2.2.2.2.2.2.2.2.2.2.2.2.2.2.2.2.2.2.2.2.2.1 h hI (xs (i + 1).toNatClampNeg)
      exact lc_37 hcs2 hx1 hx2 hx3 hx4 hx5 hx6 hF hG (ao_widen (Nat.le_succ cs) (Nat.le_add_right ss 6) (law_next (ih (j + 1) (i + 7) h (cs + 1) (ss + 6) (by rw [hi]; exact nI_s7 j) (by omega) (by omega) hI2 (by omega) (by omega))))
    · rw [show v &&& 63 = nI 38 from e]
      refine ao_ts (x := nI 38) (off := 1547) (tgt := 1587) (pc := 40) dL_law_40 (by decide) (by decide) (by decide) (by decide) ?_
      obtain ⟨r, h1, h2, hF, hG, hI2⟩ := HS.2.2.2.2.2.2.2.2.2.2.2.2.2.2.2.2.2.2.2.2.2.2.2.2.2.2.2.2.2.2.2.2.2.2.2.2.2.1 h hI 
      exact lc_38 hcs2 hx1 hx2 hx3 hx4 hx5 hx6 hF hG (ao_widen (Nat.le_succ cs) (Nat.le_add_right ss 6) (law_next (ih (j + 1) (i + 7) h2 (cs + 1) (ss + 6) (by rw [hi]; exact nI_s7 j) (by omega) (by omega) hI2 (by omega) (by omega))))
    · rw [show v &&& 63 = nI 39 from e]
      refine ao_ts (x := nI 39) (off := 1560) (tgt := 1600) (pc := 40) dL_law_40 (by decide) (by decide) (by decide) (by decide) ?_
      obtain ⟨r, h1, h2, hF, hG, hI2⟩ := HS.2.2.2.2.2.2.2.2.2.2.2.2.2.2.2.2.2.2.2.2.2.2.2.2.2.2.2.2.2.2.2.2.2.2.2.2.2.2.1 h hI 
      exact lc_39 hcs2 hx1 hx2 hx3 hx4 hx5 hx6 hF hG (ao_widen (Nat.le_succ cs) (Nat.le_add_right ss 6) (law_next (ih (j + 1) (i + 7) h2 (cs + 1) (ss + 6) (by rw [hi]; exact nI_s7 j) (by omega) (by omega) hI2 (by omega) (by omega))))
    · rw [show v &&& 63 = nI 40 from e]
      refine ao_ts (x := nI 40) (off := 1573) (tgt := 1613) (pc := 40) dL_law_40 (by decide) (by decide) (by decide) (by decide) ?_
      have hI2 := hI
      obtain ⟨r, hF, hG⟩ := HS.2.2.2.2.2.2.2.2.2.2.2.2.2.2.2.2.2.2.2.2.2.2.2.2.2.2.2.2.2.2.2.2.2.2.2.2.2.2.2 h hI (xs (i + 1).toNatClampNeg)
      exact lc_40 hcs2 hx1 hx2 hx3 hx4 hx5 hx6 hF hG (ao_widen (Nat.le_succ cs) (Nat.le_add_right ss 6) (law_next (ih (j + 1) (i + 7) h (cs + 1) (ss + 6) (by rw [hi]; exact nI_s7 j) (by omega) (by omega) hI2 (by omega) (by omega))))
    · rw [e]
      have hkt : (nI k).toInt = (k : Int) := nI_toInt (by omega)
      refine ro_tsd (tgt := 1638) (pc := 40) dL_law_40 (by rw [hkt]; omega) (by decide) ?_
      exact law_next (ao_widen (Nat.le_succ cs) (Nat.le_add_right ss 6) (ih (j + 1) (i + 7) h (cs + 1) (ss + 6) (by rw [hi]; exact nI_s7 j) (by omega) (by omega) hI (by omega) (by omega)))
