/-! the claim -/
theorem i_vc : Claimed_1_1 ∧ Claimed_1_2 := claim_open (N := 20000) (ls_all (by decide)) (ls_6 (by decide)) inv_0
