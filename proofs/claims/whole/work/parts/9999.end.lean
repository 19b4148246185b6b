/-! the owed statement -/
theorem i_vc : Claimed_1_1 ∧ Claimed_1_2 := gp_claim gp_law_all
