/-! ===== the claim ===== -/
theorem i_vc : Claimed_1_1 ∧ Claimed_1_2 := claim_of law_ok
