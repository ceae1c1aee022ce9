/-! The claim -/
theorem i_vc : Claimed_1_1 ∧ Claimed_1_2 := zclaim (zpure_of (s_taskR rcok))
