/-! The claim -/
theorem i_vc : Claimed_1_1 ∧ Claimed_1_2 := zclaim (zpure_of (fun _ => s_taskR rcok))
