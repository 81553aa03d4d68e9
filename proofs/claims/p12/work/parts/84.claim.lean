/-! The claim (p12) -/
theorem i_vc : Claimed_1_1 ∧ Claimed_1_2 := i_vc_open (fun _ _ _ hL h01 => law_all hL h01)
