theorem i_vc : Claimed_1_1 ∧ Claimed_1_2 := mm_vc (fun _ _ h => lw_pure h)
