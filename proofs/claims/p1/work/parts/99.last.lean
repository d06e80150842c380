set_option maxRecDepth 1000000 in
theorem zt1 : (pGo 400 356 (0, lv_args 0 [.ref 0, .int (-1)], [], [.inl (0, 20, .inl (fun _ => 0))])).isSome = true := by decide +kernel
theorem i_vc : Claimed_1_1 ∧ Claimed_1_2 := sorry
