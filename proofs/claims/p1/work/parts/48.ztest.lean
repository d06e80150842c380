/-! test two -/
set_option maxRecDepth 1000000 in
theorem o_33 : lOweI 57 w0e 157 312 [.int 0] := zCall_I (n := 100000) (jx := 157) (jm := 312) (as := [.inl 0]) (by decide) (by decide) (by decide +kernel) okD_0 ⟨⟨by decide, rfl⟩, trivial⟩
