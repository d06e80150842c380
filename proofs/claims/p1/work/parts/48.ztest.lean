/-! test -/
set_option maxRecDepth 1000000 in
theorem o_8 (a : Nat → Int32) : lOweK 57 w0e 8 a := zCall_I (n := 100000) (jx := 124) (jm := 255) (as := []) (by decide) (by decide) (by decide +kernel) okD_0 trivial
