/-! THE REFERENCE'S START, by the kernel with short cuts. By hand. -/
set_option maxRecDepth 1000000 in
theorem start0 : (match pGoX oC 10000 186 (0, lv_args 0 [.ref 57], [], wAe ++ [lCell 9 19]) with
  | some (none, w) => pEqB w0e w
  | _ => false) = true := by decide +kernel
