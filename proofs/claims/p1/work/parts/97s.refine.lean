/-! REFINE: every step by the kernel. By program (wip/tools/mk98r.py). -/
set_option maxRecDepth 1000000 in
theorem zCl0_k : zCl0.isSome = true := by decide +kernel
set_option maxRecDepth 1000000 in
theorem zKp_k : zKp.isSome = true := by decide +kernel
set_option maxRecDepth 1000000 in
theorem zRs_1 : (zRs 1).isSome = true := by decide +kernel
set_option maxRecDepth 1000000 in
theorem zRs_2 : (zRs 2).isSome = true := by decide +kernel
set_option maxRecDepth 1000000 in
theorem zRs_3 : (zRs 3).isSome = true := by decide +kernel
set_option maxRecDepth 1000000 in
theorem zRs_4 : (zRs 4).isSome = true := by decide +kernel
set_option maxRecDepth 1000000 in
theorem zRs_5 : (zRs 5).isSome = true := by decide +kernel
set_option maxRecDepth 1000000 in
theorem zRs_6 : (zRs 6).isSome = true := by decide +kernel
set_option maxRecDepth 1000000 in
theorem zRs_7 : (zRs 7).isSome = true := by decide +kernel
set_option maxRecDepth 1000000 in
theorem zRs_8 : (zRs 8).isSome = true := by decide +kernel
