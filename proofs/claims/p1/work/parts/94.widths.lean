/-! EVERY WIDTH CHECKED BY THE KERNEL. By program (wip/tools/mk93n.py). -/
set_option maxRecDepth 1000000 in
theorem ckR_1 : chkR 1 25 = true := by decide +kernel
set_option maxRecDepth 1000000 in
theorem ckR_26 : chkR 26 25 = true := by decide +kernel
set_option maxRecDepth 1000000 in
theorem ckR_51 : chkR 51 25 = true := by decide +kernel
set_option maxRecDepth 1000000 in
theorem ckR_76 : chkR 76 25 = true := by decide +kernel
set_option maxRecDepth 1000000 in
theorem ckR_101 : chkR 101 25 = true := by decide +kernel
set_option maxRecDepth 1000000 in
theorem ckR_126 : chkR 126 25 = true := by decide +kernel
set_option maxRecDepth 1000000 in
theorem ckR_151 : chkR 151 25 = true := by decide +kernel
set_option maxRecDepth 1000000 in
theorem ckR_176 : chkR 176 25 = true := by decide +kernel
set_option maxRecDepth 1000000 in
theorem ckR_201 : chkR 201 25 = true := by decide +kernel
set_option maxRecDepth 1000000 in
theorem ckR_226 : chkR 226 25 = true := by decide +kernel
set_option maxRecDepth 1000000 in
theorem ckR_251 : chkR 251 25 = true := by decide +kernel
set_option maxRecDepth 1000000 in
theorem ckR_276 : chkR 276 25 = true := by decide +kernel
set_option maxRecDepth 1000000 in
theorem ckR_301 : chkR 301 25 = true := by decide +kernel
set_option maxRecDepth 1000000 in
theorem ckR_326 : chkR 326 25 = true := by decide +kernel
set_option maxRecDepth 1000000 in
theorem ckR_351 : chkR 351 25 = true := by decide +kernel
set_option maxRecDepth 1000000 in
theorem ckR_376 : chkR 376 25 = true := by decide +kernel
set_option maxRecDepth 1000000 in
theorem ckR_401 : chkR 401 25 = true := by decide +kernel
set_option maxRecDepth 1000000 in
theorem ckR_426 : chkR 426 25 = true := by decide +kernel
set_option maxRecDepth 1000000 in
theorem ckR_451 : chkR 451 25 = true := by decide +kernel
set_option maxRecDepth 1000000 in
theorem ckR_476 : chkR 476 25 = true := by decide +kernel
set_option maxRecDepth 1000000 in
theorem ckR_501 : chkR 501 25 = true := by decide +kernel
set_option maxRecDepth 1000000 in
theorem ckR_526 : chkR 526 25 = true := by decide +kernel
set_option maxRecDepth 1000000 in
theorem ckR_551 : chkR 551 25 = true := by decide +kernel
set_option maxRecDepth 1000000 in
theorem ckR_576 : chkR 576 25 = true := by decide +kernel
set_option maxRecDepth 1000000 in
theorem ckR_601 : chkR 601 25 = true := by decide +kernel
set_option maxRecDepth 1000000 in
theorem ckR_626 : chkR 626 25 = true := by decide +kernel
set_option maxRecDepth 1000000 in
theorem ckR_651 : chkR 651 25 = true := by decide +kernel
set_option maxRecDepth 1000000 in
theorem ckR_676 : chkR 676 25 = true := by decide +kernel
set_option maxRecDepth 1000000 in
theorem ckR_701 : chkR 701 25 = true := by decide +kernel
set_option maxRecDepth 1000000 in
theorem ckR_726 : chkR 726 25 = true := by decide +kernel
set_option maxRecDepth 1000000 in
theorem ckR_751 : chkR 751 25 = true := by decide +kernel
set_option maxRecDepth 1000000 in
theorem ckR_776 : chkR 776 25 = true := by decide +kernel
set_option maxRecDepth 1000000 in
theorem ckR_801 : chkR 801 25 = true := by decide +kernel
set_option maxRecDepth 1000000 in
theorem ckR_826 : chkR 826 25 = true := by decide +kernel
set_option maxRecDepth 1000000 in
theorem ckR_851 : chkR 851 25 = true := by decide +kernel
set_option maxRecDepth 1000000 in
theorem ckR_876 : chkR 876 25 = true := by decide +kernel
set_option maxRecDepth 1000000 in
theorem ckR_901 : chkR 901 25 = true := by decide +kernel
set_option maxRecDepth 1000000 in
theorem ckR_926 : chkR 926 25 = true := by decide +kernel
set_option maxRecDepth 1000000 in
theorem ckR_951 : chkR 951 25 = true := by decide +kernel
set_option maxRecDepth 1000000 in
theorem ckR_976 : chkR 976 25 = true := by decide +kernel
theorem ckR (m : Nat) (h1 : 1 ≤ m) (h2 : m ≤ 1000) : dup m = true ∨ runM m 24 GL P0 D0 4 = true := by
  rcases Nat.lt_or_ge m 26 with h | h
  · exact chkR_ok ckR_1 m (by omega) (by omega)
  rcases Nat.lt_or_ge m 51 with h | h
  · exact chkR_ok ckR_26 m (by omega) (by omega)
  rcases Nat.lt_or_ge m 76 with h | h
  · exact chkR_ok ckR_51 m (by omega) (by omega)
  rcases Nat.lt_or_ge m 101 with h | h
  · exact chkR_ok ckR_76 m (by omega) (by omega)
  rcases Nat.lt_or_ge m 126 with h | h
  · exact chkR_ok ckR_101 m (by omega) (by omega)
  rcases Nat.lt_or_ge m 151 with h | h
  · exact chkR_ok ckR_126 m (by omega) (by omega)
  rcases Nat.lt_or_ge m 176 with h | h
  · exact chkR_ok ckR_151 m (by omega) (by omega)
  rcases Nat.lt_or_ge m 201 with h | h
  · exact chkR_ok ckR_176 m (by omega) (by omega)
  rcases Nat.lt_or_ge m 226 with h | h
  · exact chkR_ok ckR_201 m (by omega) (by omega)
  rcases Nat.lt_or_ge m 251 with h | h
  · exact chkR_ok ckR_226 m (by omega) (by omega)
  rcases Nat.lt_or_ge m 276 with h | h
  · exact chkR_ok ckR_251 m (by omega) (by omega)
  rcases Nat.lt_or_ge m 301 with h | h
  · exact chkR_ok ckR_276 m (by omega) (by omega)
  rcases Nat.lt_or_ge m 326 with h | h
  · exact chkR_ok ckR_301 m (by omega) (by omega)
  rcases Nat.lt_or_ge m 351 with h | h
  · exact chkR_ok ckR_326 m (by omega) (by omega)
  rcases Nat.lt_or_ge m 376 with h | h
  · exact chkR_ok ckR_351 m (by omega) (by omega)
  rcases Nat.lt_or_ge m 401 with h | h
  · exact chkR_ok ckR_376 m (by omega) (by omega)
  rcases Nat.lt_or_ge m 426 with h | h
  · exact chkR_ok ckR_401 m (by omega) (by omega)
  rcases Nat.lt_or_ge m 451 with h | h
  · exact chkR_ok ckR_426 m (by omega) (by omega)
  rcases Nat.lt_or_ge m 476 with h | h
  · exact chkR_ok ckR_451 m (by omega) (by omega)
  rcases Nat.lt_or_ge m 501 with h | h
  · exact chkR_ok ckR_476 m (by omega) (by omega)
  rcases Nat.lt_or_ge m 526 with h | h
  · exact chkR_ok ckR_501 m (by omega) (by omega)
  rcases Nat.lt_or_ge m 551 with h | h
  · exact chkR_ok ckR_526 m (by omega) (by omega)
  rcases Nat.lt_or_ge m 576 with h | h
  · exact chkR_ok ckR_551 m (by omega) (by omega)
  rcases Nat.lt_or_ge m 601 with h | h
  · exact chkR_ok ckR_576 m (by omega) (by omega)
  rcases Nat.lt_or_ge m 626 with h | h
  · exact chkR_ok ckR_601 m (by omega) (by omega)
  rcases Nat.lt_or_ge m 651 with h | h
  · exact chkR_ok ckR_626 m (by omega) (by omega)
  rcases Nat.lt_or_ge m 676 with h | h
  · exact chkR_ok ckR_651 m (by omega) (by omega)
  rcases Nat.lt_or_ge m 701 with h | h
  · exact chkR_ok ckR_676 m (by omega) (by omega)
  rcases Nat.lt_or_ge m 726 with h | h
  · exact chkR_ok ckR_701 m (by omega) (by omega)
  rcases Nat.lt_or_ge m 751 with h | h
  · exact chkR_ok ckR_726 m (by omega) (by omega)
  rcases Nat.lt_or_ge m 776 with h | h
  · exact chkR_ok ckR_751 m (by omega) (by omega)
  rcases Nat.lt_or_ge m 801 with h | h
  · exact chkR_ok ckR_776 m (by omega) (by omega)
  rcases Nat.lt_or_ge m 826 with h | h
  · exact chkR_ok ckR_801 m (by omega) (by omega)
  rcases Nat.lt_or_ge m 851 with h | h
  · exact chkR_ok ckR_826 m (by omega) (by omega)
  rcases Nat.lt_or_ge m 876 with h | h
  · exact chkR_ok ckR_851 m (by omega) (by omega)
  rcases Nat.lt_or_ge m 901 with h | h
  · exact chkR_ok ckR_876 m (by omega) (by omega)
  rcases Nat.lt_or_ge m 926 with h | h
  · exact chkR_ok ckR_901 m (by omega) (by omega)
  rcases Nat.lt_or_ge m 951 with h | h
  · exact chkR_ok ckR_926 m (by omega) (by omega)
  rcases Nat.lt_or_ge m 976 with h | h
  · exact chkR_ok ckR_951 m (by omega) (by omega)
  rcases Nat.lt_or_ge m 1001 with h | h
  · exact chkR_ok ckR_976 m (by omega) (by omega)
  omega
