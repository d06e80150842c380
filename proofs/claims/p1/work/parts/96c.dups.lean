/-! DRAWN AT THE WIDTHS WHERE A PLACE COMES TWICE. By program (wip/tools/mk96c.py). -/
theorem srcB_le {m K n n' : Nat} (h : srcB m K n' = true) (hn : n ≤ n') : srcB m K n = true := List.all_eq_true.mpr (fun i hi => List.all_eq_true.mp h i (List.mem_range.mpr (Nat.lt_of_lt_of_le (List.mem_range.mp hi) hn)))
set_option maxRecDepth 1000000 in
theorem rD_5 : runM 5 23 GL P0 D0 4 = true := by decide +kernel
set_option maxRecDepth 1000000 in
theorem zD_5_0 : (zDup 5 0).isSome = true := by decide +kernel
theorem sD_5_0 : srcB 5 0 7 = true := by decide +kernel
set_option maxRecDepth 1000000 in
theorem zD_5_2 : (zDup 5 2).isSome = true := by decide +kernel
theorem sD_5_2 : srcB 5 2 20 = true := by decide +kernel
theorem o5_5 {n : Nat} (hn1 : 1 ≤ n) (hn : n ≤ 20) : lOweI 57 w0e 120 245 [.int (nI n), .int (nI 5)] := by
  rcases Nat.lt_or_ge n 8 with h7 | h7
  · exact o5_dup hn1 hn (by decide) (by decide) (by omega) zD_5_0 (srcB_le sD_5_0 (by omega)) rD_5
  exact o5_dup hn1 hn (by decide) (by decide) (by omega) zD_5_2 (srcB_le sD_5_2 (by omega)) rD_5
set_option maxRecDepth 1000000 in
theorem rD_6 : runM 6 23 GL P0 D0 4 = true := by decide +kernel
set_option maxRecDepth 1000000 in
theorem zD_6_0 : (zDup 6 0).isSome = true := by decide +kernel
theorem sD_6_0 : srcB 6 0 17 = true := by decide +kernel
set_option maxRecDepth 1000000 in
theorem zD_6_6 : (zDup 6 6).isSome = true := by decide +kernel
theorem sD_6_6 : srcB 6 6 20 = true := by decide +kernel
theorem o5_6 {n : Nat} (hn1 : 1 ≤ n) (hn : n ≤ 20) : lOweI 57 w0e 120 245 [.int (nI n), .int (nI 6)] := by
  rcases Nat.lt_or_ge n 18 with h17 | h17
  · exact o5_dup hn1 hn (by decide) (by decide) (by omega) zD_6_0 (srcB_le sD_6_0 (by omega)) rD_6
  exact o5_dup hn1 hn (by decide) (by decide) (by omega) zD_6_6 (srcB_le sD_6_6 (by omega)) rD_6
set_option maxRecDepth 1000000 in
theorem rD_7 : runM 7 23 GL P0 D0 4 = true := by decide +kernel
set_option maxRecDepth 1000000 in
theorem zD_7_0 : (zDup 7 0).isSome = true := by decide +kernel
theorem sD_7_0 : srcB 7 0 12 = true := by decide +kernel
set_option maxRecDepth 1000000 in
theorem zD_7_5 : (zDup 7 5).isSome = true := by decide +kernel
theorem sD_7_5 : srcB 7 5 20 = true := by decide +kernel
theorem o5_7 {n : Nat} (hn1 : 1 ≤ n) (hn : n ≤ 20) : lOweI 57 w0e 120 245 [.int (nI n), .int (nI 7)] := by
  rcases Nat.lt_or_ge n 13 with h12 | h12
  · exact o5_dup hn1 hn (by decide) (by decide) (by omega) zD_7_0 (srcB_le sD_7_0 (by omega)) rD_7
  exact o5_dup hn1 hn (by decide) (by decide) (by omega) zD_7_5 (srcB_le sD_7_5 (by omega)) rD_7
set_option maxRecDepth 1000000 in
theorem rD_8 : runM 8 23 GL P0 D0 4 = true := by decide +kernel
set_option maxRecDepth 1000000 in
theorem zD_8_0 : (zDup 8 0).isSome = true := by decide +kernel
theorem sD_8_0 : srcB 8 0 8 = true := by decide +kernel
set_option maxRecDepth 1000000 in
theorem zD_8_6 : (zDup 8 6).isSome = true := by decide +kernel
theorem sD_8_6 : srcB 8 6 20 = true := by decide +kernel
theorem o5_8 {n : Nat} (hn1 : 1 ≤ n) (hn : n ≤ 20) : lOweI 57 w0e 120 245 [.int (nI n), .int (nI 8)] := by
  rcases Nat.lt_or_ge n 9 with h8 | h8
  · exact o5_dup hn1 hn (by decide) (by decide) (by omega) zD_8_0 (srcB_le sD_8_0 (by omega)) rD_8
  exact o5_dup hn1 hn (by decide) (by decide) (by omega) zD_8_6 (srcB_le sD_8_6 (by omega)) rD_8
set_option maxRecDepth 1000000 in
theorem rD_16 : runM 16 23 GL P0 D0 4 = true := by decide +kernel
set_option maxRecDepth 1000000 in
theorem zD_16_0 : (zDup 16 0).isSome = true := by decide +kernel
theorem sD_16_0 : srcB 16 0 7 = true := by decide +kernel
set_option maxRecDepth 1000000 in
theorem zD_16_2 : (zDup 16 2).isSome = true := by decide +kernel
theorem sD_16_2 : srcB 16 2 20 = true := by decide +kernel
theorem o5_16 {n : Nat} (hn1 : 1 ≤ n) (hn : n ≤ 20) : lOweI 57 w0e 120 245 [.int (nI n), .int (nI 16)] := by
  rcases Nat.lt_or_ge n 8 with h7 | h7
  · exact o5_dup hn1 hn (by decide) (by decide) (by omega) zD_16_0 (srcB_le sD_16_0 (by omega)) rD_16
  exact o5_dup hn1 hn (by decide) (by decide) (by omega) zD_16_2 (srcB_le sD_16_2 (by omega)) rD_16
set_option maxRecDepth 1000000 in
theorem rD_42 : runM 42 23 GL P0 D0 4 = true := by decide +kernel
set_option maxRecDepth 1000000 in
theorem zD_42_0 : (zDup 42 0).isSome = true := by decide +kernel
theorem sD_42_0 : srcB 42 0 8 = true := by decide +kernel
set_option maxRecDepth 1000000 in
theorem zD_42_6 : (zDup 42 6).isSome = true := by decide +kernel
theorem sD_42_6 : srcB 42 6 20 = true := by decide +kernel
theorem o5_42 {n : Nat} (hn1 : 1 ≤ n) (hn : n ≤ 20) : lOweI 57 w0e 120 245 [.int (nI n), .int (nI 42)] := by
  rcases Nat.lt_or_ge n 9 with h8 | h8
  · exact o5_dup hn1 hn (by decide) (by decide) (by omega) zD_42_0 (srcB_le sD_42_0 (by omega)) rD_42
  exact o5_dup hn1 hn (by decide) (by decide) (by omega) zD_42_6 (srcB_le sD_42_6 (by omega)) rD_42
