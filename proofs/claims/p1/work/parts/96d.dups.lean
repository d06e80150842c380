/-! DRAWN AT THE WIDTHS WHERE A PLACE COMES TWICE. By program (wip/tools/mk96c.py). -/
set_option maxRecDepth 1000000 in
theorem rD_1 : runM 1 13 GL P0 D0 4 = true := by decide +kernel
set_option maxRecDepth 1000000 in
theorem zD_1_0 : (zDup 1 0).isSome = true := by decide +kernel
theorem sD_1_0 : srcB 1 0 2 = true := by decide +kernel
set_option maxRecDepth 1000000 in
theorem zD_1_2 : (zDup 1 2).isSome = true := by decide +kernel
theorem sD_1_2 : srcB 1 2 9 = true := by decide +kernel
set_option maxRecDepth 1000000 in
theorem zD_1_6 : (zDup 1 6).isSome = true := by decide +kernel
theorem sD_1_6 : srcB 1 6 13 = true := by decide +kernel
set_option maxRecDepth 1000000 in
theorem zD_1_7 : (zDup 1 7).isSome = true := by decide +kernel
theorem sD_1_7 : srcB 1 7 20 = true := by decide +kernel
theorem o5_1 {n : Nat} (hn1 : 1 ≤ n) (hn : n ≤ 20) : lOweI 57 w0e 120 245 [.int (nI n), .int (nI 1)] := by
  rcases Nat.lt_or_ge n 3 with h2 | h2
  · exact o5_dup hn1 hn (by decide) (by decide) (by omega) zD_1_0 (srcB_le sD_1_0 (by omega)) rD_1
  rcases Nat.lt_or_ge n 10 with h9 | h9
  · exact o5_dup hn1 hn (by decide) (by decide) (by omega) zD_1_2 (srcB_le sD_1_2 (by omega)) rD_1
  rcases Nat.lt_or_ge n 14 with h13 | h13
  · exact o5_dup hn1 hn (by decide) (by decide) (by omega) zD_1_6 (srcB_le sD_1_6 (by omega)) rD_1
  exact o5_dup hn1 hn (by decide) (by decide) (by omega) zD_1_7 (srcB_le sD_1_7 (by omega)) rD_1
set_option maxRecDepth 1000000 in
theorem rD_2 : runM 2 18 GL P0 D0 4 = true := by decide +kernel
set_option maxRecDepth 1000000 in
theorem zD_2_0 : (zDup 2 0).isSome = true := by decide +kernel
theorem sD_2_0 : srcB 2 0 2 = true := by decide +kernel
set_option maxRecDepth 1000000 in
theorem zD_2_1 : (zDup 2 1).isSome = true := by decide +kernel
theorem sD_2_1 : srcB 2 1 8 = true := by decide +kernel
set_option maxRecDepth 1000000 in
theorem zD_2_6 : (zDup 2 6).isSome = true := by decide +kernel
theorem sD_2_6 : srcB 2 6 11 = true := by decide +kernel
set_option maxRecDepth 1000000 in
theorem zD_2_7 : (zDup 2 7).isSome = true := by decide +kernel
theorem sD_2_7 : srcB 2 7 14 = true := by decide +kernel
set_option maxRecDepth 1000000 in
theorem zD_2_10 : (zDup 2 10).isSome = true := by decide +kernel
theorem sD_2_10 : srcB 2 10 20 = true := by decide +kernel
theorem o5_2 {n : Nat} (hn1 : 1 ≤ n) (hn : n ≤ 20) : lOweI 57 w0e 120 245 [.int (nI n), .int (nI 2)] := by
  rcases Nat.lt_or_ge n 3 with h2 | h2
  · exact o5_dup hn1 hn (by decide) (by decide) (by omega) zD_2_0 (srcB_le sD_2_0 (by omega)) rD_2
  rcases Nat.lt_or_ge n 9 with h8 | h8
  · exact o5_dup hn1 hn (by decide) (by decide) (by omega) zD_2_1 (srcB_le sD_2_1 (by omega)) rD_2
  rcases Nat.lt_or_ge n 12 with h11 | h11
  · exact o5_dup hn1 hn (by decide) (by decide) (by omega) zD_2_6 (srcB_le sD_2_6 (by omega)) rD_2
  rcases Nat.lt_or_ge n 15 with h14 | h14
  · exact o5_dup hn1 hn (by decide) (by decide) (by omega) zD_2_7 (srcB_le sD_2_7 (by omega)) rD_2
  exact o5_dup hn1 hn (by decide) (by decide) (by omega) zD_2_10 (srcB_le sD_2_10 (by omega)) rD_2
set_option maxRecDepth 1000000 in
theorem rD_3 : runM 3 22 GL P0 D0 4 = true := by decide +kernel
set_option maxRecDepth 1000000 in
theorem zD_3_0 : (zDup 3 0).isSome = true := by decide +kernel
theorem sD_3_0 : srcB 3 0 11 = true := by decide +kernel
set_option maxRecDepth 1000000 in
theorem zD_3_8 : (zDup 3 8).isSome = true := by decide +kernel
theorem sD_3_8 : srcB 3 8 20 = true := by decide +kernel
theorem o5_3 {n : Nat} (hn1 : 1 ≤ n) (hn : n ≤ 20) : lOweI 57 w0e 120 245 [.int (nI n), .int (nI 3)] := by
  rcases Nat.lt_or_ge n 12 with h11 | h11
  · exact o5_dup hn1 hn (by decide) (by decide) (by omega) zD_3_0 (srcB_le sD_3_0 (by omega)) rD_3
  exact o5_dup hn1 hn (by decide) (by decide) (by omega) zD_3_8 (srcB_le sD_3_8 (by omega)) rD_3
set_option maxRecDepth 1000000 in
theorem rD_24 : runM 24 23 GL P0 D0 4 = true := by decide +kernel
set_option maxRecDepth 1000000 in
theorem zD_24_0 : (zDup 24 0).isSome = true := by decide +kernel
theorem sD_24_0 : srcB 24 0 14 = true := by decide +kernel
set_option maxRecDepth 1000000 in
theorem zD_24_8 : (zDup 24 8).isSome = true := by decide +kernel
theorem sD_24_8 : srcB 24 8 20 = true := by decide +kernel
theorem o5_24 {n : Nat} (hn1 : 1 ≤ n) (hn : n ≤ 20) : lOweI 57 w0e 120 245 [.int (nI n), .int (nI 24)] := by
  rcases Nat.lt_or_ge n 15 with h14 | h14
  · exact o5_dup hn1 hn (by decide) (by decide) (by omega) zD_24_0 (srcB_le sD_24_0 (by omega)) rD_24
  exact o5_dup hn1 hn (by decide) (by decide) (by omega) zD_24_8 (srcB_le sD_24_8 (by omega)) rD_24
