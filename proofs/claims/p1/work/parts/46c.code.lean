/-! THE CODE OF EVERY METHOD AS LEAVES, with its proof. By program (wip/tools/mk46.py). -/
/-- SquareMeshModel.insideBy -/
theorem xj_211 : ∀ pc, pI 211 pc = pJ_211 pc := fun _ => rfl
noncomputable def xb_211_0 : List zF := [zq_ald 0, zq_ild 1, zq_ild 2, zq_ild 3, zq_ald 0, zq_ild 4, zq_calli 192 1 9 2, zq_ald 0, zq_ild 4, zq_calli 193 1 9 2, zq_calli 210 5 9 18, zq_lret]
theorem xc_211_0 : zCd 211 [0] 0 xb_211_0 := zc_aload_n xj_211 1 0 rfl rfl (zc_iload_n xj_211 2 1 rfl rfl (zc_iload_n xj_211 3 2 rfl rfl (zc_iload_n xj_211 4 3 rfl rfl (zc_aload_n xj_211 5 0 rfl rfl (zc_iload xj_211 7 4 rfl rfl (zc_invokevirtual1 xj_211 10 75 192 1 260 9 2 rfl rfl rfl (zc_aload_n xj_211 11 0 rfl rfl (zc_iload xj_211 13 4 rfl rfl (zc_invokevirtual1 xj_211 16 79 193 1 261 9 2 rfl rfl rfl (zc_invokevirtual1 xj_211 19 114 210 5 276 9 18 rfl rfl rfl (zc_lreturn xj_211 20 rfl rfl (trivial))))))))))))
noncomputable def xm_211 : Lean.RArray (List zF) := .leaf xb_211_0
theorem xa_211 : zCdAll 211 [0] xm_211 := zAll2_ok (P := fun t => zCd 211 [0] t (xm_211.get t)) ⟨xc_211_0, trivial⟩
/-- SquareMeshModel.leftAt -/
theorem xj_212 : ∀ pc, pI 212 pc = pJ_212 pc := fun _ => rfl
noncomputable def xb_212_0 : List zF := [zq_ald 0, zq_getf 9 3, zq_k 40, zq_ild 1, zq_mul, zq_ild 2, zq_add, zq_ild_ 0, zq_iret 0]
theorem xc_212_0 : zCd 212 [0] 0 xb_212_0 := zc_aload_n xj_212 1 0 rfl rfl (zc_getf xj_212 4 20 9 3 97 rfl rfl (zc_bipush xj_212 6 40 40 rfl rfl rfl (zc_iload_n xj_212 7 1 rfl rfl (zc_imul xj_212 8 rfl rfl (zc_iload_n xj_212 9 2 rfl rfl (zc_iadd xj_212 10 rfl rfl (zc_iaload xj_212 11 rfl rfl (zc_ireturn0 xj_212 12 rfl rfl (trivial)))))))))
noncomputable def xm_212 : Lean.RArray (List zF) := .leaf xb_212_0
theorem xa_212 : zCdAll 212 [0] xm_212 := zAll2_ok (P := fun t => zCd 212 [0] t (xm_212.get t)) ⟨xc_212_0, trivial⟩
/-- SquareMeshModel.isEdgeNow -/
theorem xj_213 : ∀ pc, pI 213 pc = pJ_213 pc := fun _ => rfl
noncomputable def xb_213_3 : List zF := [zq_iret 1]
theorem xc_213_3 : zCd 213 [0, 20, 24, 25] 25 xb_213_3 := zc_ireturn1 xj_213 26 rfl rfl (trivial)
noncomputable def xb_213_2 : List zF := zq_k 0 :: xb_213_3
theorem xc_213_2 : zCd 213 [0, 20, 24, 25] 24 xb_213_2 := zc_iconst xj_213 25 0 0 rfl rfl rfl (xc_213_3)
noncomputable def xb_213_1 : List zF := [zq_k 1, zq_goto 25]
theorem xc_213_1 : zCd 213 [0, 20, 24, 25] 20 xb_213_1 := zc_iconst xj_213 21 1 1 rfl rfl rfl (zc_goto xj_213 22 4 25 rfl rfl rfl (trivial))
noncomputable def xb_213_0 : List zF := zq_ald 0 :: zq_ild 1 :: zq_ild 2 :: zq_calli 212 2 9 3 :: zq_k 4294967295 :: zq_ic_ne 20 :: zq_ald 0 :: zq_ild 2 :: zq_ild 1 :: zq_calli 212 2 9 3 :: zq_k 4294967295 :: zq_ic_eq 24 :: xb_213_1
theorem xc_213_0 : zCd 213 [0, 20, 24, 25] 0 xb_213_0 := zc_aload_n xj_213 1 0 rfl rfl (zc_iload_n xj_213 2 1 rfl rfl (zc_iload_n xj_213 3 2 rfl rfl (zc_invokevirtual1 xj_213 6 118 212 2 262 9 3 rfl rfl rfl (zc_iconst xj_213 7 (-1) 4294967295 rfl rfl rfl (zc_ic_ne xj_213 10 13 20 rfl rfl rfl (zc_aload_n xj_213 11 0 rfl rfl (zc_iload_n xj_213 12 2 rfl rfl (zc_iload_n xj_213 13 1 rfl rfl (zc_invokevirtual1 xj_213 16 118 212 2 262 9 3 rfl rfl rfl (zc_iconst xj_213 17 (-1) 4294967295 rfl rfl rfl (zc_ic_eq xj_213 20 7 24 rfl rfl rfl (xc_213_1))))))))))))
noncomputable def xm_213 : Lean.RArray (List zF) := .branch 24 (.branch 20 (.leaf xb_213_0) (.leaf xb_213_1)) (.branch 25 (.leaf xb_213_2) (.leaf xb_213_3))
theorem xa_213 : zCdAll 213 [0, 20, 24, 25] xm_213 := zAll2_ok (P := fun t => zCd 213 [0, 20, 24, 25] t (xm_213.get t)) ⟨xc_213_0, xc_213_1, xc_213_2, xc_213_3, trivial⟩
/-- SquareMeshModel.isBetter -/
theorem xj_214 : ∀ pc, pI 214 pc = pJ_214 pc := fun _ => rfl
noncomputable def xb_214_14 : List zF := [zq_iret 1]
theorem xc_214_14 : zCd 214 [0, 29, 30, 31, 47, 60, 75, 96, 97, 98, 119, 120, 121, 132, 133] 133 xb_214_14 := zc_ireturn1 xj_214 134 rfl rfl (trivial)
noncomputable def xb_214_13 : List zF := zq_k 0 :: xb_214_14
theorem xc_214_13 : zCd 214 [0, 29, 30, 31, 47, 60, 75, 96, 97, 98, 119, 120, 121, 132, 133] 132 xb_214_13 := zc_iconst xj_214 133 0 0 rfl rfl rfl (xc_214_14)
noncomputable def xb_214_12 : List zF := [zq_ild 7, zq_ild 4, zq_ic_ne 132, zq_k 1, zq_goto 133]
theorem xc_214_12 : zCd 214 [0, 29, 30, 31, 47, 60, 75, 96, 97, 98, 119, 120, 121, 132, 133] 121 xb_214_12 := zc_iload xj_214 123 7 rfl rfl (zc_iload xj_214 125 4 rfl rfl (zc_ic_ne xj_214 128 7 132 rfl rfl rfl (zc_iconst xj_214 129 1 1 rfl rfl rfl (zc_goto xj_214 130 4 133 rfl rfl rfl (trivial)))))
noncomputable def xb_214_11 : List zF := [zq_iret 1]
theorem xc_214_11 : zCd 214 [0, 29, 30, 31, 47, 60, 75, 96, 97, 98, 119, 120, 121, 132, 133] 120 xb_214_11 := zc_ireturn1 xj_214 121 rfl rfl (trivial)
noncomputable def xb_214_10 : List zF := zq_k 0 :: xb_214_11
theorem xc_214_10 : zCd 214 [0, 29, 30, 31, 47, 60, 75, 96, 97, 98, 119, 120, 121, 132, 133] 119 xb_214_10 := zc_iconst xj_214 120 0 0 rfl rfl rfl (xc_214_11)
noncomputable def xb_214_9 : List zF := [zq_ild 7, zq_ild 2, zq_ic_ne 121, zq_ald 0, zq_ild 2, zq_ild 4, zq_ild 3, zq_calli 202 3 9 4, zq_if_ge 119, zq_k 1, zq_goto 120]
theorem xc_214_9 : zCd 214 [0, 29, 30, 31, 47, 60, 75, 96, 97, 98, 119, 120, 121, 132, 133] 98 xb_214_9 := zc_iload xj_214 100 7 rfl rfl (zc_iload_n xj_214 101 2 rfl rfl (zc_ic_ne xj_214 104 20 121 rfl rfl rfl (zc_aload_n xj_214 105 0 rfl rfl (zc_iload_n xj_214 106 2 rfl rfl (zc_iload xj_214 108 4 rfl rfl (zc_iload_n xj_214 109 3 rfl rfl (zc_invokevirtual1 xj_214 112 90 202 3 266 9 4 rfl rfl rfl (zc_if_ge xj_214 115 7 119 rfl rfl rfl (zc_iconst xj_214 116 1 1 rfl rfl rfl (zc_goto xj_214 117 4 120 rfl rfl rfl (trivial)))))))))))
noncomputable def xb_214_8 : List zF := [zq_iret 1]
theorem xc_214_8 : zCd 214 [0, 29, 30, 31, 47, 60, 75, 96, 97, 98, 119, 120, 121, 132, 133] 97 xb_214_8 := zc_ireturn1 xj_214 98 rfl rfl (trivial)
noncomputable def xb_214_7 : List zF := zq_k 0 :: xb_214_8
theorem xc_214_7 : zCd 214 [0, 29, 30, 31, 47, 60, 75, 96, 97, 98, 119, 120, 121, 132, 133] 96 xb_214_7 := zc_iconst xj_214 97 0 0 rfl rfl rfl (xc_214_8)
noncomputable def xb_214_6 : List zF := [zq_ild 7, zq_ild 1, zq_ic_ne 98, zq_ald 0, zq_ild 1, zq_ild 4, zq_ild 3, zq_calli 202 3 9 4, zq_if_le 96, zq_k 1, zq_goto 97]
theorem xc_214_6 : zCd 214 [0, 29, 30, 31, 47, 60, 75, 96, 97, 98, 119, 120, 121, 132, 133] 75 xb_214_6 := zc_iload xj_214 77 7 rfl rfl (zc_iload_n xj_214 78 1 rfl rfl (zc_ic_ne xj_214 81 20 98 rfl rfl rfl (zc_aload_n xj_214 82 0 rfl rfl (zc_iload_n xj_214 83 1 rfl rfl (zc_iload xj_214 85 4 rfl rfl (zc_iload_n xj_214 86 3 rfl rfl (zc_invokevirtual1 xj_214 89 90 202 3 266 9 4 rfl rfl rfl (zc_if_le xj_214 92 7 96 rfl rfl rfl (zc_iconst xj_214 93 1 1 rfl rfl rfl (zc_goto xj_214 94 4 97 rfl rfl rfl (trivial)))))))))))
noncomputable def xb_214_5 : List zF := zq_ald 0 :: zq_ild 4 :: zq_ild 7 :: zq_calli 200 2 9 3 :: zq_if_eq 75 :: zq_ild 4 :: zq_ist 7 :: xb_214_6
theorem xc_214_5 : zCd 214 [0, 29, 30, 31, 47, 60, 75, 96, 97, 98, 119, 120, 121, 132, 133] 60 xb_214_5 := zc_aload_n xj_214 61 0 rfl rfl (zc_iload xj_214 63 4 rfl rfl (zc_iload xj_214 65 7 rfl rfl (zc_invokevirtual1 xj_214 68 125 200 2 277 9 3 rfl rfl rfl (zc_if_eq xj_214 71 7 75 rfl rfl rfl (zc_iload xj_214 73 4 rfl rfl (zc_istore xj_214 75 7 rfl rfl (xc_214_6)))))))
noncomputable def xb_214_4 : List zF := zq_ald 0 :: zq_ild 3 :: zq_ild 7 :: zq_calli 200 2 9 3 :: zq_if_eq 60 :: zq_ild 3 :: zq_ist 7 :: xb_214_5
theorem xc_214_4 : zCd 214 [0, 29, 30, 31, 47, 60, 75, 96, 97, 98, 119, 120, 121, 132, 133] 47 xb_214_4 := zc_aload_n xj_214 48 0 rfl rfl (zc_iload_n xj_214 49 3 rfl rfl (zc_iload xj_214 51 7 rfl rfl (zc_invokevirtual1 xj_214 54 125 200 2 277 9 3 rfl rfl rfl (zc_if_eq xj_214 57 6 60 rfl rfl rfl (zc_iload_n xj_214 58 3 rfl rfl (zc_istore xj_214 60 7 rfl rfl (xc_214_5)))))))
noncomputable def xb_214_3 : List zF := zq_ild 1 :: zq_ist 7 :: zq_ald 0 :: zq_ild 2 :: zq_ild 7 :: zq_calli 200 2 9 3 :: zq_if_eq 47 :: zq_ild 2 :: zq_ist 7 :: xb_214_4
theorem xc_214_3 : zCd 214 [0, 29, 30, 31, 47, 60, 75, 96, 97, 98, 119, 120, 121, 132, 133] 31 xb_214_3 := zc_iload_n xj_214 32 1 rfl rfl (zc_istore xj_214 34 7 rfl rfl (zc_aload_n xj_214 35 0 rfl rfl (zc_iload_n xj_214 36 2 rfl rfl (zc_iload xj_214 38 7 rfl rfl (zc_invokevirtual1 xj_214 41 125 200 2 277 9 3 rfl rfl rfl (zc_if_eq xj_214 44 6 47 rfl rfl rfl (zc_iload_n xj_214 45 2 rfl rfl (zc_istore xj_214 47 7 rfl rfl (xc_214_4)))))))))
noncomputable def xb_214_2 : List zF := [zq_iret 1]
theorem xc_214_2 : zCd 214 [0, 29, 30, 31, 47, 60, 75, 96, 97, 98, 119, 120, 121, 132, 133] 30 xb_214_2 := zc_ireturn1 xj_214 31 rfl rfl (trivial)
noncomputable def xb_214_1 : List zF := zq_k 0 :: xb_214_2
theorem xc_214_1 : zCd 214 [0, 29, 30, 31, 47, 60, 75, 96, 97, 98, 119, 120, 121, 132, 133] 29 xb_214_1 := zc_iconst xj_214 30 0 0 rfl rfl rfl (xc_214_2)
noncomputable def xb_214_0 : List zF := [zq_ald 0, zq_ild 1, zq_ild 2, zq_ild 3, zq_ild 4, zq_calli 211 4 9 5, zq_lst 5, zq_lld 5, zq_kl 0, zq_lcmp, zq_if_eq 31, zq_lld 5, zq_kl 0, zq_lcmp, zq_if_le 29, zq_k 1, zq_goto 30]
theorem xc_214_0 : zCd 214 [0, 29, 30, 31, 47, 60, 75, 96, 97, 98, 119, 120, 121, 132, 133] 0 xb_214_0 := zc_aload_n xj_214 1 0 rfl rfl (zc_iload_n xj_214 2 1 rfl rfl (zc_iload_n xj_214 3 2 rfl rfl (zc_iload_n xj_214 4 3 rfl rfl (zc_iload xj_214 6 4 rfl rfl (zc_invokevirtual1 xj_214 9 121 211 4 275 9 5 rfl rfl rfl (zc_lstore xj_214 11 5 rfl rfl (zc_lload xj_214 13 5 rfl rfl (zc_lconst xj_214 14 0 rfl rfl (zc_lcmp xj_214 15 rfl rfl (zc_if_eq xj_214 18 16 31 rfl rfl rfl (zc_lload xj_214 20 5 rfl rfl (zc_lconst xj_214 21 0 rfl rfl (zc_lcmp xj_214 22 rfl rfl (zc_if_le xj_214 25 7 29 rfl rfl rfl (zc_iconst xj_214 26 1 1 rfl rfl rfl (zc_goto xj_214 27 4 30 rfl rfl rfl (trivial)))))))))))))))))
noncomputable def xm_214 : Lean.RArray (List zF) := .branch 96 (.branch 31 (.branch 29 (.leaf xb_214_0) (.branch 30 (.leaf xb_214_1) (.leaf xb_214_2))) (.branch 60 (.branch 47 (.leaf xb_214_3) (.leaf xb_214_4)) (.branch 75 (.leaf xb_214_5) (.leaf xb_214_6)))) (.branch 120 (.branch 98 (.branch 97 (.leaf xb_214_7) (.leaf xb_214_8)) (.branch 119 (.leaf xb_214_9) (.leaf xb_214_10))) (.branch 132 (.branch 121 (.leaf xb_214_11) (.leaf xb_214_12)) (.branch 133 (.leaf xb_214_13) (.leaf xb_214_14))))
theorem xa_214 : zCdAll 214 [0, 29, 30, 31, 47, 60, 75, 96, 97, 98, 119, 120, 121, 132, 133] xm_214 := zAll2_ok (P := fun t => zCd 214 [0, 29, 30, 31, 47, 60, 75, 96, 97, 98, 119, 120, 121, 132, 133] t (xm_214.get t)) ⟨xc_214_0, xc_214_1, xc_214_2, xc_214_3, xc_214_4, xc_214_5, xc_214_6, xc_214_7, xc_214_8, xc_214_9, xc_214_10, xc_214_11, xc_214_12, xc_214_13, xc_214_14, trivial⟩
/-- SquareMeshModel.cornerFor -/
theorem xj_215 : ∀ pc, pI 215 pc = pJ_215 pc := fun _ => rfl
noncomputable def xb_215_5 : List zF := [zq_ild 3, zq_iret 0]
theorem xc_215_5 : zCd 215 [0, 5, 55, 72, 75, 81] 81 xb_215_5 := zc_iload_n xj_215 82 3 rfl rfl (zc_ireturn0 xj_215 83 rfl rfl (trivial))
noncomputable def xb_215_4 : List zF := [zq_inc 4 1, zq_goto 5]
theorem xc_215_4 : zCd 215 [0, 5, 55, 72, 75, 81] 75 xb_215_4 := zc_iinc xj_215 78 4 1 1 rfl rfl rfl (zc_goto xj_215 79 (-73) 5 rfl rfl rfl (trivial))
noncomputable def xb_215_3 : List zF := zq_ild 4 :: zq_ist 3 :: xb_215_4
theorem xc_215_3 : zCd 215 [0, 5, 55, 72, 75, 81] 72 xb_215_3 := zc_iload xj_215 74 4 rfl rfl (zc_istore_n xj_215 75 3 rfl rfl (xc_215_4))
noncomputable def xb_215_2 : List zF := zq_ild 3 :: zq_k 4294967295 :: zq_ic_eq 72 :: zq_ald 0 :: zq_ild 1 :: zq_ild 2 :: zq_ild 3 :: zq_ild 4 :: zq_calli 214 4 9 8 :: zq_if_eq 75 :: xb_215_3
theorem xc_215_2 : zCd 215 [0, 5, 55, 72, 75, 81] 55 xb_215_2 := zc_iload_n xj_215 56 3 rfl rfl (zc_iconst xj_215 57 (-1) 4294967295 rfl rfl rfl (zc_ic_eq xj_215 60 15 72 rfl rfl rfl (zc_aload_n xj_215 61 0 rfl rfl (zc_iload_n xj_215 62 1 rfl rfl (zc_iload_n xj_215 63 2 rfl rfl (zc_iload_n xj_215 64 3 rfl rfl (zc_iload xj_215 66 4 rfl rfl (zc_invokevirtual1 xj_215 69 131 214 4 274 9 8 rfl rfl rfl (zc_if_eq xj_215 72 6 75 rfl rfl rfl (xc_215_3))))))))))
noncomputable def xb_215_1 : List zF := [zq_ild 4, zq_k 40, zq_ic_ge 81, zq_ald 0, zq_ild 4, zq_calli 191 1 9 2, zq_if_eq 75, zq_ald 0, zq_ild 1, zq_ild 2, zq_ild 4, zq_calli 202 3 9 4, zq_if_le 75, zq_ald 0, zq_ild 1, zq_ild 4, zq_calli 209 2 9 3, zq_if_eq 75, zq_ald 0, zq_ild 2, zq_ild 4, zq_calli 209 2 9 3, zq_if_ne 55, zq_goto 75]
theorem xc_215_1 : zCd 215 [0, 5, 55, 72, 75, 81] 5 xb_215_1 := zc_iload xj_215 7 4 rfl rfl (zc_bipush xj_215 9 40 40 rfl rfl rfl (zc_ic_ge xj_215 12 72 81 rfl rfl rfl (zc_aload_n xj_215 13 0 rfl rfl (zc_iload xj_215 15 4 rfl rfl (zc_invokevirtual1 xj_215 18 71 191 1 264 9 2 rfl rfl rfl (zc_if_eq xj_215 21 57 75 rfl rfl rfl (zc_aload_n xj_215 22 0 rfl rfl (zc_iload_n xj_215 23 1 rfl rfl (zc_iload_n xj_215 24 2 rfl rfl (zc_iload xj_215 26 4 rfl rfl (zc_invokevirtual1 xj_215 29 90 202 3 266 9 4 rfl rfl rfl (zc_if_le xj_215 32 46 75 rfl rfl rfl (zc_aload_n xj_215 33 0 rfl rfl (zc_iload_n xj_215 34 1 rfl rfl (zc_iload xj_215 36 4 rfl rfl (zc_invokevirtual1 xj_215 39 128 209 2 267 9 3 rfl rfl rfl (zc_if_eq xj_215 42 36 75 rfl rfl rfl (zc_aload_n xj_215 43 0 rfl rfl (zc_iload_n xj_215 44 2 rfl rfl (zc_iload xj_215 46 4 rfl rfl (zc_invokevirtual1 xj_215 49 128 209 2 267 9 3 rfl rfl rfl (zc_if_ne xj_215 52 6 55 rfl rfl rfl (zc_goto xj_215 53 23 75 rfl rfl rfl (trivial))))))))))))))))))))))))
noncomputable def xb_215_0 : List zF := zq_k 4294967295 :: zq_ist 3 :: zq_k 0 :: zq_ist 4 :: xb_215_1
theorem xc_215_0 : zCd 215 [0, 5, 55, 72, 75, 81] 0 xb_215_0 := zc_iconst xj_215 1 (-1) 4294967295 rfl rfl rfl (zc_istore_n xj_215 2 3 rfl rfl (zc_iconst xj_215 3 0 0 rfl rfl rfl (zc_istore xj_215 5 4 rfl rfl (xc_215_1))))
noncomputable def xm_215 : Lean.RArray (List zF) := .branch 72 (.branch 5 (.leaf xb_215_0) (.branch 55 (.leaf xb_215_1) (.leaf xb_215_2))) (.branch 75 (.leaf xb_215_3) (.branch 81 (.leaf xb_215_4) (.leaf xb_215_5)))
theorem xa_215 : zCdAll 215 [0, 5, 55, 72, 75, 81] xm_215 := zAll2_ok (P := fun t => zCd 215 [0, 5, 55, 72, 75, 81] t (xm_215.get t)) ⟨xc_215_0, xc_215_1, xc_215_2, xc_215_3, xc_215_4, xc_215_5, trivial⟩
/-- SquareMeshModel.comeTriangle -/
theorem xj_216 : ∀ pc, pI 216 pc = pJ_216 pc := fun _ => rfl
noncomputable def xb_216_0 : List zF := [zq_ald 0, zq_getf 9 2, zq_k 3, zq_ald 0, zq_getf 9 4, zq_mul, zq_ild 1, zq_iast, zq_ald 0, zq_getf 9 2, zq_k 3, zq_ald 0, zq_getf 9 4, zq_mul, zq_k 1, zq_add, zq_ild 2, zq_iast, zq_ald 0, zq_getf 9 2, zq_k 3, zq_ald 0, zq_getf 9 4, zq_mul, zq_k 2, zq_add, zq_ild 3, zq_iast, zq_ald 0, zq_getf 9 3, zq_k 40, zq_ild 1, zq_mul, zq_ild 2, zq_add, zq_ald 0, zq_getf 9 4, zq_iast, zq_ald 0, zq_getf 9 3, zq_k 40, zq_ild 2, zq_mul, zq_ild 3, zq_add, zq_ald 0, zq_getf 9 4, zq_iast, zq_ald 0, zq_getf 9 3, zq_k 40, zq_ild 3, zq_mul, zq_ild 1, zq_add, zq_ald 0, zq_getf 9 4, zq_iast, zq_ald 0, zq_dup, zq_getf 9 4, zq_k 1, zq_add, zq_putf 9 4 0, zq_vret]
theorem xc_216_0 : zCd 216 [0] 0 xb_216_0 := zc_aload_n xj_216 1 0 rfl rfl (zc_getf xj_216 4 17 9 2 96 rfl rfl (zc_iconst xj_216 5 3 3 rfl rfl rfl (zc_aload_n xj_216 6 0 rfl rfl (zc_getf xj_216 9 134 9 4 98 rfl rfl (zc_imul xj_216 10 rfl rfl (zc_iload_n xj_216 11 1 rfl rfl (zc_iastore xj_216 12 rfl rfl (zc_aload_n xj_216 13 0 rfl rfl (zc_getf xj_216 16 17 9 2 96 rfl rfl (zc_iconst xj_216 17 3 3 rfl rfl rfl (zc_aload_n xj_216 18 0 rfl rfl (zc_getf xj_216 21 134 9 4 98 rfl rfl (zc_imul xj_216 22 rfl rfl (zc_iconst xj_216 23 1 1 rfl rfl rfl (zc_iadd xj_216 24 rfl rfl (zc_iload_n xj_216 25 2 rfl rfl (zc_iastore xj_216 26 rfl rfl (zc_aload_n xj_216 27 0 rfl rfl (zc_getf xj_216 30 17 9 2 96 rfl rfl (zc_iconst xj_216 31 3 3 rfl rfl rfl (zc_aload_n xj_216 32 0 rfl rfl (zc_getf xj_216 35 134 9 4 98 rfl rfl (zc_imul xj_216 36 rfl rfl (zc_iconst xj_216 37 2 2 rfl rfl rfl (zc_iadd xj_216 38 rfl rfl (zc_iload_n xj_216 39 3 rfl rfl (zc_iastore xj_216 40 rfl rfl (zc_aload_n xj_216 41 0 rfl rfl (zc_getf xj_216 44 20 9 3 97 rfl rfl (zc_bipush xj_216 46 40 40 rfl rfl rfl (zc_iload_n xj_216 47 1 rfl rfl (zc_imul xj_216 48 rfl rfl (zc_iload_n xj_216 49 2 rfl rfl (zc_iadd xj_216 50 rfl rfl (zc_aload_n xj_216 51 0 rfl rfl (zc_getf xj_216 54 134 9 4 98 rfl rfl (zc_iastore xj_216 55 rfl rfl (zc_aload_n xj_216 56 0 rfl rfl (zc_getf xj_216 59 20 9 3 97 rfl rfl (zc_bipush xj_216 61 40 40 rfl rfl rfl (zc_iload_n xj_216 62 2 rfl rfl (zc_imul xj_216 63 rfl rfl (zc_iload_n xj_216 64 3 rfl rfl (zc_iadd xj_216 65 rfl rfl (zc_aload_n xj_216 66 0 rfl rfl (zc_getf xj_216 69 134 9 4 98 rfl rfl (zc_iastore xj_216 70 rfl rfl (zc_aload_n xj_216 71 0 rfl rfl (zc_getf xj_216 74 20 9 3 97 rfl rfl (zc_bipush xj_216 76 40 40 rfl rfl rfl (zc_iload_n xj_216 77 3 rfl rfl (zc_imul xj_216 78 rfl rfl (zc_iload_n xj_216 79 1 rfl rfl (zc_iadd xj_216 80 rfl rfl (zc_aload_n xj_216 81 0 rfl rfl (zc_getf xj_216 84 134 9 4 98 rfl rfl (zc_iastore xj_216 85 rfl rfl (zc_aload_n xj_216 86 0 rfl rfl (zc_dup xj_216 87 rfl rfl (zc_getf xj_216 90 134 9 4 98 rfl rfl (zc_iconst xj_216 91 1 1 rfl rfl rfl (zc_iadd xj_216 92 rfl rfl (zc_putf xj_216 95 134 9 4 98 0 rfl rfl rfl (zc_return_ xj_216 96 rfl rfl (trivial)))))))))))))))))))))))))))))))))))))))))))))))))))))))))))))))))
noncomputable def xm_216 : Lean.RArray (List zF) := .leaf xb_216_0
theorem xa_216 : zCdAll 216 [0] xm_216 := zAll2_ok (P := fun t => zCd 216 [0] t (xm_216.get t)) ⟨xc_216_0, trivial⟩
/-- SquareMeshModel.isBorder -/
theorem xj_217 : ∀ pc, pI 217 pc = pJ_217 pc := fun _ => rfl
noncomputable def xb_217_2 : List zF := [zq_iret 1]
theorem xc_217_2 : zCd 217 [0, 14, 15] 15 xb_217_2 := zc_ireturn1 xj_217 16 rfl rfl (trivial)
noncomputable def xb_217_1 : List zF := zq_k 0 :: xb_217_2
theorem xc_217_1 : zCd 217 [0, 14, 15] 14 xb_217_1 := zc_iconst xj_217 15 0 0 rfl rfl rfl (xc_217_2)
noncomputable def xb_217_0 : List zF := [zq_ald 0, zq_ild 1, zq_ild 2, zq_calli 196 2 9 3, zq_k 2, zq_ic_ne 14, zq_k 1, zq_goto 15]
theorem xc_217_0 : zCd 217 [0, 14, 15] 0 xb_217_0 := zc_aload_n xj_217 1 0 rfl rfl (zc_iload_n xj_217 2 1 rfl rfl (zc_iload_n xj_217 3 2 rfl rfl (zc_invokevirtual1 xj_217 6 102 196 2 258 9 3 rfl rfl rfl (zc_iconst xj_217 7 2 2 rfl rfl rfl (zc_ic_ne xj_217 10 7 14 rfl rfl rfl (zc_iconst xj_217 11 1 1 rfl rfl rfl (zc_goto xj_217 12 4 15 rfl rfl rfl (trivial))))))))
noncomputable def xm_217 : Lean.RArray (List zF) := .branch 14 (.leaf xb_217_0) (.branch 15 (.leaf xb_217_1) (.leaf xb_217_2))
theorem xa_217 : zCdAll 217 [0, 14, 15] xm_217 := zAll2_ok (P := fun t => zCd 217 [0, 14, 15] t (xm_217.get t)) ⟨xc_217_0, xc_217_1, xc_217_2, trivial⟩
/-- SquareMeshModel.isInward -/
theorem xj_218 : ∀ pc, pI 218 pc = pJ_218 pc := fun _ => rfl
noncomputable def xb_218_2 : List zF := [zq_iret 1]
theorem xc_218_2 : zCd 218 [0, 24, 25] 25 xb_218_2 := zc_ireturn1 xj_218 26 rfl rfl (trivial)
noncomputable def xb_218_1 : List zF := zq_k 0 :: xb_218_2
theorem xc_218_1 : zCd 218 [0, 24, 25] 24 xb_218_1 := zc_iconst xj_218 25 0 0 rfl rfl rfl (xc_218_2)
noncomputable def xb_218_0 : List zF := [zq_ald 0, zq_ild 1, zq_ild 2, zq_calli 217 2 9 3, zq_if_eq 24, zq_ald 0, zq_ild 1, zq_ild 2, zq_k 0, zq_k 0, zq_calli 201 4 9 5, zq_if_le 24, zq_k 1, zq_goto 25]
theorem xc_218_0 : zCd 218 [0, 24, 25] 0 xb_218_0 := zc_aload_n xj_218 1 0 rfl rfl (zc_iload_n xj_218 2 1 rfl rfl (zc_iload_n xj_218 3 2 rfl rfl (zc_invokevirtual1 xj_218 6 138 217 2 257 9 3 rfl rfl rfl (zc_if_eq xj_218 9 18 24 rfl rfl rfl (zc_aload_n xj_218 10 0 rfl rfl (zc_iload_n xj_218 11 1 rfl rfl (zc_iload_n xj_218 12 2 rfl rfl (zc_iconst xj_218 13 0 0 rfl rfl rfl (zc_iconst xj_218 14 0 0 rfl rfl rfl (zc_invokevirtual1 xj_218 17 82 201 4 259 9 5 rfl rfl rfl (zc_if_le xj_218 20 7 24 rfl rfl rfl (zc_iconst xj_218 21 1 1 rfl rfl rfl (zc_goto xj_218 22 4 25 rfl rfl rfl (trivial))))))))))))))
noncomputable def xm_218 : Lean.RArray (List zF) := .branch 24 (.leaf xb_218_0) (.branch 25 (.leaf xb_218_1) (.leaf xb_218_2))
theorem xa_218 : zCdAll 218 [0, 24, 25] xm_218 := zAll2_ok (P := fun t => zCd 218 [0, 24, 25] t (xm_218.get t)) ⟨xc_218_0, xc_218_1, xc_218_2, trivial⟩
/-- SquareMeshModel.layMesh -/
theorem xj_219 : ∀ pc, pI 219 pc = pJ_219 pc := fun _ => rfl
noncomputable def xb_219_12 : List zF := [zq_ald 0, zq_calli 220 0 9 5, zq_vret]
theorem xc_219_12 : zCd 219 [0, 7, 27, 29, 37, 74, 80, 86, 88, 98, 165, 171, 177] 177 xb_219_12 := zc_aload_n xj_219 178 0 rfl rfl (zc_invokevirtual1 xj_219 181 150 220 0 279 9 5 rfl rfl rfl (zc_return_ xj_219 182 rfl rfl (trivial)))
noncomputable def xb_219_11 : List zF := [zq_inc 1 1, zq_goto 88]
theorem xc_219_11 : zCd 219 [0, 7, 27, 29, 37, 74, 80, 86, 88, 98, 165, 171, 177] 171 xb_219_11 := zc_iinc xj_219 174 1 1 1 rfl rfl rfl (zc_goto xj_219 175 (-86) 88 rfl rfl rfl (trivial))
noncomputable def xb_219_10 : List zF := [zq_inc 2 1, zq_goto 98]
theorem xc_219_10 : zCd 219 [0, 7, 27, 29, 37, 74, 80, 86, 88, 98, 165, 171, 177] 165 xb_219_10 := zc_iinc xj_219 168 2 1 1 rfl rfl rfl (zc_goto xj_219 169 (-70) 98 rfl rfl rfl (trivial))
noncomputable def xb_219_9 : List zF := zq_ild 2 :: zq_k 3 :: zq_ic_ge 171 :: zq_ald 0 :: zq_getf 9 2 :: zq_k 3 :: zq_ild 1 :: zq_mul :: zq_ild 2 :: zq_add :: zq_ild_ 0 :: zq_ist 3 :: zq_ald 0 :: zq_getf 9 2 :: zq_k 3 :: zq_ild 1 :: zq_mul :: zq_ild 2 :: zq_k 1 :: zq_add :: zq_k 3 :: zq_rem :: zq_add :: zq_ild_ 0 :: zq_ist 4 :: zq_ald 0 :: zq_ild 3 :: zq_ild 4 :: zq_calli 217 2 9 3 :: zq_if_ne 165 :: zq_ald 0 :: zq_ild 4 :: zq_ild 3 :: zq_calli 212 2 9 3 :: zq_k 4294967295 :: zq_ic_ne 165 :: zq_ald 0 :: zq_ild 4 :: zq_ild 3 :: zq_ald 0 :: zq_ild 4 :: zq_ild 3 :: zq_calli 215 2 9 5 :: zq_calli 216 3 9 4 :: xb_219_10
theorem xc_219_9 : zCd 219 [0, 7, 27, 29, 37, 74, 80, 86, 88, 98, 165, 171, 177] 98 xb_219_9 := zc_iload_n xj_219 99 2 rfl rfl (zc_iconst xj_219 100 3 3 rfl rfl rfl (zc_ic_ge xj_219 103 71 171 rfl rfl rfl (zc_aload_n xj_219 104 0 rfl rfl (zc_getf xj_219 107 17 9 2 96 rfl rfl (zc_iconst xj_219 108 3 3 rfl rfl rfl (zc_iload_n xj_219 109 1 rfl rfl (zc_imul xj_219 110 rfl rfl (zc_iload_n xj_219 111 2 rfl rfl (zc_iadd xj_219 112 rfl rfl (zc_iaload xj_219 113 rfl rfl (zc_istore_n xj_219 114 3 rfl rfl (zc_aload_n xj_219 115 0 rfl rfl (zc_getf xj_219 118 17 9 2 96 rfl rfl (zc_iconst xj_219 119 3 3 rfl rfl rfl (zc_iload_n xj_219 120 1 rfl rfl (zc_imul xj_219 121 rfl rfl (zc_iload_n xj_219 122 2 rfl rfl (zc_iconst xj_219 123 1 1 rfl rfl rfl (zc_iadd xj_219 124 rfl rfl (zc_iconst xj_219 125 3 3 rfl rfl rfl (zc_irem xj_219 126 rfl rfl (zc_iadd xj_219 127 rfl rfl (zc_iaload xj_219 128 rfl rfl (zc_istore xj_219 130 4 rfl rfl (zc_aload_n xj_219 131 0 rfl rfl (zc_iload_n xj_219 132 3 rfl rfl (zc_iload xj_219 134 4 rfl rfl (zc_invokevirtual1 xj_219 137 138 217 2 257 9 3 rfl rfl rfl (zc_if_ne xj_219 140 28 165 rfl rfl rfl (zc_aload_n xj_219 141 0 rfl rfl (zc_iload xj_219 143 4 rfl rfl (zc_iload_n xj_219 144 3 rfl rfl (zc_invokevirtual1 xj_219 147 118 212 2 262 9 3 rfl rfl rfl (zc_iconst xj_219 148 (-1) 4294967295 rfl rfl rfl (zc_ic_ne xj_219 151 17 165 rfl rfl rfl (zc_aload_n xj_219 152 0 rfl rfl (zc_iload xj_219 154 4 rfl rfl (zc_iload_n xj_219 155 3 rfl rfl (zc_aload_n xj_219 156 0 rfl rfl (zc_iload xj_219 158 4 rfl rfl (zc_iload_n xj_219 159 3 rfl rfl (zc_invokevirtual1 xj_219 162 144 215 2 263 9 5 rfl rfl rfl (zc_invokevirtual1 xj_219 165 147 216 3 278 9 4 rfl rfl rfl (xc_219_10))))))))))))))))))))))))))))))))))))))))))))
noncomputable def xb_219_8 : List zF := zq_ild 1 :: zq_ald 0 :: zq_getf 9 4 :: zq_ic_ge 177 :: zq_k 0 :: zq_ist 2 :: xb_219_9
theorem xc_219_8 : zCd 219 [0, 7, 27, 29, 37, 74, 80, 86, 88, 98, 165, 171, 177] 88 xb_219_8 := zc_iload_n xj_219 89 1 rfl rfl (zc_aload_n xj_219 90 0 rfl rfl (zc_getf xj_219 93 134 9 4 98 rfl rfl (zc_ic_ge xj_219 96 84 177 rfl rfl rfl (zc_iconst xj_219 97 0 0 rfl rfl rfl (zc_istore_n xj_219 98 2 rfl rfl (xc_219_9))))))
noncomputable def xb_219_7 : List zF := zq_k 0 :: zq_ist 1 :: xb_219_8
theorem xc_219_7 : zCd 219 [0, 7, 27, 29, 37, 74, 80, 86, 88, 98, 165, 171, 177] 86 xb_219_7 := zc_iconst xj_219 87 0 0 rfl rfl rfl (zc_istore_n xj_219 88 1 rfl rfl (xc_219_8))
noncomputable def xb_219_6 : List zF := [zq_inc 1 1, zq_goto 29]
theorem xc_219_6 : zCd 219 [0, 7, 27, 29, 37, 74, 80, 86, 88, 98, 165, 171, 177] 80 xb_219_6 := zc_iinc xj_219 83 1 1 1 rfl rfl rfl (zc_goto xj_219 84 (-54) 29 rfl rfl rfl (trivial))
noncomputable def xb_219_5 : List zF := [zq_inc 2 1, zq_goto 37]
theorem xc_219_5 : zCd 219 [0, 7, 27, 29, 37, 74, 80, 86, 88, 98, 165, 171, 177] 74 xb_219_5 := zc_iinc xj_219 77 2 1 1 rfl rfl rfl (zc_goto xj_219 78 (-40) 37 rfl rfl rfl (trivial))
noncomputable def xb_219_4 : List zF := zq_ild 2 :: zq_k 40 :: zq_ic_ge 80 :: zq_ald 0 :: zq_ild 1 :: zq_ild 2 :: zq_calli 218 2 9 3 :: zq_if_eq 74 :: zq_ald 0 :: zq_ild 1 :: zq_ild 2 :: zq_calli 212 2 9 3 :: zq_k 4294967295 :: zq_ic_ne 74 :: zq_ald 0 :: zq_ild 1 :: zq_ild 2 :: zq_ald 0 :: zq_ild 1 :: zq_ild 2 :: zq_calli 215 2 9 5 :: zq_calli 216 3 9 4 :: xb_219_5
theorem xc_219_4 : zCd 219 [0, 7, 27, 29, 37, 74, 80, 86, 88, 98, 165, 171, 177] 37 xb_219_4 := zc_iload_n xj_219 38 2 rfl rfl (zc_bipush xj_219 40 40 40 rfl rfl rfl (zc_ic_ge xj_219 43 40 80 rfl rfl rfl (zc_aload_n xj_219 44 0 rfl rfl (zc_iload_n xj_219 45 1 rfl rfl (zc_iload_n xj_219 46 2 rfl rfl (zc_invokevirtual1 xj_219 49 141 218 2 256 9 3 rfl rfl rfl (zc_if_eq xj_219 52 25 74 rfl rfl rfl (zc_aload_n xj_219 53 0 rfl rfl (zc_iload_n xj_219 54 1 rfl rfl (zc_iload_n xj_219 55 2 rfl rfl (zc_invokevirtual1 xj_219 58 118 212 2 262 9 3 rfl rfl rfl (zc_iconst xj_219 59 (-1) 4294967295 rfl rfl rfl (zc_ic_ne xj_219 62 15 74 rfl rfl rfl (zc_aload_n xj_219 63 0 rfl rfl (zc_iload_n xj_219 64 1 rfl rfl (zc_iload_n xj_219 65 2 rfl rfl (zc_aload_n xj_219 66 0 rfl rfl (zc_iload_n xj_219 67 1 rfl rfl (zc_iload_n xj_219 68 2 rfl rfl (zc_invokevirtual1 xj_219 71 144 215 2 263 9 5 rfl rfl rfl (zc_invokevirtual1 xj_219 74 147 216 3 278 9 4 rfl rfl rfl (xc_219_5))))))))))))))))))))))
noncomputable def xb_219_3 : List zF := zq_ild 1 :: zq_k 40 :: zq_ic_ge 86 :: zq_k 0 :: zq_ist 2 :: xb_219_4
theorem xc_219_3 : zCd 219 [0, 7, 27, 29, 37, 74, 80, 86, 88, 98, 165, 171, 177] 29 xb_219_3 := zc_iload_n xj_219 30 1 rfl rfl (zc_bipush xj_219 32 40 40 rfl rfl rfl (zc_ic_ge xj_219 35 54 86 rfl rfl rfl (zc_iconst xj_219 36 0 0 rfl rfl rfl (zc_istore_n xj_219 37 2 rfl rfl (xc_219_4)))))
noncomputable def xb_219_2 : List zF := zq_k 0 :: zq_ist 1 :: xb_219_3
theorem xc_219_2 : zCd 219 [0, 7, 27, 29, 37, 74, 80, 86, 88, 98, 165, 171, 177] 27 xb_219_2 := zc_iconst xj_219 28 0 0 rfl rfl rfl (zc_istore_n xj_219 29 1 rfl rfl (xc_219_3))
noncomputable def xb_219_1 : List zF := [zq_ild 1, zq_k 1600, zq_ic_ge 27, zq_ald 0, zq_getf 9 3, zq_ild 1, zq_k 4294967295, zq_iast, zq_inc 1 1, zq_goto 7]
theorem xc_219_1 : zCd 219 [0, 7, 27, 29, 37, 74, 80, 86, 88, 98, 165, 171, 177] 7 xb_219_1 := zc_iload_n xj_219 8 1 rfl rfl (zc_sipush xj_219 11 1600 1600 rfl rfl rfl (zc_ic_ge xj_219 14 16 27 rfl rfl rfl (zc_aload_n xj_219 15 0 rfl rfl (zc_getf xj_219 18 20 9 3 97 rfl rfl (zc_iload_n xj_219 19 1 rfl rfl (zc_iconst xj_219 20 (-1) 4294967295 rfl rfl rfl (zc_iastore xj_219 21 rfl rfl (zc_iinc xj_219 24 1 1 1 rfl rfl rfl (zc_goto xj_219 25 (-17) 7 rfl rfl rfl (trivial))))))))))
noncomputable def xb_219_0 : List zF := zq_ald 0 :: zq_k 0 :: zq_putf 9 4 0 :: zq_k 0 :: zq_ist 1 :: xb_219_1
theorem xc_219_0 : zCd 219 [0, 7, 27, 29, 37, 74, 80, 86, 88, 98, 165, 171, 177] 0 xb_219_0 := zc_aload_n xj_219 1 0 rfl rfl (zc_iconst xj_219 2 0 0 rfl rfl rfl (zc_putf xj_219 5 134 9 4 98 0 rfl rfl rfl (zc_iconst xj_219 6 0 0 rfl rfl rfl (zc_istore_n xj_219 7 1 rfl rfl (xc_219_1)))))
noncomputable def xm_219 : Lean.RArray (List zF) := .branch 80 (.branch 29 (.branch 7 (.leaf xb_219_0) (.branch 27 (.leaf xb_219_1) (.leaf xb_219_2))) (.branch 37 (.leaf xb_219_3) (.branch 74 (.leaf xb_219_4) (.leaf xb_219_5)))) (.branch 98 (.branch 86 (.leaf xb_219_6) (.branch 88 (.leaf xb_219_7) (.leaf xb_219_8))) (.branch 171 (.branch 165 (.leaf xb_219_9) (.leaf xb_219_10)) (.branch 177 (.leaf xb_219_11) (.leaf xb_219_12))))
theorem xa_219 : zCdAll 219 [0, 7, 27, 29, 37, 74, 80, 86, 88, 98, 165, 171, 177] xm_219 := zAll2_ok (P := fun t => zCd 219 [0, 7, 27, 29, 37, 74, 80, 86, 88, 98, 165, 171, 177] t (xm_219.get t)) ⟨xc_219_0, xc_219_1, xc_219_2, xc_219_3, xc_219_4, xc_219_5, xc_219_6, xc_219_7, xc_219_8, xc_219_9, xc_219_10, xc_219_11, xc_219_12, trivial⟩
/-- SquareMeshModel.order -/
theorem xj_220 : ∀ pc, pI 220 pc = pJ_220 pc := fun _ => rfl
noncomputable def xb_220_13 : List zF := [zq_vret]
theorem xc_220_13 : zCd 220 [0, 2, 10, 52, 113, 115, 136, 195, 201, 207, 209, 219, 264, 270] 270 xb_220_13 := zc_return_ xj_220 271 rfl rfl (trivial)
noncomputable def xb_220_12 : List zF := [zq_inc 1 1, zq_goto 209]
theorem xc_220_12 : zCd 220 [0, 2, 10, 52, 113, 115, 136, 195, 201, 207, 209, 219, 264, 270] 264 xb_220_12 := zc_iinc xj_220 267 1 1 1 rfl rfl rfl (zc_goto xj_220 268 (-58) 209 rfl rfl rfl (trivial))
noncomputable def xb_220_11 : List zF := [zq_ild 2, zq_k 3, zq_ic_ge 264, zq_ald 0, zq_getf 9 3, zq_k 40, zq_ald 0, zq_getf 9 2, zq_k 3, zq_ild 1, zq_mul, zq_ild 2, zq_add, zq_ild_ 0, zq_mul, zq_ald 0, zq_getf 9 2, zq_k 3, zq_ild 1, zq_mul, zq_ild 2, zq_k 1, zq_add, zq_k 3, zq_rem, zq_add, zq_ild_ 0, zq_add, zq_ild 1, zq_iast, zq_inc 2 1, zq_goto 219]
theorem xc_220_11 : zCd 220 [0, 2, 10, 52, 113, 115, 136, 195, 201, 207, 209, 219, 264, 270] 219 xb_220_11 := zc_iload_n xj_220 220 2 rfl rfl (zc_iconst xj_220 221 3 3 rfl rfl rfl (zc_ic_ge xj_220 224 43 264 rfl rfl rfl (zc_aload_n xj_220 225 0 rfl rfl (zc_getf xj_220 228 20 9 3 97 rfl rfl (zc_bipush xj_220 230 40 40 rfl rfl rfl (zc_aload_n xj_220 231 0 rfl rfl (zc_getf xj_220 234 17 9 2 96 rfl rfl (zc_iconst xj_220 235 3 3 rfl rfl rfl (zc_iload_n xj_220 236 1 rfl rfl (zc_imul xj_220 237 rfl rfl (zc_iload_n xj_220 238 2 rfl rfl (zc_iadd xj_220 239 rfl rfl (zc_iaload xj_220 240 rfl rfl (zc_imul xj_220 241 rfl rfl (zc_aload_n xj_220 242 0 rfl rfl (zc_getf xj_220 245 17 9 2 96 rfl rfl (zc_iconst xj_220 246 3 3 rfl rfl rfl (zc_iload_n xj_220 247 1 rfl rfl (zc_imul xj_220 248 rfl rfl (zc_iload_n xj_220 249 2 rfl rfl (zc_iconst xj_220 250 1 1 rfl rfl rfl (zc_iadd xj_220 251 rfl rfl (zc_iconst xj_220 252 3 3 rfl rfl rfl (zc_irem xj_220 253 rfl rfl (zc_iadd xj_220 254 rfl rfl (zc_iaload xj_220 255 rfl rfl (zc_iadd xj_220 256 rfl rfl (zc_iload_n xj_220 257 1 rfl rfl (zc_iastore xj_220 258 rfl rfl (zc_iinc xj_220 261 2 1 1 rfl rfl rfl (zc_goto xj_220 262 (-42) 219 rfl rfl rfl (trivial))))))))))))))))))))))))))))))))
noncomputable def xb_220_10 : List zF := zq_ild 1 :: zq_ald 0 :: zq_getf 9 4 :: zq_ic_ge 270 :: zq_k 0 :: zq_ist 2 :: xb_220_11
theorem xc_220_10 : zCd 220 [0, 2, 10, 52, 113, 115, 136, 195, 201, 207, 209, 219, 264, 270] 209 xb_220_10 := zc_iload_n xj_220 210 1 rfl rfl (zc_aload_n xj_220 211 0 rfl rfl (zc_getf xj_220 214 134 9 4 98 rfl rfl (zc_ic_ge xj_220 217 56 270 rfl rfl rfl (zc_iconst xj_220 218 0 0 rfl rfl rfl (zc_istore_n xj_220 219 2 rfl rfl (xc_220_11))))))
noncomputable def xb_220_9 : List zF := zq_k 0 :: zq_ist 1 :: xb_220_10
theorem xc_220_9 : zCd 220 [0, 2, 10, 52, 113, 115, 136, 195, 201, 207, 209, 219, 264, 270] 207 xb_220_9 := zc_iconst xj_220 208 0 0 rfl rfl rfl (zc_istore_n xj_220 209 1 rfl rfl (xc_220_10))
noncomputable def xb_220_8 : List zF := [zq_inc 1 1, zq_goto 2]
theorem xc_220_8 : zCd 220 [0, 2, 10, 52, 113, 115, 136, 195, 201, 207, 209, 219, 264, 270] 201 xb_220_8 := zc_iinc xj_220 204 1 1 1 rfl rfl rfl (zc_goto xj_220 205 (-202) 2 rfl rfl rfl (trivial))
noncomputable def xb_220_7 : List zF := [zq_inc 2 4294967295, zq_goto 115]
theorem xc_220_7 : zCd 220 [0, 2, 10, 52, 113, 115, 136, 195, 201, 207, 209, 219, 264, 270] 195 xb_220_7 := zc_iinc xj_220 198 2 (-1) 4294967295 rfl rfl rfl (zc_goto xj_220 199 (-83) 115 rfl rfl rfl (trivial))
noncomputable def xb_220_6 : List zF := [zq_ild 3, zq_k 3, zq_ic_ge 195, zq_ald 0, zq_getf 9 2, zq_k 3, zq_ild 2, zq_mul, zq_ild 3, zq_add, zq_ild_ 0, zq_ist 4, zq_ald 0, zq_getf 9 2, zq_k 3, zq_ild 2, zq_mul, zq_ild 3, zq_add, zq_ald 0, zq_getf 9 2, zq_k 3, zq_ild 2, zq_mul, zq_k 3, zq_sub, zq_ild 3, zq_add, zq_ild_ 0, zq_iast, zq_ald 0, zq_getf 9 2, zq_k 3, zq_ild 2, zq_mul, zq_k 3, zq_sub, zq_ild 3, zq_add, zq_ild 4, zq_iast, zq_inc 3 1, zq_goto 136]
theorem xc_220_6 : zCd 220 [0, 2, 10, 52, 113, 115, 136, 195, 201, 207, 209, 219, 264, 270] 136 xb_220_6 := zc_iload_n xj_220 137 3 rfl rfl (zc_iconst xj_220 138 3 3 rfl rfl rfl (zc_ic_ge xj_220 141 57 195 rfl rfl rfl (zc_aload_n xj_220 142 0 rfl rfl (zc_getf xj_220 145 17 9 2 96 rfl rfl (zc_iconst xj_220 146 3 3 rfl rfl rfl (zc_iload_n xj_220 147 2 rfl rfl (zc_imul xj_220 148 rfl rfl (zc_iload_n xj_220 149 3 rfl rfl (zc_iadd xj_220 150 rfl rfl (zc_iaload xj_220 151 rfl rfl (zc_istore xj_220 153 4 rfl rfl (zc_aload_n xj_220 154 0 rfl rfl (zc_getf xj_220 157 17 9 2 96 rfl rfl (zc_iconst xj_220 158 3 3 rfl rfl rfl (zc_iload_n xj_220 159 2 rfl rfl (zc_imul xj_220 160 rfl rfl (zc_iload_n xj_220 161 3 rfl rfl (zc_iadd xj_220 162 rfl rfl (zc_aload_n xj_220 163 0 rfl rfl (zc_getf xj_220 166 17 9 2 96 rfl rfl (zc_iconst xj_220 167 3 3 rfl rfl rfl (zc_iload_n xj_220 168 2 rfl rfl (zc_imul xj_220 169 rfl rfl (zc_iconst xj_220 170 3 3 rfl rfl rfl (zc_isub xj_220 171 rfl rfl (zc_iload_n xj_220 172 3 rfl rfl (zc_iadd xj_220 173 rfl rfl (zc_iaload xj_220 174 rfl rfl (zc_iastore xj_220 175 rfl rfl (zc_aload_n xj_220 176 0 rfl rfl (zc_getf xj_220 179 17 9 2 96 rfl rfl (zc_iconst xj_220 180 3 3 rfl rfl rfl (zc_iload_n xj_220 181 2 rfl rfl (zc_imul xj_220 182 rfl rfl (zc_iconst xj_220 183 3 3 rfl rfl rfl (zc_isub xj_220 184 rfl rfl (zc_iload_n xj_220 185 3 rfl rfl (zc_iadd xj_220 186 rfl rfl (zc_iload xj_220 188 4 rfl rfl (zc_iastore xj_220 189 rfl rfl (zc_iinc xj_220 192 3 1 1 rfl rfl rfl (zc_goto xj_220 193 (-56) 136 rfl rfl rfl (trivial)))))))))))))))))))))))))))))))))))))))))))
noncomputable def xb_220_5 : List zF := zq_ild 2 :: zq_if_le 201 :: zq_ald 0 :: zq_ild 2 :: zq_calli 221 1 9 2 :: zq_ald 0 :: zq_ild 2 :: zq_k 1 :: zq_sub :: zq_calli 221 1 9 2 :: zq_ic_ge 201 :: zq_k 0 :: zq_ist 3 :: xb_220_6
theorem xc_220_5 : zCd 220 [0, 2, 10, 52, 113, 115, 136, 195, 201, 207, 209, 219, 264, 270] 115 xb_220_5 := zc_iload_n xj_220 116 2 rfl rfl (zc_if_le xj_220 119 85 201 rfl rfl rfl (zc_aload_n xj_220 120 0 rfl rfl (zc_iload_n xj_220 121 2 rfl rfl (zc_invokevirtual1 xj_220 124 153 221 1 280 9 2 rfl rfl rfl (zc_aload_n xj_220 125 0 rfl rfl (zc_iload_n xj_220 126 2 rfl rfl (zc_iconst xj_220 127 1 1 rfl rfl rfl (zc_isub xj_220 128 rfl rfl (zc_invokevirtual1 xj_220 131 153 221 1 280 9 2 rfl rfl rfl (zc_ic_ge xj_220 134 70 201 rfl rfl rfl (zc_iconst xj_220 135 0 0 rfl rfl rfl (zc_istore_n xj_220 136 3 rfl rfl (xc_220_6)))))))))))))
noncomputable def xb_220_4 : List zF := zq_ild 1 :: zq_ist 2 :: xb_220_5
theorem xc_220_4 : zCd 220 [0, 2, 10, 52, 113, 115, 136, 195, 201, 207, 209, 219, 264, 270] 113 xb_220_4 := zc_iload_n xj_220 114 1 rfl rfl (zc_istore_n xj_220 115 2 rfl rfl (xc_220_5))
noncomputable def xb_220_3 : List zF := [zq_ald 0, zq_getf 9 2, zq_k 3, zq_ild 1, zq_mul, zq_ild_ 0, zq_ist 2, zq_ald 0, zq_getf 9 2, zq_k 3, zq_ild 1, zq_mul, zq_ald 0, zq_getf 9 2, zq_k 3, zq_ild 1, zq_mul, zq_k 1, zq_add, zq_ild_ 0, zq_iast, zq_ald 0, zq_getf 9 2, zq_k 3, zq_ild 1, zq_mul, zq_k 1, zq_add, zq_ald 0, zq_getf 9 2, zq_k 3, zq_ild 1, zq_mul, zq_k 2, zq_add, zq_ild_ 0, zq_iast, zq_ald 0, zq_getf 9 2, zq_k 3, zq_ild 1, zq_mul, zq_k 2, zq_add, zq_ild 2, zq_iast, zq_goto 10]
theorem xc_220_3 : zCd 220 [0, 2, 10, 52, 113, 115, 136, 195, 201, 207, 209, 219, 264, 270] 52 xb_220_3 := zc_aload_n xj_220 53 0 rfl rfl (zc_getf xj_220 56 17 9 2 96 rfl rfl (zc_iconst xj_220 57 3 3 rfl rfl rfl (zc_iload_n xj_220 58 1 rfl rfl (zc_imul xj_220 59 rfl rfl (zc_iaload xj_220 60 rfl rfl (zc_istore_n xj_220 61 2 rfl rfl (zc_aload_n xj_220 62 0 rfl rfl (zc_getf xj_220 65 17 9 2 96 rfl rfl (zc_iconst xj_220 66 3 3 rfl rfl rfl (zc_iload_n xj_220 67 1 rfl rfl (zc_imul xj_220 68 rfl rfl (zc_aload_n xj_220 69 0 rfl rfl (zc_getf xj_220 72 17 9 2 96 rfl rfl (zc_iconst xj_220 73 3 3 rfl rfl rfl (zc_iload_n xj_220 74 1 rfl rfl (zc_imul xj_220 75 rfl rfl (zc_iconst xj_220 76 1 1 rfl rfl rfl (zc_iadd xj_220 77 rfl rfl (zc_iaload xj_220 78 rfl rfl (zc_iastore xj_220 79 rfl rfl (zc_aload_n xj_220 80 0 rfl rfl (zc_getf xj_220 83 17 9 2 96 rfl rfl (zc_iconst xj_220 84 3 3 rfl rfl rfl (zc_iload_n xj_220 85 1 rfl rfl (zc_imul xj_220 86 rfl rfl (zc_iconst xj_220 87 1 1 rfl rfl rfl (zc_iadd xj_220 88 rfl rfl (zc_aload_n xj_220 89 0 rfl rfl (zc_getf xj_220 92 17 9 2 96 rfl rfl (zc_iconst xj_220 93 3 3 rfl rfl rfl (zc_iload_n xj_220 94 1 rfl rfl (zc_imul xj_220 95 rfl rfl (zc_iconst xj_220 96 2 2 rfl rfl rfl (zc_iadd xj_220 97 rfl rfl (zc_iaload xj_220 98 rfl rfl (zc_iastore xj_220 99 rfl rfl (zc_aload_n xj_220 100 0 rfl rfl (zc_getf xj_220 103 17 9 2 96 rfl rfl (zc_iconst xj_220 104 3 3 rfl rfl rfl (zc_iload_n xj_220 105 1 rfl rfl (zc_imul xj_220 106 rfl rfl (zc_iconst xj_220 107 2 2 rfl rfl rfl (zc_iadd xj_220 108 rfl rfl (zc_iload_n xj_220 109 2 rfl rfl (zc_iastore xj_220 110 rfl rfl (zc_goto xj_220 111 (-100) 10 rfl rfl rfl (trivial)))))))))))))))))))))))))))))))))))))))))))))))
noncomputable def xb_220_2 : List zF := zq_ald 0 :: zq_getf 9 2 :: zq_k 3 :: zq_ild 1 :: zq_mul :: zq_ild_ 0 :: zq_ald 0 :: zq_getf 9 2 :: zq_k 3 :: zq_ild 1 :: zq_mul :: zq_k 1 :: zq_add :: zq_ild_ 0 :: zq_ic_gt 52 :: zq_ald 0 :: zq_getf 9 2 :: zq_k 3 :: zq_ild 1 :: zq_mul :: zq_ild_ 0 :: zq_ald 0 :: zq_getf 9 2 :: zq_k 3 :: zq_ild 1 :: zq_mul :: zq_k 2 :: zq_add :: zq_ild_ 0 :: zq_ic_le 113 :: xb_220_3
theorem xc_220_2 : zCd 220 [0, 2, 10, 52, 113, 115, 136, 195, 201, 207, 209, 219, 264, 270] 10 xb_220_2 := zc_aload_n xj_220 11 0 rfl rfl (zc_getf xj_220 14 17 9 2 96 rfl rfl (zc_iconst xj_220 15 3 3 rfl rfl rfl (zc_iload_n xj_220 16 1 rfl rfl (zc_imul xj_220 17 rfl rfl (zc_iaload xj_220 18 rfl rfl (zc_aload_n xj_220 19 0 rfl rfl (zc_getf xj_220 22 17 9 2 96 rfl rfl (zc_iconst xj_220 23 3 3 rfl rfl rfl (zc_iload_n xj_220 24 1 rfl rfl (zc_imul xj_220 25 rfl rfl (zc_iconst xj_220 26 1 1 rfl rfl rfl (zc_iadd xj_220 27 rfl rfl (zc_iaload xj_220 28 rfl rfl (zc_ic_gt xj_220 31 24 52 rfl rfl rfl (zc_aload_n xj_220 32 0 rfl rfl (zc_getf xj_220 35 17 9 2 96 rfl rfl (zc_iconst xj_220 36 3 3 rfl rfl rfl (zc_iload_n xj_220 37 1 rfl rfl (zc_imul xj_220 38 rfl rfl (zc_iaload xj_220 39 rfl rfl (zc_aload_n xj_220 40 0 rfl rfl (zc_getf xj_220 43 17 9 2 96 rfl rfl (zc_iconst xj_220 44 3 3 rfl rfl rfl (zc_iload_n xj_220 45 1 rfl rfl (zc_imul xj_220 46 rfl rfl (zc_iconst xj_220 47 2 2 rfl rfl rfl (zc_iadd xj_220 48 rfl rfl (zc_iaload xj_220 49 rfl rfl (zc_ic_le xj_220 52 64 113 rfl rfl rfl (xc_220_3))))))))))))))))))))))))))))))
noncomputable def xb_220_1 : List zF := zq_ild 1 :: zq_ald 0 :: zq_getf 9 4 :: zq_ic_ge 207 :: xb_220_2
theorem xc_220_1 : zCd 220 [0, 2, 10, 52, 113, 115, 136, 195, 201, 207, 209, 219, 264, 270] 2 xb_220_1 := zc_iload_n xj_220 3 1 rfl rfl (zc_aload_n xj_220 4 0 rfl rfl (zc_getf xj_220 7 134 9 4 98 rfl rfl (zc_ic_ge xj_220 10 200 207 rfl rfl rfl (xc_220_2))))
noncomputable def xb_220_0 : List zF := zq_k 0 :: zq_ist 1 :: xb_220_1
theorem xc_220_0 : zCd 220 [0, 2, 10, 52, 113, 115, 136, 195, 201, 207, 209, 219, 264, 270] 0 xb_220_0 := zc_iconst xj_220 1 0 0 rfl rfl rfl (zc_istore_n xj_220 2 1 rfl rfl (xc_220_1))
noncomputable def xm_220 : Lean.RArray (List zF) := .branch 195 (.branch 52 (.branch 2 (.leaf xb_220_0) (.branch 10 (.leaf xb_220_1) (.leaf xb_220_2))) (.branch 115 (.branch 113 (.leaf xb_220_3) (.leaf xb_220_4)) (.branch 136 (.leaf xb_220_5) (.leaf xb_220_6)))) (.branch 209 (.branch 201 (.leaf xb_220_7) (.branch 207 (.leaf xb_220_8) (.leaf xb_220_9))) (.branch 264 (.branch 219 (.leaf xb_220_10) (.leaf xb_220_11)) (.branch 270 (.leaf xb_220_12) (.leaf xb_220_13))))
theorem xa_220 : zCdAll 220 [0, 2, 10, 52, 113, 115, 136, 195, 201, 207, 209, 219, 264, 270] xm_220 := zAll2_ok (P := fun t => zCd 220 [0, 2, 10, 52, 113, 115, 136, 195, 201, 207, 209, 219, 264, 270] t (xm_220.get t)) ⟨xc_220_0, xc_220_1, xc_220_2, xc_220_3, xc_220_4, xc_220_5, xc_220_6, xc_220_7, xc_220_8, xc_220_9, xc_220_10, xc_220_11, xc_220_12, xc_220_13, trivial⟩
/-- SquareMeshModel.codeOf -/
theorem xj_221 : ∀ pc, pI 221 pc = pJ_221 pc := fun _ => rfl
noncomputable def xb_221_0 : List zF := [zq_k 40, zq_ald 0, zq_getf 9 2, zq_k 3, zq_ild 1, zq_mul, zq_ild_ 0, zq_mul, zq_ald 0, zq_getf 9 2, zq_k 3, zq_ild 1, zq_mul, zq_k 1, zq_add, zq_ild_ 0, zq_add, zq_k 40, zq_mul, zq_ald 0, zq_getf 9 2, zq_k 3, zq_ild 1, zq_mul, zq_k 2, zq_add, zq_ild_ 0, zq_add, zq_iret 0]
theorem xc_221_0 : zCd 221 [0] 0 xb_221_0 := zc_bipush xj_221 2 40 40 rfl rfl rfl (zc_aload_n xj_221 3 0 rfl rfl (zc_getf xj_221 6 17 9 2 96 rfl rfl (zc_iconst xj_221 7 3 3 rfl rfl rfl (zc_iload_n xj_221 8 1 rfl rfl (zc_imul xj_221 9 rfl rfl (zc_iaload xj_221 10 rfl rfl (zc_imul xj_221 11 rfl rfl (zc_aload_n xj_221 12 0 rfl rfl (zc_getf xj_221 15 17 9 2 96 rfl rfl (zc_iconst xj_221 16 3 3 rfl rfl rfl (zc_iload_n xj_221 17 1 rfl rfl (zc_imul xj_221 18 rfl rfl (zc_iconst xj_221 19 1 1 rfl rfl rfl (zc_iadd xj_221 20 rfl rfl (zc_iaload xj_221 21 rfl rfl (zc_iadd xj_221 22 rfl rfl (zc_bipush xj_221 24 40 40 rfl rfl rfl (zc_imul xj_221 25 rfl rfl (zc_aload_n xj_221 26 0 rfl rfl (zc_getf xj_221 29 17 9 2 96 rfl rfl (zc_iconst xj_221 30 3 3 rfl rfl rfl (zc_iload_n xj_221 31 1 rfl rfl (zc_imul xj_221 32 rfl rfl (zc_iconst xj_221 33 2 2 rfl rfl rfl (zc_iadd xj_221 34 rfl rfl (zc_iaload xj_221 35 rfl rfl (zc_iadd xj_221 36 rfl rfl (zc_ireturn0 xj_221 37 rfl rfl (trivial)))))))))))))))))))))))))))))
noncomputable def xm_221 : Lean.RArray (List zF) := .leaf xb_221_0
theorem xa_221 : zCdAll 221 [0] xm_221 := zAll2_ok (P := fun t => zCd 221 [0] t (xm_221.get t)) ⟨xc_221_0, trivial⟩
/-- SquareMeshModel.putAside -/
theorem xj_222 : ∀ pc, pI 222 pc = pJ_222 pc := fun _ => rfl
noncomputable def xb_222_2 : List zF := [zq_vret]
theorem xc_222_2 : zCd 222 [0, 2, 29] 29 xb_222_2 := zc_return_ xj_222 30 rfl rfl (trivial)
noncomputable def xb_222_1 : List zF := [zq_ild 1, zq_k 1778, zq_ic_ge 29, zq_ald 0, zq_getf 9 5, zq_ild 1, zq_ald 0, zq_getf 9 0, zq_k 2, zq_ild 1, zq_add, zq_ild_ 0, zq_iast, zq_inc 1 1, zq_goto 2]
theorem xc_222_1 : zCd 222 [0, 2, 29] 2 xb_222_1 := zc_iload_n xj_222 3 1 rfl rfl (zc_sipush xj_222 6 1778 1778 rfl rfl rfl (zc_ic_ge xj_222 9 23 29 rfl rfl rfl (zc_aload_n xj_222 10 0 rfl rfl (zc_getf xj_222 13 23 9 5 99 rfl rfl (zc_iload_n xj_222 14 1 rfl rfl (zc_aload_n xj_222 15 0 rfl rfl (zc_getf xj_222 18 8 9 0 94 rfl rfl (zc_iconst xj_222 19 2 2 rfl rfl rfl (zc_iload_n xj_222 20 1 rfl rfl (zc_iadd xj_222 21 rfl rfl (zc_iaload xj_222 22 rfl rfl (zc_iastore xj_222 23 rfl rfl (zc_iinc xj_222 26 1 1 1 rfl rfl rfl (zc_goto xj_222 27 (-24) 2 rfl rfl rfl (trivial)))))))))))))))
noncomputable def xb_222_0 : List zF := zq_k 0 :: zq_ist 1 :: xb_222_1
theorem xc_222_0 : zCd 222 [0, 2, 29] 0 xb_222_0 := zc_iconst xj_222 1 0 0 rfl rfl rfl (zc_istore_n xj_222 2 1 rfl rfl (xc_222_1))
noncomputable def xm_222 : Lean.RArray (List zF) := .branch 2 (.leaf xb_222_0) (.branch 29 (.leaf xb_222_1) (.leaf xb_222_2))
theorem xa_222 : zCdAll 222 [0, 2, 29] xm_222 := zAll2_ok (P := fun t => zCd 222 [0, 2, 29] t (xm_222.get t)) ⟨xc_222_0, xc_222_1, xc_222_2, trivial⟩
/-- SquareMeshModel.bringBack -/
theorem xj_223 : ∀ pc, pI 223 pc = pJ_223 pc := fun _ => rfl
noncomputable def xb_223_2 : List zF := [zq_ald 0, zq_calli 219 0 9 5, zq_vret]
theorem xc_223_2 : zCd 223 [0, 2, 29] 29 xb_223_2 := zc_aload_n xj_223 30 0 rfl rfl (zc_invokevirtual1 xj_223 33 61 219 0 255 9 5 rfl rfl rfl (zc_return_ xj_223 34 rfl rfl (trivial)))
noncomputable def xb_223_1 : List zF := [zq_ild 1, zq_k 1778, zq_ic_ge 29, zq_ald 0, zq_getf 9 0, zq_k 2, zq_ild 1, zq_add, zq_ald 0, zq_getf 9 5, zq_ild 1, zq_ild_ 0, zq_iast, zq_inc 1 1, zq_goto 2]
theorem xc_223_1 : zCd 223 [0, 2, 29] 2 xb_223_1 := zc_iload_n xj_223 3 1 rfl rfl (zc_sipush xj_223 6 1778 1778 rfl rfl rfl (zc_ic_ge xj_223 9 23 29 rfl rfl rfl (zc_aload_n xj_223 10 0 rfl rfl (zc_getf xj_223 13 8 9 0 94 rfl rfl (zc_iconst xj_223 14 2 2 rfl rfl rfl (zc_iload_n xj_223 15 1 rfl rfl (zc_iadd xj_223 16 rfl rfl (zc_aload_n xj_223 17 0 rfl rfl (zc_getf xj_223 20 23 9 5 99 rfl rfl (zc_iload_n xj_223 21 1 rfl rfl (zc_iaload xj_223 22 rfl rfl (zc_iastore xj_223 23 rfl rfl (zc_iinc xj_223 26 1 1 1 rfl rfl rfl (zc_goto xj_223 27 (-24) 2 rfl rfl rfl (trivial)))))))))))))))
noncomputable def xb_223_0 : List zF := zq_k 0 :: zq_ist 1 :: xb_223_1
theorem xc_223_0 : zCd 223 [0, 2, 29] 0 xb_223_0 := zc_iconst xj_223 1 0 0 rfl rfl rfl (zc_istore_n xj_223 2 1 rfl rfl (xc_223_1))
noncomputable def xm_223 : Lean.RArray (List zF) := .branch 2 (.leaf xb_223_0) (.branch 29 (.leaf xb_223_1) (.leaf xb_223_2))
theorem xa_223 : zCdAll 223 [0, 2, 29] xm_223 := zAll2_ok (P := fun t => zCd 223 [0, 2, 29] t (xm_223.get t)) ⟨xc_223_0, xc_223_1, xc_223_2, trivial⟩
/-- SquareMeshModel.stepAt -/
theorem xj_224 : ∀ pc, pI 224 pc = pJ_224 pc := fun _ => rfl
noncomputable def xb_224_0 : List zF := [zq_k 1780, zq_k 1778, zq_ild 0, zq_ild 1, zq_add, zq_k 20, zq_rem, zq_mul, zq_add, zq_iret 0]
theorem xc_224_0 : zCd 224 [0] 0 xb_224_0 := zc_sipush xj_224 3 1780 1780 rfl rfl rfl (zc_sipush xj_224 6 1778 1778 rfl rfl rfl (zc_iload_n xj_224 7 0 rfl rfl (zc_iload_n xj_224 8 1 rfl rfl (zc_iadd xj_224 9 rfl rfl (zc_bipush xj_224 11 20 20 rfl rfl rfl (zc_irem xj_224 12 rfl rfl (zc_imul xj_224 13 rfl rfl (zc_iadd xj_224 14 rfl rfl (zc_ireturn0 xj_224 15 rfl rfl (trivial))))))))))
noncomputable def xm_224 : Lean.RArray (List zF) := .leaf xb_224_0
theorem xa_224 : zCdAll 224 [0] xm_224 := zAll2_ok (P := fun t => zCd 224 [0] t (xm_224.get t)) ⟨xc_224_0, trivial⟩
/-- SquareMeshModel.keep -/
theorem xj_225 : ∀ pc, pI 225 pc = pJ_225 pc := fun _ => rfl
noncomputable def xb_225_3 : List zF := [zq_ald 0, zq_getf 9 0, zq_k 0, zq_dup2, zq_ild_ 0, zq_k 1, zq_add, zq_iast, zq_vret]
theorem xc_225_3 : zCd 225 [0, 38, 56, 85] 85 xb_225_3 := zc_aload_n xj_225 86 0 rfl rfl (zc_getf xj_225 89 8 9 0 94 rfl rfl (zc_iconst xj_225 90 0 0 rfl rfl rfl (zc_dup2 xj_225 91 rfl rfl (zc_iaload xj_225 92 rfl rfl (zc_iconst xj_225 93 1 1 rfl rfl rfl (zc_iadd xj_225 94 rfl rfl (zc_iastore xj_225 95 rfl rfl (zc_return_ xj_225 96 rfl rfl (trivial)))))))))
noncomputable def xb_225_2 : List zF := [zq_ild 2, zq_k 1778, zq_ic_ge 85, zq_ald 0, zq_getf 9 0, zq_ild 1, zq_ild 2, zq_add, zq_ald 0, zq_getf 9 0, zq_k 2, zq_ild 2, zq_add, zq_ild_ 0, zq_iast, zq_inc 2 1, zq_goto 56]
theorem xc_225_2 : zCd 225 [0, 38, 56, 85] 56 xb_225_2 := zc_iload_n xj_225 57 2 rfl rfl (zc_sipush xj_225 60 1778 1778 rfl rfl rfl (zc_ic_ge xj_225 63 25 85 rfl rfl rfl (zc_aload_n xj_225 64 0 rfl rfl (zc_getf xj_225 67 8 9 0 94 rfl rfl (zc_iload_n xj_225 68 1 rfl rfl (zc_iload_n xj_225 69 2 rfl rfl (zc_iadd xj_225 70 rfl rfl (zc_aload_n xj_225 71 0 rfl rfl (zc_getf xj_225 74 8 9 0 94 rfl rfl (zc_iconst xj_225 75 2 2 rfl rfl rfl (zc_iload_n xj_225 76 2 rfl rfl (zc_iadd xj_225 77 rfl rfl (zc_iaload xj_225 78 rfl rfl (zc_iastore xj_225 79 rfl rfl (zc_iinc xj_225 82 2 1 1 rfl rfl rfl (zc_goto xj_225 83 (-26) 56 rfl rfl rfl (trivial)))))))))))))))))
noncomputable def xb_225_1 : List zF := zq_ald 0 :: zq_getf 9 0 :: zq_k 1 :: zq_ild_ 0 :: zq_ald 0 :: zq_getf 9 0 :: zq_k 0 :: zq_ild_ 0 :: zq_calls 224 2 2 :: zq_ist 1 :: zq_k 0 :: zq_ist 2 :: xb_225_2
theorem xc_225_1 : zCd 225 [0, 38, 56, 85] 38 xb_225_1 := zc_aload_n xj_225 39 0 rfl rfl (zc_getf xj_225 42 8 9 0 94 rfl rfl (zc_iconst xj_225 43 1 1 rfl rfl rfl (zc_iaload xj_225 44 rfl rfl (zc_aload_n xj_225 45 0 rfl rfl (zc_getf xj_225 48 8 9 0 94 rfl rfl (zc_iconst xj_225 49 0 0 rfl rfl rfl (zc_iaload xj_225 50 rfl rfl (zc_invokestatic2 xj_225 53 156 224 2 286 0 2 rfl rfl rfl rfl (zc_istore_n xj_225 54 1 rfl rfl (zc_iconst xj_225 55 0 0 rfl rfl rfl (zc_istore_n xj_225 56 2 rfl rfl (xc_225_2))))))))))))
noncomputable def xb_225_0 : List zF := zq_ald 0 :: zq_getf 9 0 :: zq_k 0 :: zq_ild_ 0 :: zq_k 20 :: zq_ic_ne 38 :: zq_ald 0 :: zq_getf 9 0 :: zq_k 1 :: zq_ald 0 :: zq_getf 9 0 :: zq_k 1 :: zq_ild_ 0 :: zq_k 1 :: zq_add :: zq_k 20 :: zq_rem :: zq_iast :: zq_ald 0 :: zq_getf 9 0 :: zq_k 0 :: zq_dup2 :: zq_ild_ 0 :: zq_k 1 :: zq_sub :: zq_iast :: xb_225_1
theorem xc_225_0 : zCd 225 [0, 38, 56, 85] 0 xb_225_0 := zc_aload_n xj_225 1 0 rfl rfl (zc_getf xj_225 4 8 9 0 94 rfl rfl (zc_iconst xj_225 5 0 0 rfl rfl rfl (zc_iaload xj_225 6 rfl rfl (zc_bipush xj_225 8 20 20 rfl rfl rfl (zc_ic_ne xj_225 11 30 38 rfl rfl rfl (zc_aload_n xj_225 12 0 rfl rfl (zc_getf xj_225 15 8 9 0 94 rfl rfl (zc_iconst xj_225 16 1 1 rfl rfl rfl (zc_aload_n xj_225 17 0 rfl rfl (zc_getf xj_225 20 8 9 0 94 rfl rfl (zc_iconst xj_225 21 1 1 rfl rfl rfl (zc_iaload xj_225 22 rfl rfl (zc_iconst xj_225 23 1 1 rfl rfl rfl (zc_iadd xj_225 24 rfl rfl (zc_bipush xj_225 26 20 20 rfl rfl rfl (zc_irem xj_225 27 rfl rfl (zc_iastore xj_225 28 rfl rfl (zc_aload_n xj_225 29 0 rfl rfl (zc_getf xj_225 32 8 9 0 94 rfl rfl (zc_iconst xj_225 33 0 0 rfl rfl rfl (zc_dup2 xj_225 34 rfl rfl (zc_iaload xj_225 35 rfl rfl (zc_iconst xj_225 36 1 1 rfl rfl rfl (zc_isub xj_225 37 rfl rfl (zc_iastore xj_225 38 rfl rfl (xc_225_1))))))))))))))))))))))))))
noncomputable def xm_225 : Lean.RArray (List zF) := .branch 56 (.branch 38 (.leaf xb_225_0) (.leaf xb_225_1)) (.branch 85 (.leaf xb_225_2) (.leaf xb_225_3))
theorem xa_225 : zCdAll 225 [0, 38, 56, 85] xm_225 := zAll2_ok (P := fun t => zCd 225 [0, 38, 56, 85] t (xm_225.get t)) ⟨xc_225_0, xc_225_1, xc_225_2, xc_225_3, trivial⟩
/-- SquareMeshModel.hole -/
theorem xj_226 : ∀ pc, pI 226 pc = pJ_226 pc := fun _ => rfl
noncomputable def xb_226_2 : List zF := [zq_ald 0, zq_calli 225 0 9 3, zq_ald 0, zq_getf 9 0, zq_k 1764, zq_k 2, zq_ald 0, zq_getf 9 0, zq_k 1763, zq_ild_ 0, zq_mul, zq_add, zq_ild 1, zq_iast, zq_ald 0, zq_getf 9 0, zq_k 1764, zq_k 2, zq_ald 0, zq_getf 9 0, zq_k 1763, zq_ild_ 0, zq_mul, zq_add, zq_k 1, zq_add, zq_ild 2, zq_iast, zq_ald 0, zq_getf 9 0, zq_k 1763, zq_dup2, zq_ild_ 0, zq_k 1, zq_add, zq_iast, zq_ald 0, zq_getf 9 0, zq_k 1763, zq_ild_ 0, zq_iret 0]
theorem xc_226_2 : zCd 226 [0, 21, 23] 23 xb_226_2 := zc_aload_n xj_226 24 0 rfl rfl (zc_invokevirtual1 xj_226 27 162 225 0 285 9 3 rfl rfl rfl (zc_aload_n xj_226 28 0 rfl rfl (zc_getf xj_226 31 8 9 0 94 rfl rfl (zc_sipush xj_226 34 1764 1764 rfl rfl rfl (zc_iconst xj_226 35 2 2 rfl rfl rfl (zc_aload_n xj_226 36 0 rfl rfl (zc_getf xj_226 39 8 9 0 94 rfl rfl (zc_sipush xj_226 42 1763 1763 rfl rfl rfl (zc_iaload xj_226 43 rfl rfl (zc_imul xj_226 44 rfl rfl (zc_iadd xj_226 45 rfl rfl (zc_iload_n xj_226 46 1 rfl rfl (zc_iastore xj_226 47 rfl rfl (zc_aload_n xj_226 48 0 rfl rfl (zc_getf xj_226 51 8 9 0 94 rfl rfl (zc_sipush xj_226 54 1764 1764 rfl rfl rfl (zc_iconst xj_226 55 2 2 rfl rfl rfl (zc_aload_n xj_226 56 0 rfl rfl (zc_getf xj_226 59 8 9 0 94 rfl rfl (zc_sipush xj_226 62 1763 1763 rfl rfl rfl (zc_iaload xj_226 63 rfl rfl (zc_imul xj_226 64 rfl rfl (zc_iadd xj_226 65 rfl rfl (zc_iconst xj_226 66 1 1 rfl rfl rfl (zc_iadd xj_226 67 rfl rfl (zc_iload_n xj_226 68 2 rfl rfl (zc_iastore xj_226 69 rfl rfl (zc_aload_n xj_226 70 0 rfl rfl (zc_getf xj_226 73 8 9 0 94 rfl rfl (zc_sipush xj_226 76 1763 1763 rfl rfl rfl (zc_dup2 xj_226 77 rfl rfl (zc_iaload xj_226 78 rfl rfl (zc_iconst xj_226 79 1 1 rfl rfl rfl (zc_iadd xj_226 80 rfl rfl (zc_iastore xj_226 81 rfl rfl (zc_aload_n xj_226 82 0 rfl rfl (zc_getf xj_226 85 8 9 0 94 rfl rfl (zc_sipush xj_226 88 1763 1763 rfl rfl rfl (zc_iaload xj_226 89 rfl rfl (zc_ireturn0 xj_226 90 rfl rfl (trivial)))))))))))))))))))))))))))))))))))))))))
noncomputable def xb_226_1 : List zF := [zq_k 4294967295, zq_iret 0]
theorem xc_226_1 : zCd 226 [0, 21, 23] 21 xb_226_1 := zc_iconst xj_226 22 (-1) 4294967295 rfl rfl rfl (zc_ireturn0 xj_226 23 rfl rfl (trivial))
noncomputable def xb_226_0 : List zF := zq_ild 1 :: zq_ild 2 :: zq_calls 189 2 2 :: zq_if_eq 21 :: zq_ald 0 :: zq_getf 9 0 :: zq_k 1763 :: zq_ild_ 0 :: zq_k 8 :: zq_ic_ne 23 :: xb_226_1
theorem xc_226_0 : zCd 226 [0, 21, 23] 0 xb_226_0 := zc_iload_n xj_226 1 1 rfl rfl (zc_iload_n xj_226 2 2 rfl rfl (zc_invokestatic2 xj_226 5 159 189 2 284 0 2 rfl rfl rfl rfl (zc_if_eq xj_226 8 16 21 rfl rfl rfl (zc_aload_n xj_226 9 0 rfl rfl (zc_getf xj_226 12 8 9 0 94 rfl rfl (zc_sipush xj_226 15 1763 1763 rfl rfl rfl (zc_iaload xj_226 16 rfl rfl (zc_bipush xj_226 18 8 8 rfl rfl rfl (zc_ic_ne xj_226 21 5 23 rfl rfl rfl (xc_226_1))))))))))
noncomputable def xm_226 : Lean.RArray (List zF) := .branch 21 (.leaf xb_226_0) (.branch 23 (.leaf xb_226_1) (.leaf xb_226_2))
theorem xa_226 : zCdAll 226 [0, 21, 23] xm_226 := zAll2_ok (P := fun t => zCd 226 [0, 21, 23] t (xm_226.get t)) ⟨xc_226_0, xc_226_1, xc_226_2, trivial⟩
/-- SquareMeshModel.fill -/
theorem xj_227 : ∀ pc, pI 227 pc = pJ_227 pc := fun _ => rfl
noncomputable def xb_227_1 : List zF := [zq_ald 0, zq_calli 225 0 9 3, zq_ald 0, zq_getf 9 0, zq_k 1763, zq_dup2, zq_ild_ 0, zq_k 1, zq_sub, zq_iast, zq_ald 0, zq_getf 9 0, zq_k 1764, zq_k 2, zq_ald 0, zq_getf 9 0, zq_k 1763, zq_ild_ 0, zq_mul, zq_add, zq_k 0, zq_iast, zq_ald 0, zq_getf 9 0, zq_k 1764, zq_k 2, zq_ald 0, zq_getf 9 0, zq_k 1763, zq_ild_ 0, zq_mul, zq_add, zq_k 1, zq_add, zq_k 0, zq_iast, zq_ald 0, zq_getf 9 0, zq_k 1763, zq_ild_ 0, zq_iret 0]
theorem xc_227_1 : zCd 227 [0, 13] 13 xb_227_1 := zc_aload_n xj_227 14 0 rfl rfl (zc_invokevirtual1 xj_227 17 162 225 0 285 9 3 rfl rfl rfl (zc_aload_n xj_227 18 0 rfl rfl (zc_getf xj_227 21 8 9 0 94 rfl rfl (zc_sipush xj_227 24 1763 1763 rfl rfl rfl (zc_dup2 xj_227 25 rfl rfl (zc_iaload xj_227 26 rfl rfl (zc_iconst xj_227 27 1 1 rfl rfl rfl (zc_isub xj_227 28 rfl rfl (zc_iastore xj_227 29 rfl rfl (zc_aload_n xj_227 30 0 rfl rfl (zc_getf xj_227 33 8 9 0 94 rfl rfl (zc_sipush xj_227 36 1764 1764 rfl rfl rfl (zc_iconst xj_227 37 2 2 rfl rfl rfl (zc_aload_n xj_227 38 0 rfl rfl (zc_getf xj_227 41 8 9 0 94 rfl rfl (zc_sipush xj_227 44 1763 1763 rfl rfl rfl (zc_iaload xj_227 45 rfl rfl (zc_imul xj_227 46 rfl rfl (zc_iadd xj_227 47 rfl rfl (zc_iconst xj_227 48 0 0 rfl rfl rfl (zc_iastore xj_227 49 rfl rfl (zc_aload_n xj_227 50 0 rfl rfl (zc_getf xj_227 53 8 9 0 94 rfl rfl (zc_sipush xj_227 56 1764 1764 rfl rfl rfl (zc_iconst xj_227 57 2 2 rfl rfl rfl (zc_aload_n xj_227 58 0 rfl rfl (zc_getf xj_227 61 8 9 0 94 rfl rfl (zc_sipush xj_227 64 1763 1763 rfl rfl rfl (zc_iaload xj_227 65 rfl rfl (zc_imul xj_227 66 rfl rfl (zc_iadd xj_227 67 rfl rfl (zc_iconst xj_227 68 1 1 rfl rfl rfl (zc_iadd xj_227 69 rfl rfl (zc_iconst xj_227 70 0 0 rfl rfl rfl (zc_iastore xj_227 71 rfl rfl (zc_aload_n xj_227 72 0 rfl rfl (zc_getf xj_227 75 8 9 0 94 rfl rfl (zc_sipush xj_227 78 1763 1763 rfl rfl rfl (zc_iaload xj_227 79 rfl rfl (zc_ireturn0 xj_227 80 rfl rfl (trivial)))))))))))))))))))))))))))))))))))))))))
noncomputable def xb_227_0 : List zF := [zq_ald 0, zq_getf 9 0, zq_k 1763, zq_ild_ 0, zq_if_ne 13, zq_k 4294967295, zq_iret 0]
theorem xc_227_0 : zCd 227 [0, 13] 0 xb_227_0 := zc_aload_n xj_227 1 0 rfl rfl (zc_getf xj_227 4 8 9 0 94 rfl rfl (zc_sipush xj_227 7 1763 1763 rfl rfl rfl (zc_iaload xj_227 8 rfl rfl (zc_if_ne xj_227 11 5 13 rfl rfl rfl (zc_iconst xj_227 12 (-1) 4294967295 rfl rfl rfl (zc_ireturn0 xj_227 13 rfl rfl (trivial)))))))
noncomputable def xm_227 : Lean.RArray (List zF) := .branch 13 (.leaf xb_227_0) (.leaf xb_227_1)
theorem xa_227 : zCdAll 227 [0, 13] xm_227 := zAll2_ok (P := fun t => zCd 227 [0, 13] t (xm_227.get t)) ⟨xc_227_0, xc_227_1, trivial⟩
/-- SquareMeshModel.undo -/
theorem xj_228 : ∀ pc, pI 228 pc = pJ_228 pc := fun _ => rfl
noncomputable def xb_228_3 : List zF := [zq_ald 0, zq_calli 219 0 9 5, zq_ald 0, zq_getf 9 0, zq_k 0, zq_ild_ 0, zq_iret 0]
theorem xc_228_3 : zCd 228 [0, 11, 39, 68] 68 xb_228_3 := zc_aload_n xj_228 69 0 rfl rfl (zc_invokevirtual1 xj_228 72 61 219 0 255 9 5 rfl rfl rfl (zc_aload_n xj_228 73 0 rfl rfl (zc_getf xj_228 76 8 9 0 94 rfl rfl (zc_iconst xj_228 77 0 0 rfl rfl rfl (zc_iaload xj_228 78 rfl rfl (zc_ireturn0 xj_228 79 rfl rfl (trivial)))))))
noncomputable def xb_228_2 : List zF := [zq_ild 2, zq_k 1778, zq_ic_ge 68, zq_ald 0, zq_getf 9 0, zq_k 2, zq_ild 2, zq_add, zq_ald 0, zq_getf 9 0, zq_ild 1, zq_ild 2, zq_add, zq_ild_ 0, zq_iast, zq_inc 2 1, zq_goto 39]
theorem xc_228_2 : zCd 228 [0, 11, 39, 68] 39 xb_228_2 := zc_iload_n xj_228 40 2 rfl rfl (zc_sipush xj_228 43 1778 1778 rfl rfl rfl (zc_ic_ge xj_228 46 25 68 rfl rfl rfl (zc_aload_n xj_228 47 0 rfl rfl (zc_getf xj_228 50 8 9 0 94 rfl rfl (zc_iconst xj_228 51 2 2 rfl rfl rfl (zc_iload_n xj_228 52 2 rfl rfl (zc_iadd xj_228 53 rfl rfl (zc_aload_n xj_228 54 0 rfl rfl (zc_getf xj_228 57 8 9 0 94 rfl rfl (zc_iload_n xj_228 58 1 rfl rfl (zc_iload_n xj_228 59 2 rfl rfl (zc_iadd xj_228 60 rfl rfl (zc_iaload xj_228 61 rfl rfl (zc_iastore xj_228 62 rfl rfl (zc_iinc xj_228 65 2 1 1 rfl rfl rfl (zc_goto xj_228 66 (-26) 39 rfl rfl rfl (trivial)))))))))))))))))
noncomputable def xb_228_1 : List zF := zq_ald 0 :: zq_getf 9 0 :: zq_k 0 :: zq_dup2 :: zq_ild_ 0 :: zq_k 1 :: zq_sub :: zq_iast :: zq_ald 0 :: zq_getf 9 0 :: zq_k 1 :: zq_ild_ 0 :: zq_ald 0 :: zq_getf 9 0 :: zq_k 0 :: zq_ild_ 0 :: zq_calls 224 2 2 :: zq_ist 1 :: zq_k 0 :: zq_ist 2 :: xb_228_2
theorem xc_228_1 : zCd 228 [0, 11, 39, 68] 11 xb_228_1 := zc_aload_n xj_228 12 0 rfl rfl (zc_getf xj_228 15 8 9 0 94 rfl rfl (zc_iconst xj_228 16 0 0 rfl rfl rfl (zc_dup2 xj_228 17 rfl rfl (zc_iaload xj_228 18 rfl rfl (zc_iconst xj_228 19 1 1 rfl rfl rfl (zc_isub xj_228 20 rfl rfl (zc_iastore xj_228 21 rfl rfl (zc_aload_n xj_228 22 0 rfl rfl (zc_getf xj_228 25 8 9 0 94 rfl rfl (zc_iconst xj_228 26 1 1 rfl rfl rfl (zc_iaload xj_228 27 rfl rfl (zc_aload_n xj_228 28 0 rfl rfl (zc_getf xj_228 31 8 9 0 94 rfl rfl (zc_iconst xj_228 32 0 0 rfl rfl rfl (zc_iaload xj_228 33 rfl rfl (zc_invokestatic2 xj_228 36 156 224 2 286 0 2 rfl rfl rfl rfl (zc_istore_n xj_228 37 1 rfl rfl (zc_iconst xj_228 38 0 0 rfl rfl rfl (zc_istore_n xj_228 39 2 rfl rfl (xc_228_2))))))))))))))))))))
noncomputable def xb_228_0 : List zF := [zq_ald 0, zq_getf 9 0, zq_k 0, zq_ild_ 0, zq_if_ne 11, zq_k 4294967295, zq_iret 0]
theorem xc_228_0 : zCd 228 [0, 11, 39, 68] 0 xb_228_0 := zc_aload_n xj_228 1 0 rfl rfl (zc_getf xj_228 4 8 9 0 94 rfl rfl (zc_iconst xj_228 5 0 0 rfl rfl rfl (zc_iaload xj_228 6 rfl rfl (zc_if_ne xj_228 9 5 11 rfl rfl rfl (zc_iconst xj_228 10 (-1) 4294967295 rfl rfl rfl (zc_ireturn0 xj_228 11 rfl rfl (trivial)))))))
noncomputable def xm_228 : Lean.RArray (List zF) := .branch 39 (.branch 11 (.leaf xb_228_0) (.leaf xb_228_1)) (.branch 68 (.leaf xb_228_2) (.leaf xb_228_3))
theorem xa_228 : zCdAll 228 [0, 11, 39, 68] xm_228 := zAll2_ok (P := fun t => zCd 228 [0, 11, 39, 68] t (xm_228.get t)) ⟨xc_228_0, xc_228_1, xc_228_2, xc_228_3, trivial⟩
/-- SquareMeshModel.tellAt -/
theorem xj_229 : ∀ pc, pI 229 pc = pJ_229 pc := fun _ => rfl
noncomputable def xb_229_6 : List zF := [zq_vret]
theorem xc_229_6 : zCd 229 [0, 10, 20, 58, 85, 91, 97] 97 xb_229_6 := zc_return_ xj_229 98 rfl rfl (trivial)
noncomputable def xb_229_5 : List zF := [zq_inc 4 1, zq_goto 10]
theorem xc_229_5 : zCd 229 [0, 10, 20, 58, 85, 91, 97] 91 xb_229_5 := zc_iinc xj_229 94 4 1 1 rfl rfl rfl (zc_goto xj_229 95 (-84) 10 rfl rfl rfl (trivial))
noncomputable def xb_229_4 : List zF := [zq_inc 5 1, zq_goto 20]
theorem xc_229_4 : zCd 229 [0, 10, 20, 58, 85, 91, 97] 85 xb_229_4 := zc_iinc xj_229 88 5 1 1 rfl rfl rfl (zc_goto xj_229 89 (-68) 20 rfl rfl rfl (trivial))
noncomputable def xb_229_3 : List zF := zq_ald 0 :: zq_ild 4 :: zq_ild 5 :: zq_k 0 :: zq_calli 197 3 9 4 :: zq_ald 0 :: zq_ild 4 :: zq_ild 1 :: zq_ild 6 :: zq_calli 197 3 9 4 :: zq_ald 0 :: zq_ild 5 :: zq_ild 1 :: zq_ild 6 :: zq_calli 197 3 9 4 :: xb_229_4
theorem xc_229_3 : zCd 229 [0, 10, 20, 58, 85, 91, 97] 58 xb_229_3 := zc_aload_n xj_229 59 0 rfl rfl (zc_iload xj_229 61 4 rfl rfl (zc_iload xj_229 63 5 rfl rfl (zc_iconst xj_229 64 0 0 rfl rfl rfl (zc_invokevirtual1 xj_229 67 58 197 3 254 9 4 rfl rfl rfl (zc_aload_n xj_229 68 0 rfl rfl (zc_iload xj_229 70 4 rfl rfl (zc_iload_n xj_229 71 1 rfl rfl (zc_iload xj_229 73 6 rfl rfl (zc_invokevirtual1 xj_229 76 58 197 3 254 9 4 rfl rfl rfl (zc_aload_n xj_229 77 0 rfl rfl (zc_iload xj_229 79 5 rfl rfl (zc_iload_n xj_229 80 1 rfl rfl (zc_iload xj_229 82 6 rfl rfl (zc_invokevirtual1 xj_229 85 58 197 3 254 9 4 rfl rfl rfl (xc_229_4)))))))))))))))
noncomputable def xb_229_2 : List zF := [zq_ild 5, zq_ild 4, zq_ic_ge 91, zq_ald 0, zq_ild 4, zq_ild 5, zq_calli 196 2 9 3, zq_ist 6, zq_ild 6, zq_if_eq 85, zq_ald 0, zq_ild 4, zq_ild 5, zq_ild 2, zq_ild 3, zq_calli 203 4 9 6, zq_if_ne 58, zq_goto 85]
theorem xc_229_2 : zCd 229 [0, 10, 20, 58, 85, 91, 97] 20 xb_229_2 := zc_iload xj_229 22 5 rfl rfl (zc_iload xj_229 24 4 rfl rfl (zc_ic_ge xj_229 27 67 91 rfl rfl rfl (zc_aload_n xj_229 28 0 rfl rfl (zc_iload xj_229 30 4 rfl rfl (zc_iload xj_229 32 5 rfl rfl (zc_invokevirtual1 xj_229 35 102 196 2 258 9 3 rfl rfl rfl (zc_istore xj_229 37 6 rfl rfl (zc_iload xj_229 39 6 rfl rfl (zc_if_eq xj_229 42 46 85 rfl rfl rfl (zc_aload_n xj_229 43 0 rfl rfl (zc_iload xj_229 45 4 rfl rfl (zc_iload xj_229 47 5 rfl rfl (zc_iload_n xj_229 48 2 rfl rfl (zc_iload_n xj_229 49 3 rfl rfl (zc_invokevirtual1 xj_229 52 98 203 4 269 9 6 rfl rfl rfl (zc_if_ne xj_229 55 6 58 rfl rfl rfl (zc_goto xj_229 56 30 85 rfl rfl rfl (trivial))))))))))))))))))
noncomputable def xb_229_1 : List zF := zq_ild 4 :: zq_k 40 :: zq_ic_ge 97 :: zq_k 0 :: zq_ist 5 :: xb_229_2
theorem xc_229_1 : zCd 229 [0, 10, 20, 58, 85, 91, 97] 10 xb_229_1 := zc_iload xj_229 12 4 rfl rfl (zc_bipush xj_229 14 40 40 rfl rfl rfl (zc_ic_ge xj_229 17 83 97 rfl rfl rfl (zc_iconst xj_229 18 0 0 rfl rfl rfl (zc_istore xj_229 20 5 rfl rfl (xc_229_2)))))
noncomputable def xb_229_0 : List zF := zq_ald 0 :: zq_ild 1 :: zq_ild 2 :: zq_ild 3 :: zq_calli 195 3 9 4 :: zq_k 0 :: zq_ist 4 :: xb_229_1
theorem xc_229_0 : zCd 229 [0, 10, 20, 58, 85, 91, 97] 0 xb_229_0 := zc_aload_n xj_229 1 0 rfl rfl (zc_iload_n xj_229 2 1 rfl rfl (zc_iload_n xj_229 3 2 rfl rfl (zc_iload_n xj_229 4 3 rfl rfl (zc_invokevirtual1 xj_229 7 54 195 3 253 9 4 rfl rfl rfl (zc_iconst xj_229 8 0 0 rfl rfl rfl (zc_istore xj_229 10 4 rfl rfl (xc_229_1)))))))
noncomputable def xm_229 : Lean.RArray (List zF) := .branch 58 (.branch 10 (.leaf xb_229_0) (.branch 20 (.leaf xb_229_1) (.leaf xb_229_2))) (.branch 91 (.branch 85 (.leaf xb_229_3) (.leaf xb_229_4)) (.branch 97 (.leaf xb_229_5) (.leaf xb_229_6)))
theorem xa_229 : zCdAll 229 [0, 10, 20, 58, 85, 91, 97] xm_229 := zAll2_ok (P := fun t => zCd 229 [0, 10, 20, 58, 85, 91, 97] t (xm_229.get t)) ⟨xc_229_0, xc_229_1, xc_229_2, xc_229_3, xc_229_4, xc_229_5, xc_229_6, trivial⟩
/-- SquareMeshModel.tellNew -/
theorem xj_230 : ∀ pc, pI 230 pc = pJ_230 pc := fun _ => rfl
noncomputable def xb_230_2 : List zF := [zq_ald 0, zq_ild 3, zq_ild 1, zq_ild 2, zq_calli 229 3 9 7, zq_ald 0, zq_getf 9 0, zq_k 3, zq_k 4, zq_ild 3, zq_mul, zq_add, zq_k 3, zq_add, zq_k 0, zq_iast, zq_ild 3, zq_iret 0]
theorem xc_230_2 : zCd 230 [0, 20, 22] 22 xb_230_2 := zc_aload_n xj_230 23 0 rfl rfl (zc_iload_n xj_230 24 3 rfl rfl (zc_iload_n xj_230 25 1 rfl rfl (zc_iload_n xj_230 26 2 rfl rfl (zc_invokevirtual1 xj_230 29 172 229 3 294 9 7 rfl rfl rfl (zc_aload_n xj_230 30 0 rfl rfl (zc_getf xj_230 33 8 9 0 94 rfl rfl (zc_iconst xj_230 34 3 3 rfl rfl rfl (zc_iconst xj_230 35 4 4 rfl rfl rfl (zc_iload_n xj_230 36 3 rfl rfl (zc_imul xj_230 37 rfl rfl (zc_iadd xj_230 38 rfl rfl (zc_iconst xj_230 39 3 3 rfl rfl rfl (zc_iadd xj_230 40 rfl rfl (zc_iconst xj_230 41 0 0 rfl rfl rfl (zc_iastore xj_230 42 rfl rfl (zc_iload_n xj_230 43 3 rfl rfl (zc_ireturn0 xj_230 44 rfl rfl (trivial))))))))))))))))))
noncomputable def xb_230_1 : List zF := [zq_k 4294967295, zq_iret 0]
theorem xc_230_1 : zCd 230 [0, 20, 22] 20 xb_230_1 := zc_iconst xj_230 21 (-1) 4294967295 rfl rfl rfl (zc_ireturn0 xj_230 22 rfl rfl (trivial))
noncomputable def xb_230_0 : List zF := zq_ald 0 :: zq_calli 199 0 9 2 :: zq_ist 3 :: zq_ild 3 :: zq_k 4294967295 :: zq_ic_eq 20 :: zq_ald 0 :: zq_ild 1 :: zq_ild 2 :: zq_calli 198 2 9 4 :: zq_k 4294967295 :: zq_ic_eq 22 :: xb_230_1
theorem xc_230_0 : zCd 230 [0, 20, 22] 0 xb_230_0 := zc_aload_n xj_230 1 0 rfl rfl (zc_invokevirtual1 xj_230 4 165 199 0 292 9 2 rfl rfl rfl (zc_istore_n xj_230 5 3 rfl rfl (zc_iload_n xj_230 6 3 rfl rfl (zc_iconst xj_230 7 (-1) 4294967295 rfl rfl rfl (zc_ic_eq xj_230 10 13 20 rfl rfl rfl (zc_aload_n xj_230 11 0 rfl rfl (zc_iload_n xj_230 12 1 rfl rfl (zc_iload_n xj_230 13 2 rfl rfl (zc_invokevirtual1 xj_230 16 169 198 2 291 9 4 rfl rfl rfl (zc_iconst xj_230 17 (-1) 4294967295 rfl rfl rfl (zc_ic_eq xj_230 20 5 22 rfl rfl rfl (xc_230_1))))))))))))
noncomputable def xm_230 : Lean.RArray (List zF) := .branch 20 (.leaf xb_230_0) (.branch 22 (.leaf xb_230_1) (.leaf xb_230_2))
theorem xa_230 : zCdAll 230 [0, 20, 22] xm_230 := zAll2_ok (P := fun t => zCd 230 [0, 20, 22] t (xm_230.get t)) ⟨xc_230_0, xc_230_1, xc_230_2, trivial⟩
/-- SquareMeshModel.canTell -/
theorem xj_231 : ∀ pc, pI 231 pc = pJ_231 pc := fun _ => rfl
noncomputable def xb_231_2 : List zF := [zq_iret 1]
theorem xc_231_2 : zCd 231 [0, 30, 31] 31 xb_231_2 := zc_ireturn1 xj_231 32 rfl rfl (trivial)
noncomputable def xb_231_1 : List zF := zq_k 0 :: xb_231_2
theorem xc_231_1 : zCd 231 [0, 30, 31] 30 xb_231_1 := zc_iconst xj_231 31 0 0 rfl rfl rfl (xc_231_2)
noncomputable def xb_231_0 : List zF := [zq_ild 1, zq_ild 2, zq_calls 189 2 2, zq_if_eq 30, zq_ald 0, zq_ild 1, zq_ild 2, zq_calli 198 2 9 4, zq_k 4294967295, zq_ic_ne 30, zq_ald 0, zq_calli 199 0 9 2, zq_k 4294967295, zq_ic_eq 30, zq_k 1, zq_goto 31]
theorem xc_231_0 : zCd 231 [0, 30, 31] 0 xb_231_0 := zc_iload_n xj_231 1 1 rfl rfl (zc_iload_n xj_231 2 2 rfl rfl (zc_invokestatic2 xj_231 5 159 189 2 284 0 2 rfl rfl rfl rfl (zc_if_eq xj_231 8 25 30 rfl rfl rfl (zc_aload_n xj_231 9 0 rfl rfl (zc_iload_n xj_231 10 1 rfl rfl (zc_iload_n xj_231 11 2 rfl rfl (zc_invokevirtual1 xj_231 14 169 198 2 291 9 4 rfl rfl rfl (zc_iconst xj_231 15 (-1) 4294967295 rfl rfl rfl (zc_ic_ne xj_231 18 15 30 rfl rfl rfl (zc_aload_n xj_231 19 0 rfl rfl (zc_invokevirtual1 xj_231 22 165 199 0 292 9 2 rfl rfl rfl (zc_iconst xj_231 23 (-1) 4294967295 rfl rfl rfl (zc_ic_eq xj_231 26 7 30 rfl rfl rfl (zc_iconst xj_231 27 1 1 rfl rfl rfl (zc_goto xj_231 28 4 31 rfl rfl rfl (trivial))))))))))))))))
noncomputable def xm_231 : Lean.RArray (List zF) := .branch 30 (.leaf xb_231_0) (.branch 31 (.leaf xb_231_1) (.leaf xb_231_2))
theorem xa_231 : zCdAll 231 [0, 30, 31] xm_231 := zAll2_ok (P := fun t => zCd 231 [0, 30, 31] t (xm_231.get t)) ⟨xc_231_0, xc_231_1, xc_231_2, trivial⟩
/-- SquareMeshModel.point -/
theorem xj_232 : ∀ pc, pI 232 pc = pJ_232 pc := fun _ => rfl
noncomputable def xb_232_1 : List zF := [zq_ald 0, zq_calli 225 0 9 3, zq_ald 0, zq_ild 1, zq_ild 2, zq_calli 230 2 9 4, zq_ist 3, zq_ald 0, zq_calli 219 0 9 5, zq_ild 3, zq_iret 0]
theorem xc_232_1 : zCd 232 [0, 11] 11 xb_232_1 := zc_aload_n xj_232 12 0 rfl rfl (zc_invokevirtual1 xj_232 15 162 225 0 285 9 3 rfl rfl rfl (zc_aload_n xj_232 16 0 rfl rfl (zc_iload_n xj_232 17 1 rfl rfl (zc_iload_n xj_232 18 2 rfl rfl (zc_invokevirtual1 xj_232 21 178 230 2 293 9 4 rfl rfl rfl (zc_istore_n xj_232 22 3 rfl rfl (zc_aload_n xj_232 23 0 rfl rfl (zc_invokevirtual1 xj_232 26 61 219 0 255 9 5 rfl rfl rfl (zc_iload_n xj_232 27 3 rfl rfl (zc_ireturn0 xj_232 28 rfl rfl (trivial)))))))))))
noncomputable def xb_232_0 : List zF := [zq_ald 0, zq_ild 1, zq_ild 2, zq_calli 231 2 9 3, zq_if_ne 11, zq_k 4294967295, zq_iret 0]
theorem xc_232_0 : zCd 232 [0, 11] 0 xb_232_0 := zc_aload_n xj_232 1 0 rfl rfl (zc_iload_n xj_232 2 1 rfl rfl (zc_iload_n xj_232 3 2 rfl rfl (zc_invokevirtual1 xj_232 6 175 231 2 290 9 3 rfl rfl rfl (zc_if_ne xj_232 9 5 11 rfl rfl rfl (zc_iconst xj_232 10 (-1) 4294967295 rfl rfl rfl (zc_ireturn0 xj_232 11 rfl rfl (trivial)))))))
noncomputable def xm_232 : Lean.RArray (List zF) := .branch 11 (.leaf xb_232_0) (.leaf xb_232_1)
theorem xa_232 : zCdAll 232 [0, 11] xm_232 := zAll2_ok (P := fun t => zCd 232 [0, 11] t (xm_232.get t)) ⟨xc_232_0, xc_232_1, trivial⟩
/-- SquareMeshModel.fixedOf -/
theorem xj_233 : ∀ pc, pI 233 pc = pJ_233 pc := fun _ => rfl
noncomputable def xb_233_4 : List zF := [zq_ild 2, zq_iret 0]
theorem xc_233_4 : zCd 233 [0, 4, 24, 25, 33] 33 xb_233_4 := zc_iload_n xj_233 34 2 rfl rfl (zc_ireturn0 xj_233 35 rfl rfl (trivial))
noncomputable def xb_233_3 : List zF := [zq_add, zq_ist 2, zq_inc 3 1, zq_goto 4]
theorem xc_233_3 : zCd 233 [0, 4, 24, 25, 33] 25 xb_233_3 := zc_iadd xj_233 26 rfl rfl (zc_istore_n xj_233 27 2 rfl rfl (zc_iinc xj_233 30 3 1 1 rfl rfl rfl (zc_goto xj_233 31 (-26) 4 rfl rfl rfl (trivial))))
noncomputable def xb_233_2 : List zF := zq_k 0 :: xb_233_3
theorem xc_233_2 : zCd 233 [0, 4, 24, 25, 33] 24 xb_233_2 := zc_iconst xj_233 25 0 0 rfl rfl rfl (xc_233_3)
noncomputable def xb_233_1 : List zF := [zq_ild 3, zq_k 40, zq_ic_ge 33, zq_ild 2, zq_ald 0, zq_ild 1, zq_ild 3, zq_calli 196 2 9 3, zq_if_eq 24, zq_k 1, zq_goto 25]
theorem xc_233_1 : zCd 233 [0, 4, 24, 25, 33] 4 xb_233_1 := zc_iload_n xj_233 5 3 rfl rfl (zc_bipush xj_233 7 40 40 rfl rfl rfl (zc_ic_ge xj_233 10 26 33 rfl rfl rfl (zc_iload_n xj_233 11 2 rfl rfl (zc_aload_n xj_233 12 0 rfl rfl (zc_iload_n xj_233 13 1 rfl rfl (zc_iload_n xj_233 14 3 rfl rfl (zc_invokevirtual1 xj_233 17 102 196 2 258 9 3 rfl rfl rfl (zc_if_eq xj_233 20 7 24 rfl rfl rfl (zc_iconst xj_233 21 1 1 rfl rfl rfl (zc_goto xj_233 22 4 25 rfl rfl rfl (trivial)))))))))))
noncomputable def xb_233_0 : List zF := zq_k 0 :: zq_ist 2 :: zq_k 0 :: zq_ist 3 :: xb_233_1
theorem xc_233_0 : zCd 233 [0, 4, 24, 25, 33] 0 xb_233_0 := zc_iconst xj_233 1 0 0 rfl rfl rfl (zc_istore_n xj_233 2 2 rfl rfl (zc_iconst xj_233 3 0 0 rfl rfl rfl (zc_istore_n xj_233 4 3 rfl rfl (xc_233_1))))
noncomputable def xm_233 : Lean.RArray (List zF) := .branch 24 (.branch 4 (.leaf xb_233_0) (.leaf xb_233_1)) (.branch 25 (.leaf xb_233_2) (.branch 33 (.leaf xb_233_3) (.leaf xb_233_4)))
theorem xa_233 : zCdAll 233 [0, 4, 24, 25, 33] xm_233 := zAll2_ok (P := fun t => zCd 233 [0, 4, 24, 25, 33] t (xm_233.get t)) ⟨xc_233_0, xc_233_1, xc_233_2, xc_233_3, xc_233_4, trivial⟩
/-- SquareMeshModel.canGo -/
theorem xj_234 : ∀ pc, pI 234 pc = pJ_234 pc := fun _ => rfl
noncomputable def xb_234_2 : List zF := [zq_iret 1]
theorem xc_234_2 : zCd 234 [0, 20, 21] 21 xb_234_2 := zc_ireturn1 xj_234 22 rfl rfl (trivial)
noncomputable def xb_234_1 : List zF := zq_k 0 :: xb_234_2
theorem xc_234_1 : zCd 234 [0, 20, 21] 20 xb_234_1 := zc_iconst xj_234 21 0 0 rfl rfl rfl (xc_234_2)
noncomputable def xb_234_0 : List zF := [zq_ald 0, zq_ild 1, zq_calli 191 1 9 2, zq_if_eq 20, zq_ald 0, zq_ild 1, zq_calli 233 1 9 4, zq_if_ne 20, zq_k 1, zq_goto 21]
theorem xc_234_0 : zCd 234 [0, 20, 21] 0 xb_234_0 := zc_aload_n xj_234 1 0 rfl rfl (zc_iload_n xj_234 2 1 rfl rfl (zc_invokevirtual1 xj_234 5 71 191 1 264 9 2 rfl rfl rfl (zc_if_eq xj_234 8 15 20 rfl rfl rfl (zc_aload_n xj_234 9 0 rfl rfl (zc_iload_n xj_234 10 1 rfl rfl (zc_invokevirtual1 xj_234 13 181 233 1 297 9 4 rfl rfl rfl (zc_if_ne xj_234 16 7 20 rfl rfl rfl (zc_iconst xj_234 17 1 1 rfl rfl rfl (zc_goto xj_234 18 4 21 rfl rfl rfl (trivial))))))))))
noncomputable def xm_234 : Lean.RArray (List zF) := .branch 20 (.leaf xb_234_0) (.branch 21 (.leaf xb_234_1) (.leaf xb_234_2))
theorem xa_234 : zCdAll 234 [0, 20, 21] xm_234 := zAll2_ok (P := fun t => zCd 234 [0, 20, 21] t (xm_234.get t)) ⟨xc_234_0, xc_234_1, xc_234_2, trivial⟩
/-- SquareMeshModel.takeOut -/
theorem xj_235 : ∀ pc, pI 235 pc = pJ_235 pc := fun _ => rfl
noncomputable def xb_235_2 : List zF := [zq_vret]
theorem xc_235_2 : zCd 235 [0, 2, 26] 26 xb_235_2 := zc_return_ xj_235 27 rfl rfl (trivial)
noncomputable def xb_235_1 : List zF := [zq_ild 2, zq_k 4, zq_ic_ge 26, zq_ald 0, zq_getf 9 0, zq_k 3, zq_k 4, zq_ild 1, zq_mul, zq_add, zq_ild 2, zq_add, zq_k 0, zq_iast, zq_inc 2 1, zq_goto 2]
theorem xc_235_1 : zCd 235 [0, 2, 26] 2 xb_235_1 := zc_iload_n xj_235 3 2 rfl rfl (zc_iconst xj_235 4 4 4 rfl rfl rfl (zc_ic_ge xj_235 7 22 26 rfl rfl rfl (zc_aload_n xj_235 8 0 rfl rfl (zc_getf xj_235 11 8 9 0 94 rfl rfl (zc_iconst xj_235 12 3 3 rfl rfl rfl (zc_iconst xj_235 13 4 4 rfl rfl rfl (zc_iload_n xj_235 14 1 rfl rfl (zc_imul xj_235 15 rfl rfl (zc_iadd xj_235 16 rfl rfl (zc_iload_n xj_235 17 2 rfl rfl (zc_iadd xj_235 18 rfl rfl (zc_iconst xj_235 19 0 0 rfl rfl rfl (zc_iastore xj_235 20 rfl rfl (zc_iinc xj_235 23 2 1 1 rfl rfl rfl (zc_goto xj_235 24 (-21) 2 rfl rfl rfl (trivial))))))))))))))))
noncomputable def xb_235_0 : List zF := zq_k 0 :: zq_ist 2 :: xb_235_1
theorem xc_235_0 : zCd 235 [0, 2, 26] 0 xb_235_0 := zc_iconst xj_235 1 0 0 rfl rfl rfl (zc_istore_n xj_235 2 2 rfl rfl (xc_235_1))
noncomputable def xm_235 : Lean.RArray (List zF) := .branch 2 (.leaf xb_235_0) (.branch 26 (.leaf xb_235_1) (.leaf xb_235_2))
theorem xa_235 : zCdAll 235 [0, 2, 26] xm_235 := zAll2_ok (P := fun t => zCd 235 [0, 2, 26] t (xm_235.get t)) ⟨xc_235_0, xc_235_1, xc_235_2, trivial⟩
/-- SquareMeshModel.drop -/
theorem xj_236 : ∀ pc, pI 236 pc = pJ_236 pc := fun _ => rfl
noncomputable def xb_236_1 : List zF := [zq_ald 0, zq_calli 225 0 9 3, zq_ald 0, zq_ild 1, zq_calli 235 1 9 3, zq_ald 0, zq_calli 219 0 9 5, zq_k 1, zq_iret 1]
theorem xc_236_1 : zCd 236 [0, 10] 10 xb_236_1 := zc_aload_n xj_236 11 0 rfl rfl (zc_invokevirtual1 xj_236 14 162 225 0 285 9 3 rfl rfl rfl (zc_aload_n xj_236 15 0 rfl rfl (zc_iload_n xj_236 16 1 rfl rfl (zc_invokevirtual1 xj_236 19 187 235 1 298 9 3 rfl rfl rfl (zc_aload_n xj_236 20 0 rfl rfl (zc_invokevirtual1 xj_236 23 61 219 0 255 9 5 rfl rfl rfl (zc_iconst xj_236 24 1 1 rfl rfl rfl (zc_ireturn1 xj_236 25 rfl rfl (trivial)))))))))
noncomputable def xb_236_0 : List zF := [zq_ald 0, zq_ild 1, zq_calli 234 1 9 2, zq_if_ne 10, zq_k 0, zq_iret 1]
theorem xc_236_0 : zCd 236 [0, 10] 0 xb_236_0 := zc_aload_n xj_236 1 0 rfl rfl (zc_iload_n xj_236 2 1 rfl rfl (zc_invokevirtual1 xj_236 5 184 234 1 296 9 2 rfl rfl rfl (zc_if_ne xj_236 8 5 10 rfl rfl rfl (zc_iconst xj_236 9 0 0 rfl rfl rfl (zc_ireturn1 xj_236 10 rfl rfl (trivial))))))
noncomputable def xm_236 : Lean.RArray (List zF) := .branch 10 (.leaf xb_236_0) (.leaf xb_236_1)
theorem xa_236 : zCdAll 236 [0, 10] xm_236 := zAll2_ok (P := fun t => zCd 236 [0, 10] t (xm_236.get t)) ⟨xc_236_0, xc_236_1, trivial⟩
/-- SquareMeshModel.moveNow -/
theorem xj_237 : ∀ pc, pI 237 pc = pJ_237 pc := fun _ => rfl
noncomputable def xb_237_0 : List zF := [zq_ald 0, zq_getf 9 0, zq_k 3, zq_k 4, zq_ild 1, zq_mul, zq_add, zq_k 0, zq_iast, zq_ald 0, zq_ild 1, zq_ild 2, zq_ild 3, zq_calli 229 3 9 7, zq_ald 0, zq_calli 219 0 9 5, zq_vret]
theorem xc_237_0 : zCd 237 [0] 0 xb_237_0 := zc_aload_n xj_237 1 0 rfl rfl (zc_getf xj_237 4 8 9 0 94 rfl rfl (zc_iconst xj_237 5 3 3 rfl rfl rfl (zc_iconst xj_237 6 4 4 rfl rfl rfl (zc_iload_n xj_237 7 1 rfl rfl (zc_imul xj_237 8 rfl rfl (zc_iadd xj_237 9 rfl rfl (zc_iconst xj_237 10 0 0 rfl rfl rfl (zc_iastore xj_237 11 rfl rfl (zc_aload_n xj_237 12 0 rfl rfl (zc_iload_n xj_237 13 1 rfl rfl (zc_iload_n xj_237 14 2 rfl rfl (zc_iload_n xj_237 15 3 rfl rfl (zc_invokevirtual1 xj_237 18 172 229 3 294 9 7 rfl rfl rfl (zc_aload_n xj_237 19 0 rfl rfl (zc_invokevirtual1 xj_237 22 61 219 0 255 9 5 rfl rfl rfl (zc_return_ xj_237 23 rfl rfl (trivial)))))))))))))))))
noncomputable def xm_237 : Lean.RArray (List zF) := .leaf xb_237_0
theorem xa_237 : zCdAll 237 [0] xm_237 := zAll2_ok (P := fun t => zCd 237 [0] t (xm_237.get t)) ⟨xc_237_0, trivial⟩
/-- SquareMeshModel.move -/
theorem xj_238 : ∀ pc, pI 238 pc = pJ_238 pc := fun _ => rfl
noncomputable def xb_238_2 : List zF := [zq_ald 0, zq_calli 225 0 9 3, zq_ald 0, zq_ild 1, zq_ild 2, zq_ild 3, zq_calli 237 3 9 4, zq_k 1, zq_iret 1]
theorem xc_238_2 : zCd 238 [0, 26, 28] 28 xb_238_2 := zc_aload_n xj_238 29 0 rfl rfl (zc_invokevirtual1 xj_238 32 162 225 0 285 9 3 rfl rfl rfl (zc_aload_n xj_238 33 0 rfl rfl (zc_iload_n xj_238 34 1 rfl rfl (zc_iload_n xj_238 35 2 rfl rfl (zc_iload_n xj_238 36 3 rfl rfl (zc_invokevirtual1 xj_238 39 191 237 3 300 9 4 rfl rfl rfl (zc_iconst xj_238 40 1 1 rfl rfl rfl (zc_ireturn1 xj_238 41 rfl rfl (trivial)))))))))
noncomputable def xb_238_1 : List zF := [zq_k 0, zq_iret 1]
theorem xc_238_1 : zCd 238 [0, 26, 28] 26 xb_238_1 := zc_iconst xj_238 27 0 0 rfl rfl rfl (zc_ireturn1 xj_238 28 rfl rfl (trivial))
noncomputable def xb_238_0 : List zF := zq_ald 0 :: zq_ild 1 :: zq_calli 234 1 9 2 :: zq_if_eq 26 :: zq_ild 2 :: zq_ild 3 :: zq_calls 189 2 2 :: zq_if_eq 26 :: zq_ald 0 :: zq_ild 2 :: zq_ild 3 :: zq_calli 198 2 9 4 :: zq_k 4294967295 :: zq_ic_eq 28 :: xb_238_1
theorem xc_238_0 : zCd 238 [0, 26, 28] 0 xb_238_0 := zc_aload_n xj_238 1 0 rfl rfl (zc_iload_n xj_238 2 1 rfl rfl (zc_invokevirtual1 xj_238 5 184 234 1 296 9 2 rfl rfl rfl (zc_if_eq xj_238 8 21 26 rfl rfl rfl (zc_iload_n xj_238 9 2 rfl rfl (zc_iload_n xj_238 10 3 rfl rfl (zc_invokestatic2 xj_238 13 159 189 2 284 0 2 rfl rfl rfl rfl (zc_if_eq xj_238 16 13 26 rfl rfl rfl (zc_aload_n xj_238 17 0 rfl rfl (zc_iload_n xj_238 18 2 rfl rfl (zc_iload_n xj_238 19 3 rfl rfl (zc_invokevirtual1 xj_238 22 169 198 2 291 9 4 rfl rfl rfl (zc_iconst xj_238 23 (-1) 4294967295 rfl rfl rfl (zc_ic_eq xj_238 26 5 28 rfl rfl rfl (xc_238_1))))))))))))))
noncomputable def xm_238 : Lean.RArray (List zF) := .branch 26 (.leaf xb_238_0) (.branch 28 (.leaf xb_238_1) (.leaf xb_238_2))
theorem xa_238 : zCdAll 238 [0, 26, 28] xm_238 := zAll2_ok (P := fun t => zCd 238 [0, 26, 28] t (xm_238.get t)) ⟨xc_238_0, xc_238_1, xc_238_2, trivial⟩
/-- SquareMeshModel.areTwo -/
theorem xj_239 : ∀ pc, pI 239 pc = pJ_239 pc := fun _ => rfl
noncomputable def xb_239_2 : List zF := [zq_iret 1]
theorem xc_239_2 : zCd 239 [0, 25, 26] 26 xb_239_2 := zc_ireturn1 xj_239 27 rfl rfl (trivial)
noncomputable def xb_239_1 : List zF := zq_k 0 :: xb_239_2
theorem xc_239_1 : zCd 239 [0, 25, 26] 25 xb_239_1 := zc_iconst xj_239 26 0 0 rfl rfl rfl (xc_239_2)
noncomputable def xb_239_0 : List zF := [zq_ald 0, zq_ild 1, zq_calli 191 1 9 2, zq_if_eq 25, zq_ald 0, zq_ild 2, zq_calli 191 1 9 2, zq_if_eq 25, zq_ild 1, zq_ild 2, zq_ic_eq 25, zq_k 1, zq_goto 26]
theorem xc_239_0 : zCd 239 [0, 25, 26] 0 xb_239_0 := zc_aload_n xj_239 1 0 rfl rfl (zc_iload_n xj_239 2 1 rfl rfl (zc_invokevirtual1 xj_239 5 71 191 1 264 9 2 rfl rfl rfl (zc_if_eq xj_239 8 20 25 rfl rfl rfl (zc_aload_n xj_239 9 0 rfl rfl (zc_iload_n xj_239 10 2 rfl rfl (zc_invokevirtual1 xj_239 13 71 191 1 264 9 2 rfl rfl rfl (zc_if_eq xj_239 16 12 25 rfl rfl rfl (zc_iload_n xj_239 17 1 rfl rfl (zc_iload_n xj_239 18 2 rfl rfl (zc_ic_eq xj_239 21 7 25 rfl rfl rfl (zc_iconst xj_239 22 1 1 rfl rfl rfl (zc_goto xj_239 23 4 26 rfl rfl rfl (trivial)))))))))))))
noncomputable def xm_239 : Lean.RArray (List zF) := .branch 25 (.leaf xb_239_0) (.branch 26 (.leaf xb_239_1) (.leaf xb_239_2))
theorem xa_239 : zCdAll 239 [0, 25, 26] xm_239 := zAll2_ok (P := fun t => zCd 239 [0, 25, 26] t (xm_239.get t)) ⟨xc_239_0, xc_239_1, xc_239_2, trivial⟩
/-- SquareMeshModel.canFix -/
theorem xj_240 : ∀ pc, pI 240 pc = pJ_240 pc := fun _ => rfl
noncomputable def xb_240_2 : List zF := [zq_iret 1]
theorem xc_240_2 : zCd 240 [0, 31, 32] 32 xb_240_2 := zc_ireturn1 xj_240 33 rfl rfl (trivial)
noncomputable def xb_240_1 : List zF := zq_k 0 :: xb_240_2
theorem xc_240_1 : zCd 240 [0, 31, 32] 31 xb_240_1 := zc_iconst xj_240 32 0 0 rfl rfl rfl (xc_240_2)
noncomputable def xb_240_0 : List zF := [zq_ald 0, zq_ild 1, zq_ild 2, zq_calli 239 2 9 3, zq_if_eq 31, zq_ald 0, zq_ild 1, zq_ild 2, zq_calli 196 2 9 3, zq_if_ne 31, zq_ald 0, zq_ild 1, zq_ild 2, zq_calli 209 2 9 3, zq_if_eq 31, zq_k 1, zq_goto 32]
theorem xc_240_0 : zCd 240 [0, 31, 32] 0 xb_240_0 := zc_aload_n xj_240 1 0 rfl rfl (zc_iload_n xj_240 2 1 rfl rfl (zc_iload_n xj_240 3 2 rfl rfl (zc_invokevirtual1 xj_240 6 194 239 2 303 9 3 rfl rfl rfl (zc_if_eq xj_240 9 25 31 rfl rfl rfl (zc_aload_n xj_240 10 0 rfl rfl (zc_iload_n xj_240 11 1 rfl rfl (zc_iload_n xj_240 12 2 rfl rfl (zc_invokevirtual1 xj_240 15 102 196 2 258 9 3 rfl rfl rfl (zc_if_ne xj_240 18 16 31 rfl rfl rfl (zc_aload_n xj_240 19 0 rfl rfl (zc_iload_n xj_240 20 1 rfl rfl (zc_iload_n xj_240 21 2 rfl rfl (zc_invokevirtual1 xj_240 24 128 209 2 267 9 3 rfl rfl rfl (zc_if_eq xj_240 27 7 31 rfl rfl rfl (zc_iconst xj_240 28 1 1 rfl rfl rfl (zc_goto xj_240 29 4 32 rfl rfl rfl (trivial)))))))))))))))))
noncomputable def xm_240 : Lean.RArray (List zF) := .branch 31 (.leaf xb_240_0) (.branch 32 (.leaf xb_240_1) (.leaf xb_240_2))
theorem xa_240 : zCdAll 240 [0, 31, 32] xm_240 := zAll2_ok (P := fun t => zCd 240 [0, 31, 32] t (xm_240.get t)) ⟨xc_240_0, xc_240_1, xc_240_2, trivial⟩
/-- SquareMeshModel.fix -/
theorem xj_241 : ∀ pc, pI 241 pc = pJ_241 pc := fun _ => rfl
noncomputable def xb_241_1 : List zF := [zq_ald 0, zq_calli 225 0 9 3, zq_ald 0, zq_ild 1, zq_ild 2, zq_k 1, zq_calli 197 3 9 4, zq_ald 0, zq_calli 219 0 9 5, zq_k 1, zq_iret 1]
theorem xc_241_1 : zCd 241 [0, 11] 11 xb_241_1 := zc_aload_n xj_241 12 0 rfl rfl (zc_invokevirtual1 xj_241 15 162 225 0 285 9 3 rfl rfl rfl (zc_aload_n xj_241 16 0 rfl rfl (zc_iload_n xj_241 17 1 rfl rfl (zc_iload_n xj_241 18 2 rfl rfl (zc_iconst xj_241 19 1 1 rfl rfl rfl (zc_invokevirtual1 xj_241 22 58 197 3 254 9 4 rfl rfl rfl (zc_aload_n xj_241 23 0 rfl rfl (zc_invokevirtual1 xj_241 26 61 219 0 255 9 5 rfl rfl rfl (zc_iconst xj_241 27 1 1 rfl rfl rfl (zc_ireturn1 xj_241 28 rfl rfl (trivial)))))))))))
noncomputable def xb_241_0 : List zF := [zq_ald 0, zq_ild 1, zq_ild 2, zq_calli 240 2 9 3, zq_if_ne 11, zq_k 0, zq_iret 1]
theorem xc_241_0 : zCd 241 [0, 11] 0 xb_241_0 := zc_aload_n xj_241 1 0 rfl rfl (zc_iload_n xj_241 2 1 rfl rfl (zc_iload_n xj_241 3 2 rfl rfl (zc_invokevirtual1 xj_241 6 197 240 2 302 9 3 rfl rfl rfl (zc_if_ne xj_241 9 5 11 rfl rfl rfl (zc_iconst xj_241 10 0 0 rfl rfl rfl (zc_ireturn1 xj_241 11 rfl rfl (trivial)))))))
noncomputable def xm_241 : Lean.RArray (List zF) := .branch 11 (.leaf xb_241_0) (.leaf xb_241_1)
theorem xa_241 : zCdAll 241 [0, 11] xm_241 := zAll2_ok (P := fun t => zCd 241 [0, 11] t (xm_241.get t)) ⟨xc_241_0, xc_241_1, trivial⟩
/-- SquareMeshModel.canFree -/
theorem xj_242 : ∀ pc, pI 242 pc = pJ_242 pc := fun _ => rfl
noncomputable def xb_242_2 : List zF := [zq_iret 1]
theorem xc_242_2 : zCd 242 [0, 23, 24] 24 xb_242_2 := zc_ireturn1 xj_242 25 rfl rfl (trivial)
noncomputable def xb_242_1 : List zF := zq_k 0 :: xb_242_2
theorem xc_242_1 : zCd 242 [0, 23, 24] 23 xb_242_1 := zc_iconst xj_242 24 0 0 rfl rfl rfl (xc_242_2)
noncomputable def xb_242_0 : List zF := [zq_ald 0, zq_ild 1, zq_ild 2, zq_calli 239 2 9 3, zq_if_eq 23, zq_ald 0, zq_ild 1, zq_ild 2, zq_calli 196 2 9 3, zq_k 1, zq_ic_ne 23, zq_k 1, zq_goto 24]
theorem xc_242_0 : zCd 242 [0, 23, 24] 0 xb_242_0 := zc_aload_n xj_242 1 0 rfl rfl (zc_iload_n xj_242 2 1 rfl rfl (zc_iload_n xj_242 3 2 rfl rfl (zc_invokevirtual1 xj_242 6 194 239 2 303 9 3 rfl rfl rfl (zc_if_eq xj_242 9 17 23 rfl rfl rfl (zc_aload_n xj_242 10 0 rfl rfl (zc_iload_n xj_242 11 1 rfl rfl (zc_iload_n xj_242 12 2 rfl rfl (zc_invokevirtual1 xj_242 15 102 196 2 258 9 3 rfl rfl rfl (zc_iconst xj_242 16 1 1 rfl rfl rfl (zc_ic_ne xj_242 19 7 23 rfl rfl rfl (zc_iconst xj_242 20 1 1 rfl rfl rfl (zc_goto xj_242 21 4 24 rfl rfl rfl (trivial)))))))))))))
noncomputable def xm_242 : Lean.RArray (List zF) := .branch 23 (.leaf xb_242_0) (.branch 24 (.leaf xb_242_1) (.leaf xb_242_2))
theorem xa_242 : zCdAll 242 [0, 23, 24] xm_242 := zAll2_ok (P := fun t => zCd 242 [0, 23, 24] t (xm_242.get t)) ⟨xc_242_0, xc_242_1, xc_242_2, trivial⟩
/-- SquareMeshModel.free -/
theorem xj_243 : ∀ pc, pI 243 pc = pJ_243 pc := fun _ => rfl
noncomputable def xb_243_1 : List zF := [zq_ald 0, zq_calli 225 0 9 3, zq_ald 0, zq_ild 1, zq_ild 2, zq_k 0, zq_calli 197 3 9 4, zq_ald 0, zq_calli 219 0 9 5, zq_k 1, zq_iret 1]
theorem xc_243_1 : zCd 243 [0, 11] 11 xb_243_1 := zc_aload_n xj_243 12 0 rfl rfl (zc_invokevirtual1 xj_243 15 162 225 0 285 9 3 rfl rfl rfl (zc_aload_n xj_243 16 0 rfl rfl (zc_iload_n xj_243 17 1 rfl rfl (zc_iload_n xj_243 18 2 rfl rfl (zc_iconst xj_243 19 0 0 rfl rfl rfl (zc_invokevirtual1 xj_243 22 58 197 3 254 9 4 rfl rfl rfl (zc_aload_n xj_243 23 0 rfl rfl (zc_invokevirtual1 xj_243 26 61 219 0 255 9 5 rfl rfl rfl (zc_iconst xj_243 27 1 1 rfl rfl rfl (zc_ireturn1 xj_243 28 rfl rfl (trivial)))))))))))
noncomputable def xb_243_0 : List zF := [zq_ald 0, zq_ild 1, zq_ild 2, zq_calli 242 2 9 3, zq_if_ne 11, zq_k 0, zq_iret 1]
theorem xc_243_0 : zCd 243 [0, 11] 0 xb_243_0 := zc_aload_n xj_243 1 0 rfl rfl (zc_iload_n xj_243 2 1 rfl rfl (zc_iload_n xj_243 3 2 rfl rfl (zc_invokevirtual1 xj_243 6 200 242 2 305 9 3 rfl rfl rfl (zc_if_ne xj_243 9 5 11 rfl rfl rfl (zc_iconst xj_243 10 0 0 rfl rfl rfl (zc_ireturn1 xj_243 11 rfl rfl (trivial)))))))
noncomputable def xm_243 : Lean.RArray (List zF) := .branch 11 (.leaf xb_243_0) (.leaf xb_243_1)
theorem xa_243 : zCdAll 243 [0, 11] xm_243 := zAll2_ok (P := fun t => zCd 243 [0, 11] t (xm_243.get t)) ⟨xc_243_0, xc_243_1, trivial⟩
/-- SquareMeshModel.draw -/
theorem xj_244 : ∀ pc, pI 244 pc = pJ_244 pc := fun _ => rfl
noncomputable def xb_244_0 : List zF := [zq_ald 0, zq_getf 9 0, zq_k 2, zq_ald 0, zq_getf 9 0, zq_k 2, zq_ild_ 0, zq_k 827, zq_mul, zq_k 641, zq_add, zq_k 30047, zq_rem, zq_iast, zq_ald 0, zq_getf 9 0, zq_k 2, zq_ild_ 0, zq_k 2, zq_ild 1, zq_mul, zq_k 1, zq_add, zq_rem, zq_ild 1, zq_sub, zq_iret 0]
theorem xc_244_0 : zCd 244 [0] 0 xb_244_0 := zc_aload_n xj_244 1 0 rfl rfl (zc_getf xj_244 4 8 9 0 94 rfl rfl (zc_iconst xj_244 5 2 2 rfl rfl rfl (zc_aload_n xj_244 6 0 rfl rfl (zc_getf xj_244 9 8 9 0 94 rfl rfl (zc_iconst xj_244 10 2 2 rfl rfl rfl (zc_iaload xj_244 11 rfl rfl (zc_sipush xj_244 14 827 827 rfl rfl rfl (zc_imul xj_244 15 rfl rfl (zc_sipush xj_244 18 641 641 rfl rfl rfl (zc_iadd xj_244 19 rfl rfl (zc_sipush xj_244 22 30047 30047 rfl rfl rfl (zc_irem xj_244 23 rfl rfl (zc_iastore xj_244 24 rfl rfl (zc_aload_n xj_244 25 0 rfl rfl (zc_getf xj_244 28 8 9 0 94 rfl rfl (zc_iconst xj_244 29 2 2 rfl rfl rfl (zc_iaload xj_244 30 rfl rfl (zc_iconst xj_244 31 2 2 rfl rfl rfl (zc_iload_n xj_244 32 1 rfl rfl (zc_imul xj_244 33 rfl rfl (zc_iconst xj_244 34 1 1 rfl rfl rfl (zc_iadd xj_244 35 rfl rfl (zc_irem xj_244 36 rfl rfl (zc_iload_n xj_244 37 1 rfl rfl (zc_isub xj_244 38 rfl rfl (zc_ireturn0 xj_244 39 rfl rfl (trivial)))))))))))))))))))))))))))
noncomputable def xm_244 : Lean.RArray (List zF) := .leaf xb_244_0
theorem xa_244 : zCdAll 244 [0] xm_244 := zAll2_ok (P := fun t => zCd 244 [0] t (xm_244.get t)) ⟨xc_244_0, trivial⟩
/-- SquareMeshModel.drawn -/
theorem xj_245 : ∀ pc, pI 245 pc = pJ_245 pc := fun _ => rfl
noncomputable def xb_245_6 : List zF := [zq_ald 0, zq_calli 219 0 9 5, zq_ild 3, zq_iret 0]
theorem xc_245_6 : zCd 245 [0, 21, 23, 32, 69, 70, 78] 78 xb_245_6 := zc_aload_n xj_245 79 0 rfl rfl (zc_invokevirtual1 xj_245 82 61 219 0 255 9 5 rfl rfl rfl (zc_iload_n xj_245 83 3 rfl rfl (zc_ireturn0 xj_245 84 rfl rfl (trivial))))
noncomputable def xb_245_5 : List zF := [zq_add, zq_ist 3, zq_inc 4 1, zq_goto 32]
theorem xc_245_5 : zCd 245 [0, 21, 23, 32, 69, 70, 78] 70 xb_245_5 := zc_iadd xj_245 71 rfl rfl (zc_istore_n xj_245 72 3 rfl rfl (zc_iinc xj_245 75 4 1 1 rfl rfl rfl (zc_goto xj_245 76 (-43) 32 rfl rfl rfl (trivial))))
noncomputable def xb_245_4 : List zF := zq_k 1 :: xb_245_5
theorem xc_245_4 : zCd 245 [0, 21, 23, 32, 69, 70, 78] 69 xb_245_4 := zc_iconst xj_245 70 1 1 rfl rfl rfl (xc_245_5)
noncomputable def xb_245_3 : List zF := [zq_ild 4, zq_ild 1, zq_ic_ge 78, zq_ald 0, zq_ild 2, zq_calli 244 1 9 2, zq_ist 5, zq_ald 0, zq_ild 2, zq_calli 244 1 9 2, zq_ist 6, zq_ild 3, zq_ald 0, zq_ild 5, zq_ild 6, zq_calli 230 2 9 4, zq_k 4294967295, zq_ic_ne 69, zq_k 0, zq_goto 70]
theorem xc_245_3 : zCd 245 [0, 21, 23, 32, 69, 70, 78] 32 xb_245_3 := zc_iload xj_245 34 4 rfl rfl (zc_iload_n xj_245 35 1 rfl rfl (zc_ic_ge xj_245 38 43 78 rfl rfl rfl (zc_aload_n xj_245 39 0 rfl rfl (zc_iload_n xj_245 40 2 rfl rfl (zc_invokevirtual1 xj_245 43 203 244 1 307 9 2 rfl rfl rfl (zc_istore xj_245 45 5 rfl rfl (zc_aload_n xj_245 46 0 rfl rfl (zc_iload_n xj_245 47 2 rfl rfl (zc_invokevirtual1 xj_245 50 203 244 1 307 9 2 rfl rfl rfl (zc_istore xj_245 52 6 rfl rfl (zc_iload_n xj_245 53 3 rfl rfl (zc_aload_n xj_245 54 0 rfl rfl (zc_iload xj_245 56 5 rfl rfl (zc_iload xj_245 58 6 rfl rfl (zc_invokevirtual1 xj_245 61 178 230 2 293 9 4 rfl rfl rfl (zc_iconst xj_245 62 (-1) 4294967295 rfl rfl rfl (zc_ic_ne xj_245 65 7 69 rfl rfl rfl (zc_iconst xj_245 66 0 0 rfl rfl rfl (zc_goto xj_245 67 4 70 rfl rfl rfl (trivial))))))))))))))))))))
noncomputable def xb_245_2 : List zF := zq_ald 0 :: zq_calli 225 0 9 3 :: zq_k 0 :: zq_ist 3 :: zq_k 0 :: zq_ist 4 :: xb_245_3
theorem xc_245_2 : zCd 245 [0, 21, 23, 32, 69, 70, 78] 23 xb_245_2 := zc_aload_n xj_245 24 0 rfl rfl (zc_invokevirtual1 xj_245 27 162 225 0 285 9 3 rfl rfl rfl (zc_iconst xj_245 28 0 0 rfl rfl rfl (zc_istore_n xj_245 29 3 rfl rfl (zc_iconst xj_245 30 0 0 rfl rfl rfl (zc_istore xj_245 32 4 rfl rfl (xc_245_3))))))
noncomputable def xb_245_1 : List zF := [zq_k 4294967295, zq_iret 0]
theorem xc_245_1 : zCd 245 [0, 21, 23, 32, 69, 70, 78] 21 xb_245_1 := zc_iconst xj_245 22 (-1) 4294967295 rfl rfl rfl (zc_ireturn0 xj_245 23 rfl rfl (trivial))
noncomputable def xb_245_0 : List zF := zq_ild 1 :: zq_k 1 :: zq_k 20 :: zq_calls 188 3 3 :: zq_if_eq 21 :: zq_ild 2 :: zq_k 1 :: zq_k 1000 :: zq_calls 188 3 3 :: zq_if_ne 23 :: xb_245_1
theorem xc_245_0 : zCd 245 [0, 21, 23, 32, 69, 70, 78] 0 xb_245_0 := zc_iload_n xj_245 1 1 rfl rfl (zc_iconst xj_245 2 1 1 rfl rfl rfl (zc_bipush xj_245 4 20 20 rfl rfl rfl (zc_invokestatic2 xj_245 7 67 188 3 265 0 3 rfl rfl rfl rfl (zc_if_eq xj_245 10 14 21 rfl rfl rfl (zc_iload_n xj_245 11 2 rfl rfl (zc_iconst xj_245 12 1 1 rfl rfl rfl (zc_sipush xj_245 15 1000 1000 rfl rfl rfl (zc_invokestatic2 xj_245 18 67 188 3 265 0 3 rfl rfl rfl rfl (zc_if_ne xj_245 21 5 23 rfl rfl rfl (xc_245_1))))))))))
noncomputable def xm_245 : Lean.RArray (List zF) := .branch 32 (.branch 21 (.leaf xb_245_0) (.branch 23 (.leaf xb_245_1) (.leaf xb_245_2))) (.branch 70 (.branch 69 (.leaf xb_245_3) (.leaf xb_245_4)) (.branch 78 (.leaf xb_245_5) (.leaf xb_245_6)))
theorem xa_245 : zCdAll 245 [0, 21, 23, 32, 69, 70, 78] xm_245 := zAll2_ok (P := fun t => zCd 245 [0, 21, 23, 32, 69, 70, 78] t (xm_245.get t)) ⟨xc_245_0, xc_245_1, xc_245_2, xc_245_3, xc_245_4, xc_245_5, xc_245_6, trivial⟩
/-- SquareMeshModel.height -/
theorem xj_246 : ∀ pc, pI 246 pc = pJ_246 pc := fun _ => rfl
noncomputable def xb_246_2 : List zF := [zq_ald 0, zq_calli 225 0 9 3, zq_ald 0, zq_getf 9 0, zq_k 3, zq_k 4, zq_ild 1, zq_mul, zq_add, zq_k 3, zq_add, zq_ild 2, zq_iast, zq_k 1, zq_iret 1]
theorem xc_246_2 : zCd 246 [0, 21, 23] 23 xb_246_2 := zc_aload_n xj_246 24 0 rfl rfl (zc_invokevirtual1 xj_246 27 162 225 0 285 9 3 rfl rfl rfl (zc_aload_n xj_246 28 0 rfl rfl (zc_getf xj_246 31 8 9 0 94 rfl rfl (zc_iconst xj_246 32 3 3 rfl rfl rfl (zc_iconst xj_246 33 4 4 rfl rfl rfl (zc_iload_n xj_246 34 1 rfl rfl (zc_imul xj_246 35 rfl rfl (zc_iadd xj_246 36 rfl rfl (zc_iconst xj_246 37 3 3 rfl rfl rfl (zc_iadd xj_246 38 rfl rfl (zc_iload_n xj_246 39 2 rfl rfl (zc_iastore xj_246 40 rfl rfl (zc_iconst xj_246 41 1 1 rfl rfl rfl (zc_ireturn1 xj_246 42 rfl rfl (trivial)))))))))))))))
noncomputable def xb_246_1 : List zF := [zq_k 0, zq_iret 1]
theorem xc_246_1 : zCd 246 [0, 21, 23] 21 xb_246_1 := zc_iconst xj_246 22 0 0 rfl rfl rfl (zc_ireturn1 xj_246 23 rfl rfl (trivial))
noncomputable def xb_246_0 : List zF := zq_ald 0 :: zq_ild 1 :: zq_calli 191 1 9 2 :: zq_if_eq 21 :: zq_ild 2 :: zq_k 4294957297 :: zq_k 9999 :: zq_calls 188 3 3 :: zq_if_ne 23 :: xb_246_1
theorem xc_246_0 : zCd 246 [0, 21, 23] 0 xb_246_0 := zc_aload_n xj_246 1 0 rfl rfl (zc_iload_n xj_246 2 1 rfl rfl (zc_invokevirtual1 xj_246 5 71 191 1 264 9 2 rfl rfl rfl (zc_if_eq xj_246 8 16 21 rfl rfl rfl (zc_iload_n xj_246 9 2 rfl rfl (zc_sipush xj_246 12 (-9999) 4294957297 rfl rfl rfl (zc_sipush xj_246 15 9999 9999 rfl rfl rfl (zc_invokestatic2 xj_246 18 67 188 3 265 0 3 rfl rfl rfl rfl (zc_if_ne xj_246 21 5 23 rfl rfl rfl (xc_246_1)))))))))
noncomputable def xm_246 : Lean.RArray (List zF) := .branch 21 (.leaf xb_246_0) (.branch 23 (.leaf xb_246_1) (.leaf xb_246_2))
theorem xa_246 : zCdAll 246 [0, 21, 23] xm_246 := zAll2_ok (P := fun t => zCd 246 [0, 21, 23] t (xm_246.get t)) ⟨xc_246_0, xc_246_1, xc_246_2, trivial⟩
/-- SquareMeshModel.cornerOf -/
theorem xj_247 : ∀ pc, pI 247 pc = pJ_247 pc := fun _ => rfl
noncomputable def xb_247_0 : List zF := [zq_ald 0, zq_getf 9 2, zq_k 3, zq_ild 1, zq_mul, zq_ild 2, zq_k 3, zq_rem, zq_add, zq_ild_ 0, zq_iret 0]
theorem xc_247_0 : zCd 247 [0] 0 xb_247_0 := zc_aload_n xj_247 1 0 rfl rfl (zc_getf xj_247 4 17 9 2 96 rfl rfl (zc_iconst xj_247 5 3 3 rfl rfl rfl (zc_iload_n xj_247 6 1 rfl rfl (zc_imul xj_247 7 rfl rfl (zc_iload_n xj_247 8 2 rfl rfl (zc_iconst xj_247 9 3 3 rfl rfl rfl (zc_irem xj_247 10 rfl rfl (zc_iadd xj_247 11 rfl rfl (zc_iaload xj_247 12 rfl rfl (zc_ireturn0 xj_247 13 rfl rfl (trivial)))))))))))
noncomputable def xm_247 : Lean.RArray (List zF) := .leaf xb_247_0
theorem xa_247 : zCdAll 247 [0] xm_247 := zAll2_ok (P := fun t => zCd 247 [0] t (xm_247.get t)) ⟨xc_247_0, trivial⟩
/-- SquareMeshModel.edgeOf -/
theorem xj_248 : ∀ pc, pI 248 pc = pJ_248 pc := fun _ => rfl
noncomputable def xb_248_0 : List zF := [zq_ald 0, zq_ald 0, zq_ild 1, zq_ild 2, zq_calli 247 2 9 3, zq_ald 0, zq_ild 1, zq_ild 2, zq_k 1, zq_add, zq_calli 247 2 9 3, zq_calli 204 2 9 3, zq_iret 0]
theorem xc_248_0 : zCd 248 [0] 0 xb_248_0 := zc_aload_n xj_248 1 0 rfl rfl (zc_aload_n xj_248 2 0 rfl rfl (zc_iload_n xj_248 3 1 rfl rfl (zc_iload_n xj_248 4 2 rfl rfl (zc_invokevirtual1 xj_248 7 206 247 2 313 9 3 rfl rfl rfl (zc_aload_n xj_248 8 0 rfl rfl (zc_iload_n xj_248 9 1 rfl rfl (zc_iload_n xj_248 10 2 rfl rfl (zc_iconst xj_248 11 1 1 rfl rfl rfl (zc_iadd xj_248 12 rfl rfl (zc_invokevirtual1 xj_248 15 206 247 2 313 9 3 rfl rfl rfl (zc_invokevirtual1 xj_248 18 86 204 2 270 9 3 rfl rfl rfl (zc_ireturn0 xj_248 19 rfl rfl (trivial)))))))))))))
noncomputable def xm_248 : Lean.RArray (List zF) := .leaf xb_248_0
theorem xa_248 : zCdAll 248 [0] xm_248 := zAll2_ok (P := fun t => zCd 248 [0] t (xm_248.get t)) ⟨xc_248_0, trivial⟩
/-- SquareMeshModel.longestOf -/
theorem xj_249 : ∀ pc, pI 249 pc = pJ_249 pc := fun _ => rfl
noncomputable def xb_249_3 : List zF := [zq_ild 2, zq_iret 0]
theorem xc_249_3 : zCd 249 [0, 4, 26, 32] 32 xb_249_3 := zc_iload_n xj_249 33 2 rfl rfl (zc_ireturn0 xj_249 34 rfl rfl (trivial))
noncomputable def xb_249_2 : List zF := [zq_inc 3 1, zq_goto 4]
theorem xc_249_2 : zCd 249 [0, 4, 26, 32] 26 xb_249_2 := zc_iinc xj_249 29 3 1 1 rfl rfl rfl (zc_goto xj_249 30 (-25) 4 rfl rfl rfl (trivial))
noncomputable def xb_249_1 : List zF := zq_ild 3 :: zq_k 3 :: zq_ic_ge 32 :: zq_ald 0 :: zq_ild 1 :: zq_ild 3 :: zq_calli 248 2 9 3 :: zq_ald 0 :: zq_ild 1 :: zq_ild 2 :: zq_calli 248 2 9 3 :: zq_ic_le 26 :: zq_ild 3 :: zq_ist 2 :: xb_249_2
theorem xc_249_1 : zCd 249 [0, 4, 26, 32] 4 xb_249_1 := zc_iload_n xj_249 5 3 rfl rfl (zc_iconst xj_249 6 3 3 rfl rfl rfl (zc_ic_ge xj_249 9 26 32 rfl rfl rfl (zc_aload_n xj_249 10 0 rfl rfl (zc_iload_n xj_249 11 1 rfl rfl (zc_iload_n xj_249 12 3 rfl rfl (zc_invokevirtual1 xj_249 15 209 248 2 315 9 3 rfl rfl rfl (zc_aload_n xj_249 16 0 rfl rfl (zc_iload_n xj_249 17 1 rfl rfl (zc_iload_n xj_249 18 2 rfl rfl (zc_invokevirtual1 xj_249 21 209 248 2 315 9 3 rfl rfl rfl (zc_ic_le xj_249 24 5 26 rfl rfl rfl (zc_iload_n xj_249 25 3 rfl rfl (zc_istore_n xj_249 26 2 rfl rfl (xc_249_2))))))))))))))
noncomputable def xb_249_0 : List zF := zq_k 0 :: zq_ist 2 :: zq_k 1 :: zq_ist 3 :: xb_249_1
theorem xc_249_0 : zCd 249 [0, 4, 26, 32] 0 xb_249_0 := zc_iconst xj_249 1 0 0 rfl rfl rfl (zc_istore_n xj_249 2 2 rfl rfl (zc_iconst xj_249 3 1 1 rfl rfl rfl (zc_istore_n xj_249 4 3 rfl rfl (xc_249_1))))
noncomputable def xm_249 : Lean.RArray (List zF) := .branch 26 (.branch 4 (.leaf xb_249_0) (.leaf xb_249_1)) (.branch 32 (.leaf xb_249_2) (.leaf xb_249_3))
theorem xa_249 : zCdAll 249 [0, 4, 26, 32] xm_249 := zAll2_ok (P := fun t => zCd 249 [0, 4, 26, 32] t (xm_249.get t)) ⟨xc_249_0, xc_249_1, xc_249_2, xc_249_3, trivial⟩
/-- SquareMeshModel.areaOf -/
theorem xj_250 : ∀ pc, pI 250 pc = pJ_250 pc := fun _ => rfl
noncomputable def xb_250_0 : List zF := [zq_ald 0, zq_ald 0, zq_ild 1, zq_k 0, zq_calli 247 2 9 3, zq_ald 0, zq_ild 1, zq_k 1, zq_calli 247 2 9 3, zq_ald 0, zq_ild 1, zq_k 2, zq_calli 247 2 9 3, zq_calli 202 3 9 4, zq_iret 0]
theorem xc_250_0 : zCd 250 [0] 0 xb_250_0 := zc_aload_n xj_250 1 0 rfl rfl (zc_aload_n xj_250 2 0 rfl rfl (zc_iload_n xj_250 3 1 rfl rfl (zc_iconst xj_250 4 0 0 rfl rfl rfl (zc_invokevirtual1 xj_250 7 206 247 2 313 9 3 rfl rfl rfl (zc_aload_n xj_250 8 0 rfl rfl (zc_iload_n xj_250 9 1 rfl rfl (zc_iconst xj_250 10 1 1 rfl rfl rfl (zc_invokevirtual1 xj_250 13 206 247 2 313 9 3 rfl rfl rfl (zc_aload_n xj_250 14 0 rfl rfl (zc_iload_n xj_250 15 1 rfl rfl (zc_iconst xj_250 16 2 2 rfl rfl rfl (zc_invokevirtual1 xj_250 19 206 247 2 313 9 3 rfl rfl rfl (zc_invokevirtual1 xj_250 22 90 202 3 266 9 4 rfl rfl rfl (zc_ireturn0 xj_250 23 rfl rfl (trivial)))))))))))))))
noncomputable def xm_250 : Lean.RArray (List zF) := .leaf xb_250_0
theorem xa_250 : zCdAll 250 [0] xm_250 := zAll2_ok (P := fun t => zCd 250 [0] t (xm_250.get t)) ⟨xc_250_0, trivial⟩
/-- SquareMeshModel.thinnestNow -/
theorem xj_251 : ∀ pc, pI 251 pc = pJ_251 pc := fun _ => rfl
noncomputable def xb_251_3 : List zF := [zq_ild 1, zq_iret 0]
theorem xc_251_3 : zCd 251 [0, 4, 54, 60] 60 xb_251_3 := zc_iload_n xj_251 61 1 rfl rfl (zc_ireturn0 xj_251 62 rfl rfl (trivial))
noncomputable def xb_251_2 : List zF := [zq_inc 2 1, zq_goto 4]
theorem xc_251_2 : zCd 251 [0, 4, 54, 60] 54 xb_251_2 := zc_iinc xj_251 57 2 1 1 rfl rfl rfl (zc_goto xj_251 58 (-53) 4 rfl rfl rfl (trivial))
noncomputable def xb_251_1 : List zF := zq_ild 2 :: zq_ald 0 :: zq_getf 9 4 :: zq_ic_ge 60 :: zq_ald 0 :: zq_ild 2 :: zq_calli 250 1 9 2 :: zq_i2l :: zq_ald 0 :: zq_ild 1 :: zq_ald 0 :: zq_ild 1 :: zq_calli 249 1 9 4 :: zq_calli 248 2 9 3 :: zq_i2l :: zq_lmul :: zq_ald 0 :: zq_ild 1 :: zq_calli 250 1 9 2 :: zq_i2l :: zq_ald 0 :: zq_ild 2 :: zq_ald 0 :: zq_ild 2 :: zq_calli 249 1 9 4 :: zq_calli 248 2 9 3 :: zq_i2l :: zq_lmul :: zq_lcmp :: zq_if_ge 54 :: zq_ild 2 :: zq_ist 1 :: xb_251_2
theorem xc_251_1 : zCd 251 [0, 4, 54, 60] 4 xb_251_1 := zc_iload_n xj_251 5 2 rfl rfl (zc_aload_n xj_251 6 0 rfl rfl (zc_getf xj_251 9 134 9 4 98 rfl rfl (zc_ic_ge xj_251 12 51 60 rfl rfl rfl (zc_aload_n xj_251 13 0 rfl rfl (zc_iload_n xj_251 14 2 rfl rfl (zc_invokevirtual1 xj_251 17 212 250 1 312 9 2 rfl rfl rfl (zc_i2l xj_251 18 rfl rfl (zc_aload_n xj_251 19 0 rfl rfl (zc_iload_n xj_251 20 1 rfl rfl (zc_aload_n xj_251 21 0 rfl rfl (zc_iload_n xj_251 22 1 rfl rfl (zc_invokevirtual1 xj_251 25 215 249 1 314 9 4 rfl rfl rfl (zc_invokevirtual1 xj_251 28 209 248 2 315 9 3 rfl rfl rfl (zc_i2l xj_251 29 rfl rfl (zc_lmul xj_251 30 rfl rfl (zc_aload_n xj_251 31 0 rfl rfl (zc_iload_n xj_251 32 1 rfl rfl (zc_invokevirtual1 xj_251 35 212 250 1 312 9 2 rfl rfl rfl (zc_i2l xj_251 36 rfl rfl (zc_aload_n xj_251 37 0 rfl rfl (zc_iload_n xj_251 38 2 rfl rfl (zc_aload_n xj_251 39 0 rfl rfl (zc_iload_n xj_251 40 2 rfl rfl (zc_invokevirtual1 xj_251 43 215 249 1 314 9 4 rfl rfl rfl (zc_invokevirtual1 xj_251 46 209 248 2 315 9 3 rfl rfl rfl (zc_i2l xj_251 47 rfl rfl (zc_lmul xj_251 48 rfl rfl (zc_lcmp xj_251 49 rfl rfl (zc_if_ge xj_251 52 5 54 rfl rfl rfl (zc_iload_n xj_251 53 2 rfl rfl (zc_istore_n xj_251 54 1 rfl rfl (xc_251_2))))))))))))))))))))))))))))))))
noncomputable def xb_251_0 : List zF := zq_k 0 :: zq_ist 1 :: zq_k 1 :: zq_ist 2 :: xb_251_1
theorem xc_251_0 : zCd 251 [0, 4, 54, 60] 0 xb_251_0 := zc_iconst xj_251 1 0 0 rfl rfl rfl (zc_istore_n xj_251 2 1 rfl rfl (zc_iconst xj_251 3 1 1 rfl rfl rfl (zc_istore_n xj_251 4 2 rfl rfl (xc_251_1))))
noncomputable def xm_251 : Lean.RArray (List zF) := .branch 54 (.branch 4 (.leaf xb_251_0) (.leaf xb_251_1)) (.branch 60 (.leaf xb_251_2) (.leaf xb_251_3))
theorem xa_251 : zCdAll 251 [0, 4, 54, 60] xm_251 := zAll2_ok (P := fun t => zCd 251 [0, 4, 54, 60] t (xm_251.get t)) ⟨xc_251_0, xc_251_1, xc_251_2, xc_251_3, trivial⟩
/-- SquareMeshModel.refineOnce -/
theorem xj_252 : ∀ pc, pI 252 pc = pJ_252 pc := fun _ => rfl
noncomputable def xb_252_1 : List zF := [zq_ald 0, zq_calli 219 0 9 5, zq_k 1, zq_iret 1]
theorem xc_252_1 : zCd 252 [0, 70] 70 xb_252_1 := zc_aload_n xj_252 71 0 rfl rfl (zc_invokevirtual1 xj_252 74 61 219 0 255 9 5 rfl rfl rfl (zc_iconst xj_252 75 1 1 rfl rfl rfl (zc_ireturn1 xj_252 76 rfl rfl (trivial))))
noncomputable def xb_252_0 : List zF := [zq_ald 0, zq_calli 251 0 9 3, zq_ist 1, zq_ald 0, zq_ild 1, zq_calli 249 1 9 4, zq_ist 2, zq_ald 0, zq_ild 1, zq_ild 2, zq_calli 247 2 9 3, zq_ist 3, zq_ald 0, zq_ild 1, zq_ild 2, zq_k 1, zq_add, zq_calli 247 2 9 3, zq_ist 4, zq_ald 0, zq_ald 0, zq_ild 3, zq_calli 192 1 9 2, zq_ald 0, zq_ild 4, zq_calli 192 1 9 2, zq_add, zq_k 2, zq_calls 190 2 2, zq_ald 0, zq_ild 3, zq_calli 193 1 9 2, zq_ald 0, zq_ild 4, zq_calli 193 1 9 2, zq_add, zq_k 2, zq_calls 190 2 2, zq_calli 230 2 9 4, zq_k 4294967295, zq_ic_ne 70, zq_k 0, zq_iret 1]
theorem xc_252_0 : zCd 252 [0, 70] 0 xb_252_0 := zc_aload_n xj_252 1 0 rfl rfl (zc_invokevirtual1 xj_252 4 218 251 0 311 9 3 rfl rfl rfl (zc_istore_n xj_252 5 1 rfl rfl (zc_aload_n xj_252 6 0 rfl rfl (zc_iload_n xj_252 7 1 rfl rfl (zc_invokevirtual1 xj_252 10 215 249 1 314 9 4 rfl rfl rfl (zc_istore_n xj_252 11 2 rfl rfl (zc_aload_n xj_252 12 0 rfl rfl (zc_iload_n xj_252 13 1 rfl rfl (zc_iload_n xj_252 14 2 rfl rfl (zc_invokevirtual1 xj_252 17 206 247 2 313 9 3 rfl rfl rfl (zc_istore_n xj_252 18 3 rfl rfl (zc_aload_n xj_252 19 0 rfl rfl (zc_iload_n xj_252 20 1 rfl rfl (zc_iload_n xj_252 21 2 rfl rfl (zc_iconst xj_252 22 1 1 rfl rfl rfl (zc_iadd xj_252 23 rfl rfl (zc_invokevirtual1 xj_252 26 206 247 2 313 9 3 rfl rfl rfl (zc_istore xj_252 28 4 rfl rfl (zc_aload_n xj_252 29 0 rfl rfl (zc_aload_n xj_252 30 0 rfl rfl (zc_iload_n xj_252 31 3 rfl rfl (zc_invokevirtual1 xj_252 34 75 192 1 260 9 2 rfl rfl rfl (zc_aload_n xj_252 35 0 rfl rfl (zc_iload xj_252 37 4 rfl rfl (zc_invokevirtual1 xj_252 40 75 192 1 260 9 2 rfl rfl rfl (zc_iadd xj_252 41 rfl rfl (zc_iconst xj_252 42 2 2 rfl rfl rfl (zc_invokestatic2 xj_252 45 221 190 2 316 0 2 rfl rfl rfl rfl (zc_aload_n xj_252 46 0 rfl rfl (zc_iload_n xj_252 47 3 rfl rfl (zc_invokevirtual1 xj_252 50 79 193 1 261 9 2 rfl rfl rfl (zc_aload_n xj_252 51 0 rfl rfl (zc_iload xj_252 53 4 rfl rfl (zc_invokevirtual1 xj_252 56 79 193 1 261 9 2 rfl rfl rfl (zc_iadd xj_252 57 rfl rfl (zc_iconst xj_252 58 2 2 rfl rfl rfl (zc_invokestatic2 xj_252 61 221 190 2 316 0 2 rfl rfl rfl rfl (zc_invokevirtual1 xj_252 64 178 230 2 293 9 4 rfl rfl rfl (zc_iconst xj_252 65 (-1) 4294967295 rfl rfl rfl (zc_ic_ne xj_252 68 5 70 rfl rfl rfl (zc_iconst xj_252 69 0 0 rfl rfl rfl (zc_ireturn1 xj_252 70 rfl rfl (trivial)))))))))))))))))))))))))))))))))))))))))))
noncomputable def xm_252 : Lean.RArray (List zF) := .branch 70 (.leaf xb_252_0) (.leaf xb_252_1)
theorem xa_252 : zCdAll 252 [0, 70] xm_252 := zAll2_ok (P := fun t => zCd 252 [0, 70] t (xm_252.get t)) ⟨xc_252_0, xc_252_1, trivial⟩
/-- SquareMeshModel.refine -/
theorem xj_253 : ∀ pc, pI 253 pc = pJ_253 pc := fun _ => rfl
noncomputable def xb_253_3 : List zF := [zq_ild 2, zq_iret 0]
theorem xc_253_3 : zCd 253 [0, 12, 18, 36] 36 xb_253_3 := zc_iload_n xj_253 37 2 rfl rfl (zc_ireturn0 xj_253 38 rfl rfl (trivial))
noncomputable def xb_253_2 : List zF := [zq_ild 2, zq_ild 1, zq_ic_ge 36, zq_ald 0, zq_calli 252 0 9 5, zq_if_eq 36, zq_inc 2 1, zq_goto 18]
theorem xc_253_2 : zCd 253 [0, 12, 18, 36] 18 xb_253_2 := zc_iload_n xj_253 19 2 rfl rfl (zc_iload_n xj_253 20 1 rfl rfl (zc_ic_ge xj_253 23 16 36 rfl rfl rfl (zc_aload_n xj_253 24 0 rfl rfl (zc_invokevirtual1 xj_253 27 224 252 0 310 9 5 rfl rfl rfl (zc_if_eq xj_253 30 9 36 rfl rfl rfl (zc_iinc xj_253 33 2 1 1 rfl rfl rfl (zc_goto xj_253 34 (-15) 18 rfl rfl rfl (trivial))))))))
noncomputable def xb_253_1 : List zF := zq_ald 0 :: zq_calli 225 0 9 3 :: zq_k 0 :: zq_ist 2 :: xb_253_2
theorem xc_253_1 : zCd 253 [0, 12, 18, 36] 12 xb_253_1 := zc_aload_n xj_253 13 0 rfl rfl (zc_invokevirtual1 xj_253 16 162 225 0 285 9 3 rfl rfl rfl (zc_iconst xj_253 17 0 0 rfl rfl rfl (zc_istore_n xj_253 18 2 rfl rfl (xc_253_2))))
noncomputable def xb_253_0 : List zF := [zq_ild 1, zq_k 1, zq_k 10, zq_calls 188 3 3, zq_if_ne 12, zq_k 4294967295, zq_iret 0]
theorem xc_253_0 : zCd 253 [0, 12, 18, 36] 0 xb_253_0 := zc_iload_n xj_253 1 1 rfl rfl (zc_iconst xj_253 2 1 1 rfl rfl rfl (zc_bipush xj_253 4 10 10 rfl rfl rfl (zc_invokestatic2 xj_253 7 67 188 3 265 0 3 rfl rfl rfl rfl (zc_if_ne xj_253 10 5 12 rfl rfl rfl (zc_iconst xj_253 11 (-1) 4294967295 rfl rfl rfl (zc_ireturn0 xj_253 12 rfl rfl (trivial)))))))
noncomputable def xm_253 : Lean.RArray (List zF) := .branch 18 (.branch 12 (.leaf xb_253_0) (.leaf xb_253_1)) (.branch 36 (.leaf xb_253_2) (.leaf xb_253_3))
theorem xa_253 : zCdAll 253 [0, 12, 18, 36] xm_253 := zAll2_ok (P := fun t => zCd 253 [0, 12, 18, 36] t (xm_253.get t)) ⟨xc_253_0, xc_253_1, xc_253_2, xc_253_3, trivial⟩
/-- SquareMeshModel.smoothOne -/
theorem xj_254 : ∀ pc, pI 254 pc = pJ_254 pc := fun _ => rfl
noncomputable def xb_254_3 : List zF := [zq_ald 0, zq_ild 1, zq_ild 2, zq_ild 4, zq_calls 190 2 2, zq_ild 3, zq_ild 4, zq_calls 190 2 2, zq_calli 237 3 9 4, zq_k 1, zq_iret 1]
theorem xc_254_3 : zCd 254 [0, 14, 55, 77] 77 xb_254_3 := zc_aload_n xj_254 78 0 rfl rfl (zc_iload_n xj_254 79 1 rfl rfl (zc_iload_n xj_254 80 2 rfl rfl (zc_iload xj_254 82 4 rfl rfl (zc_invokestatic2 xj_254 85 221 190 2 316 0 2 rfl rfl rfl rfl (zc_iload_n xj_254 86 3 rfl rfl (zc_iload xj_254 88 4 rfl rfl (zc_invokestatic2 xj_254 91 221 190 2 316 0 2 rfl rfl rfl rfl (zc_invokevirtual1 xj_254 94 191 237 3 300 9 4 rfl rfl rfl (zc_iconst xj_254 95 1 1 rfl rfl rfl (zc_ireturn1 xj_254 96 rfl rfl (trivial)))))))))))
noncomputable def xb_254_2 : List zF := [zq_ald 0, zq_ild 2, zq_ild 4, zq_calls 190 2 2, zq_ild 3, zq_ild 4, zq_calls 190 2 2, zq_calli 198 2 9 4, zq_k 4294967295, zq_ic_eq 77, zq_k 0, zq_iret 1]
theorem xc_254_2 : zCd 254 [0, 14, 55, 77] 55 xb_254_2 := zc_aload_n xj_254 56 0 rfl rfl (zc_iload_n xj_254 57 2 rfl rfl (zc_iload xj_254 59 4 rfl rfl (zc_invokestatic2 xj_254 62 221 190 2 316 0 2 rfl rfl rfl rfl (zc_iload_n xj_254 63 3 rfl rfl (zc_iload xj_254 65 4 rfl rfl (zc_invokestatic2 xj_254 68 221 190 2 316 0 2 rfl rfl rfl rfl (zc_invokevirtual1 xj_254 71 169 198 2 291 9 4 rfl rfl rfl (zc_iconst xj_254 72 (-1) 4294967295 rfl rfl rfl (zc_ic_eq xj_254 75 5 77 rfl rfl rfl (zc_iconst xj_254 76 0 0 rfl rfl rfl (zc_ireturn1 xj_254 77 rfl rfl (trivial))))))))))))
noncomputable def xb_254_1 : List zF := [zq_ild 5, zq_ild 4, zq_ic_ge 55, zq_ild 2, zq_ald 0, zq_ald 0, zq_getf 9 7, zq_ild 5, zq_ild_ 0, zq_calli 192 1 9 2, zq_add, zq_ist 2, zq_ild 3, zq_ald 0, zq_ald 0, zq_getf 9 7, zq_ild 5, zq_ild_ 0, zq_calli 193 1 9 2, zq_add, zq_ist 3, zq_inc 5 1, zq_goto 14]
theorem xc_254_1 : zCd 254 [0, 14, 55, 77] 14 xb_254_1 := zc_iload xj_254 16 5 rfl rfl (zc_iload xj_254 18 4 rfl rfl (zc_ic_ge xj_254 21 37 55 rfl rfl rfl (zc_iload_n xj_254 22 2 rfl rfl (zc_aload_n xj_254 23 0 rfl rfl (zc_aload_n xj_254 24 0 rfl rfl (zc_getf xj_254 27 30 9 7 101 rfl rfl (zc_iload xj_254 29 5 rfl rfl (zc_iaload xj_254 30 rfl rfl (zc_invokevirtual1 xj_254 33 75 192 1 260 9 2 rfl rfl rfl (zc_iadd xj_254 34 rfl rfl (zc_istore_n xj_254 35 2 rfl rfl (zc_iload_n xj_254 36 3 rfl rfl (zc_aload_n xj_254 37 0 rfl rfl (zc_aload_n xj_254 38 0 rfl rfl (zc_getf xj_254 41 30 9 7 101 rfl rfl (zc_iload xj_254 43 5 rfl rfl (zc_iaload xj_254 44 rfl rfl (zc_invokevirtual1 xj_254 47 79 193 1 261 9 2 rfl rfl rfl (zc_iadd xj_254 48 rfl rfl (zc_istore_n xj_254 49 3 rfl rfl (zc_iinc xj_254 52 5 1 1 rfl rfl rfl (zc_goto xj_254 53 (-38) 14 rfl rfl rfl (trivial)))))))))))))))))))))))
noncomputable def xb_254_0 : List zF := zq_k 0 :: zq_ist 2 :: zq_k 0 :: zq_ist 3 :: zq_ald 0 :: zq_ild 1 :: zq_calli 281 1 9 5 :: zq_ist 4 :: zq_k 0 :: zq_ist 5 :: xb_254_1
theorem xc_254_0 : zCd 254 [0, 14, 55, 77] 0 xb_254_0 := zc_iconst xj_254 1 0 0 rfl rfl rfl (zc_istore_n xj_254 2 2 rfl rfl (zc_iconst xj_254 3 0 0 rfl rfl rfl (zc_istore_n xj_254 4 3 rfl rfl (zc_aload_n xj_254 5 0 rfl rfl (zc_iload_n xj_254 6 1 rfl rfl (zc_invokevirtual1 xj_254 9 228 281 1 319 9 5 rfl rfl rfl (zc_istore xj_254 11 4 rfl rfl (zc_iconst xj_254 12 0 0 rfl rfl rfl (zc_istore xj_254 14 5 rfl rfl (xc_254_1))))))))))
noncomputable def xm_254 : Lean.RArray (List zF) := .branch 55 (.branch 14 (.leaf xb_254_0) (.leaf xb_254_1)) (.branch 77 (.leaf xb_254_2) (.leaf xb_254_3))
theorem xa_254 : zCdAll 254 [0, 14, 55, 77] xm_254 := zAll2_ok (P := fun t => zCd 254 [0, 14, 55, 77] t (xm_254.get t)) ⟨xc_254_0, xc_254_1, xc_254_2, xc_254_3, trivial⟩
/-- SquareMeshModel.smooth -/
theorem xj_255 : ∀ pc, pI 255 pc = pJ_255 pc := fun _ => rfl
noncomputable def xb_255_4 : List zF := [zq_ild 1, zq_iret 0]
theorem xc_255_4 : zCd 255 [0, 8, 35, 36, 44] 44 xb_255_4 := zc_iload_n xj_255 45 1 rfl rfl (zc_ireturn0 xj_255 46 rfl rfl (trivial))
noncomputable def xb_255_3 : List zF := [zq_add, zq_ist 1, zq_inc 2 1, zq_goto 8]
theorem xc_255_3 : zCd 255 [0, 8, 35, 36, 44] 36 xb_255_3 := zc_iadd xj_255 37 rfl rfl (zc_istore_n xj_255 38 1 rfl rfl (zc_iinc xj_255 41 2 1 1 rfl rfl rfl (zc_goto xj_255 42 (-33) 8 rfl rfl rfl (trivial))))
noncomputable def xb_255_2 : List zF := zq_k 0 :: xb_255_3
theorem xc_255_2 : zCd 255 [0, 8, 35, 36, 44] 35 xb_255_2 := zc_iconst xj_255 36 0 0 rfl rfl rfl (xc_255_3)
noncomputable def xb_255_1 : List zF := [zq_ild 2, zq_k 40, zq_ic_ge 44, zq_ild 1, zq_ald 0, zq_ild 2, zq_calli 234 1 9 2, zq_if_eq 35, zq_ald 0, zq_ild 2, zq_calli 254 1 9 6, zq_if_eq 35, zq_k 1, zq_goto 36]
theorem xc_255_1 : zCd 255 [0, 8, 35, 36, 44] 8 xb_255_1 := zc_iload_n xj_255 9 2 rfl rfl (zc_bipush xj_255 11 40 40 rfl rfl rfl (zc_ic_ge xj_255 14 33 44 rfl rfl rfl (zc_iload_n xj_255 15 1 rfl rfl (zc_aload_n xj_255 16 0 rfl rfl (zc_iload_n xj_255 17 2 rfl rfl (zc_invokevirtual1 xj_255 20 184 234 1 296 9 2 rfl rfl rfl (zc_if_eq xj_255 23 15 35 rfl rfl rfl (zc_aload_n xj_255 24 0 rfl rfl (zc_iload_n xj_255 25 2 rfl rfl (zc_invokevirtual1 xj_255 28 231 254 1 318 9 6 rfl rfl rfl (zc_if_eq xj_255 31 7 35 rfl rfl rfl (zc_iconst xj_255 32 1 1 rfl rfl rfl (zc_goto xj_255 33 4 36 rfl rfl rfl (trivial))))))))))))))
noncomputable def xb_255_0 : List zF := zq_ald 0 :: zq_calli 225 0 9 3 :: zq_k 0 :: zq_ist 1 :: zq_k 0 :: zq_ist 2 :: xb_255_1
theorem xc_255_0 : zCd 255 [0, 8, 35, 36, 44] 0 xb_255_0 := zc_aload_n xj_255 1 0 rfl rfl (zc_invokevirtual1 xj_255 4 162 225 0 285 9 3 rfl rfl rfl (zc_iconst xj_255 5 0 0 rfl rfl rfl (zc_istore_n xj_255 6 1 rfl rfl (zc_iconst xj_255 7 0 0 rfl rfl rfl (zc_istore_n xj_255 8 2 rfl rfl (xc_255_1))))))
noncomputable def xm_255 : Lean.RArray (List zF) := .branch 35 (.branch 8 (.leaf xb_255_0) (.leaf xb_255_1)) (.branch 36 (.leaf xb_255_2) (.branch 44 (.leaf xb_255_3) (.leaf xb_255_4)))
theorem xa_255 : zCdAll 255 [0, 8, 35, 36, 44] xm_255 := zAll2_ok (P := fun t => zCd 255 [0, 8, 35, 36, 44] t (xm_255.get t)) ⟨xc_255_0, xc_255_1, xc_255_2, xc_255_3, xc_255_4, trivial⟩
/-- SquareMeshModel.tell -/
theorem xj_256 : ∀ pc, pI 256 pc = pJ_256 pc := fun _ => rfl
noncomputable def xb_256_1 : List zF := [zq_ald 0, zq_getf 9 0, zq_k 2, zq_ild 1, zq_iast, zq_k 1, zq_iret 1]
theorem xc_256_1 : zCd 256 [0, 13] 13 xb_256_1 := zc_aload_n xj_256 14 0 rfl rfl (zc_getf xj_256 17 8 9 0 94 rfl rfl (zc_iconst xj_256 18 2 2 rfl rfl rfl (zc_iload_n xj_256 19 1 rfl rfl (zc_iastore xj_256 20 rfl rfl (zc_iconst xj_256 21 1 1 rfl rfl rfl (zc_ireturn1 xj_256 22 rfl rfl (trivial)))))))
noncomputable def xb_256_0 : List zF := [zq_ild 1, zq_k 0, zq_k 30046, zq_calls 188 3 3, zq_if_ne 13, zq_k 0, zq_iret 1]
theorem xc_256_0 : zCd 256 [0, 13] 0 xb_256_0 := zc_iload_n xj_256 1 1 rfl rfl (zc_iconst xj_256 2 0 0 rfl rfl rfl (zc_sipush xj_256 5 30046 30046 rfl rfl rfl (zc_invokestatic2 xj_256 8 67 188 3 265 0 3 rfl rfl rfl rfl (zc_if_ne xj_256 11 5 13 rfl rfl rfl (zc_iconst xj_256 12 0 0 rfl rfl rfl (zc_ireturn1 xj_256 13 rfl rfl (trivial)))))))
noncomputable def xm_256 : Lean.RArray (List zF) := .branch 13 (.leaf xb_256_0) (.leaf xb_256_1)
theorem xa_256 : zCdAll 256 [0, 13] xm_256 := zAll2_ok (P := fun t => zCd 256 [0, 13] t (xm_256.get t)) ⟨xc_256_0, xc_256_1, trivial⟩
/-- SquareMeshModel.points -/
theorem xj_257 : ∀ pc, pI 257 pc = pJ_257 pc := fun _ => rfl
noncomputable def xb_257_4 : List zF := [zq_ild 1, zq_iret 0]
theorem xc_257_4 : zCd 257 [0, 4, 23, 24, 32] 32 xb_257_4 := zc_iload_n xj_257 33 1 rfl rfl (zc_ireturn0 xj_257 34 rfl rfl (trivial))
noncomputable def xb_257_3 : List zF := [zq_add, zq_ist 1, zq_inc 2 1, zq_goto 4]
theorem xc_257_3 : zCd 257 [0, 4, 23, 24, 32] 24 xb_257_3 := zc_iadd xj_257 25 rfl rfl (zc_istore_n xj_257 26 1 rfl rfl (zc_iinc xj_257 29 2 1 1 rfl rfl rfl (zc_goto xj_257 30 (-25) 4 rfl rfl rfl (trivial))))
noncomputable def xb_257_2 : List zF := zq_k 0 :: xb_257_3
theorem xc_257_2 : zCd 257 [0, 4, 23, 24, 32] 23 xb_257_2 := zc_iconst xj_257 24 0 0 rfl rfl rfl (xc_257_3)
noncomputable def xb_257_1 : List zF := [zq_ild 2, zq_k 40, zq_ic_ge 32, zq_ild 1, zq_ald 0, zq_ild 2, zq_calli 191 1 9 2, zq_if_eq 23, zq_k 1, zq_goto 24]
theorem xc_257_1 : zCd 257 [0, 4, 23, 24, 32] 4 xb_257_1 := zc_iload_n xj_257 5 2 rfl rfl (zc_bipush xj_257 7 40 40 rfl rfl rfl (zc_ic_ge xj_257 10 25 32 rfl rfl rfl (zc_iload_n xj_257 11 1 rfl rfl (zc_aload_n xj_257 12 0 rfl rfl (zc_iload_n xj_257 13 2 rfl rfl (zc_invokevirtual1 xj_257 16 71 191 1 264 9 2 rfl rfl rfl (zc_if_eq xj_257 19 7 23 rfl rfl rfl (zc_iconst xj_257 20 1 1 rfl rfl rfl (zc_goto xj_257 21 4 24 rfl rfl rfl (trivial))))))))))
noncomputable def xb_257_0 : List zF := zq_k 0 :: zq_ist 1 :: zq_k 0 :: zq_ist 2 :: xb_257_1
theorem xc_257_0 : zCd 257 [0, 4, 23, 24, 32] 0 xb_257_0 := zc_iconst xj_257 1 0 0 rfl rfl rfl (zc_istore_n xj_257 2 1 rfl rfl (zc_iconst xj_257 3 0 0 rfl rfl rfl (zc_istore_n xj_257 4 2 rfl rfl (xc_257_1))))
noncomputable def xm_257 : Lean.RArray (List zF) := .branch 23 (.branch 4 (.leaf xb_257_0) (.leaf xb_257_1)) (.branch 24 (.leaf xb_257_2) (.branch 32 (.leaf xb_257_3) (.leaf xb_257_4)))
theorem xa_257 : zCdAll 257 [0, 4, 23, 24, 32] xm_257 := zAll2_ok (P := fun t => zCd 257 [0, 4, 23, 24, 32] t (xm_257.get t)) ⟨xc_257_0, xc_257_1, xc_257_2, xc_257_3, xc_257_4, trivial⟩
/-- SquareMeshModel.edges -/
theorem xj_258 : ∀ pc, pI 258 pc = pJ_258 pc := fun _ => rfl
noncomputable def xb_258_6 : List zF := [zq_ild 1, zq_iret 0]
theorem xc_258_6 : zCd 258 [0, 4, 12, 31, 32, 40, 46] 46 xb_258_6 := zc_iload_n xj_258 47 1 rfl rfl (zc_ireturn0 xj_258 48 rfl rfl (trivial))
noncomputable def xb_258_5 : List zF := [zq_inc 2 1, zq_goto 4]
theorem xc_258_5 : zCd 258 [0, 4, 12, 31, 32, 40, 46] 40 xb_258_5 := zc_iinc xj_258 43 2 1 1 rfl rfl rfl (zc_goto xj_258 44 (-39) 4 rfl rfl rfl (trivial))
noncomputable def xb_258_4 : List zF := [zq_add, zq_ist 1, zq_inc 3 1, zq_goto 12]
theorem xc_258_4 : zCd 258 [0, 4, 12, 31, 32, 40, 46] 32 xb_258_4 := zc_iadd xj_258 33 rfl rfl (zc_istore_n xj_258 34 1 rfl rfl (zc_iinc xj_258 37 3 1 1 rfl rfl rfl (zc_goto xj_258 38 (-25) 12 rfl rfl rfl (trivial))))
noncomputable def xb_258_3 : List zF := zq_k 0 :: xb_258_4
theorem xc_258_3 : zCd 258 [0, 4, 12, 31, 32, 40, 46] 31 xb_258_3 := zc_iconst xj_258 32 0 0 rfl rfl rfl (xc_258_4)
noncomputable def xb_258_2 : List zF := [zq_ild 3, zq_ild 2, zq_ic_ge 40, zq_ild 1, zq_ald 0, zq_ild 2, zq_ild 3, zq_calli 213 2 9 3, zq_if_eq 31, zq_k 1, zq_goto 32]
theorem xc_258_2 : zCd 258 [0, 4, 12, 31, 32, 40, 46] 12 xb_258_2 := zc_iload_n xj_258 13 3 rfl rfl (zc_iload_n xj_258 14 2 rfl rfl (zc_ic_ge xj_258 17 26 40 rfl rfl rfl (zc_iload_n xj_258 18 1 rfl rfl (zc_aload_n xj_258 19 0 rfl rfl (zc_iload_n xj_258 20 2 rfl rfl (zc_iload_n xj_258 21 3 rfl rfl (zc_invokevirtual1 xj_258 24 234 213 2 321 9 3 rfl rfl rfl (zc_if_eq xj_258 27 7 31 rfl rfl rfl (zc_iconst xj_258 28 1 1 rfl rfl rfl (zc_goto xj_258 29 4 32 rfl rfl rfl (trivial)))))))))))
noncomputable def xb_258_1 : List zF := zq_ild 2 :: zq_k 40 :: zq_ic_ge 46 :: zq_k 0 :: zq_ist 3 :: xb_258_2
theorem xc_258_1 : zCd 258 [0, 4, 12, 31, 32, 40, 46] 4 xb_258_1 := zc_iload_n xj_258 5 2 rfl rfl (zc_bipush xj_258 7 40 40 rfl rfl rfl (zc_ic_ge xj_258 10 39 46 rfl rfl rfl (zc_iconst xj_258 11 0 0 rfl rfl rfl (zc_istore_n xj_258 12 3 rfl rfl (xc_258_2)))))
noncomputable def xb_258_0 : List zF := zq_k 0 :: zq_ist 1 :: zq_k 0 :: zq_ist 2 :: xb_258_1
theorem xc_258_0 : zCd 258 [0, 4, 12, 31, 32, 40, 46] 0 xb_258_0 := zc_iconst xj_258 1 0 0 rfl rfl rfl (zc_istore_n xj_258 2 1 rfl rfl (zc_iconst xj_258 3 0 0 rfl rfl rfl (zc_istore_n xj_258 4 2 rfl rfl (xc_258_1))))
noncomputable def xm_258 : Lean.RArray (List zF) := .branch 31 (.branch 4 (.leaf xb_258_0) (.branch 12 (.leaf xb_258_1) (.leaf xb_258_2))) (.branch 40 (.branch 32 (.leaf xb_258_3) (.leaf xb_258_4)) (.branch 46 (.leaf xb_258_5) (.leaf xb_258_6)))
theorem xa_258 : zCdAll 258 [0, 4, 12, 31, 32, 40, 46] xm_258 := zAll2_ok (P := fun t => zCd 258 [0, 4, 12, 31, 32, 40, 46] t (xm_258.get t)) ⟨xc_258_0, xc_258_1, xc_258_2, xc_258_3, xc_258_4, xc_258_5, xc_258_6, trivial⟩
/-- SquareMeshModel.fixedBy -/
theorem xj_259 : ∀ pc, pI 259 pc = pJ_259 pc := fun _ => rfl
noncomputable def xb_259_6 : List zF := [zq_ild 2, zq_iret 0]
theorem xc_259_6 : zCd 259 [0, 4, 13, 35, 36, 44, 50] 50 xb_259_6 := zc_iload_n xj_259 51 2 rfl rfl (zc_ireturn0 xj_259 52 rfl rfl (trivial))
noncomputable def xb_259_5 : List zF := [zq_inc 3 1, zq_goto 4]
theorem xc_259_5 : zCd 259 [0, 4, 13, 35, 36, 44, 50] 44 xb_259_5 := zc_iinc xj_259 47 3 1 1 rfl rfl rfl (zc_goto xj_259 48 (-43) 4 rfl rfl rfl (trivial))
noncomputable def xb_259_4 : List zF := [zq_add, zq_ist 2, zq_inc 4 1, zq_goto 13]
theorem xc_259_4 : zCd 259 [0, 4, 13, 35, 36, 44, 50] 36 xb_259_4 := zc_iadd xj_259 37 rfl rfl (zc_istore_n xj_259 38 2 rfl rfl (zc_iinc xj_259 41 4 1 1 rfl rfl rfl (zc_goto xj_259 42 (-28) 13 rfl rfl rfl (trivial))))
noncomputable def xb_259_3 : List zF := zq_k 0 :: xb_259_4
theorem xc_259_3 : zCd 259 [0, 4, 13, 35, 36, 44, 50] 35 xb_259_3 := zc_iconst xj_259 36 0 0 rfl rfl rfl (xc_259_4)
noncomputable def xb_259_2 : List zF := [zq_ild 4, zq_ild 3, zq_ic_ge 44, zq_ild 2, zq_ald 0, zq_ild 3, zq_ild 4, zq_calli 196 2 9 3, zq_ild 1, zq_ic_lt 35, zq_k 1, zq_goto 36]
theorem xc_259_2 : zCd 259 [0, 4, 13, 35, 36, 44, 50] 13 xb_259_2 := zc_iload xj_259 15 4 rfl rfl (zc_iload_n xj_259 16 3 rfl rfl (zc_ic_ge xj_259 19 28 44 rfl rfl rfl (zc_iload_n xj_259 20 2 rfl rfl (zc_aload_n xj_259 21 0 rfl rfl (zc_iload_n xj_259 22 3 rfl rfl (zc_iload xj_259 24 4 rfl rfl (zc_invokevirtual1 xj_259 27 102 196 2 258 9 3 rfl rfl rfl (zc_iload_n xj_259 28 1 rfl rfl (zc_ic_lt xj_259 31 7 35 rfl rfl rfl (zc_iconst xj_259 32 1 1 rfl rfl rfl (zc_goto xj_259 33 4 36 rfl rfl rfl (trivial))))))))))))
noncomputable def xb_259_1 : List zF := zq_ild 3 :: zq_k 40 :: zq_ic_ge 50 :: zq_k 0 :: zq_ist 4 :: xb_259_2
theorem xc_259_1 : zCd 259 [0, 4, 13, 35, 36, 44, 50] 4 xb_259_1 := zc_iload_n xj_259 5 3 rfl rfl (zc_bipush xj_259 7 40 40 rfl rfl rfl (zc_ic_ge xj_259 10 43 50 rfl rfl rfl (zc_iconst xj_259 11 0 0 rfl rfl rfl (zc_istore xj_259 13 4 rfl rfl (xc_259_2)))))
noncomputable def xb_259_0 : List zF := zq_k 0 :: zq_ist 2 :: zq_k 0 :: zq_ist 3 :: xb_259_1
theorem xc_259_0 : zCd 259 [0, 4, 13, 35, 36, 44, 50] 0 xb_259_0 := zc_iconst xj_259 1 0 0 rfl rfl rfl (zc_istore_n xj_259 2 2 rfl rfl (zc_iconst xj_259 3 0 0 rfl rfl rfl (zc_istore_n xj_259 4 3 rfl rfl (xc_259_1))))
noncomputable def xm_259 : Lean.RArray (List zF) := .branch 35 (.branch 4 (.leaf xb_259_0) (.branch 13 (.leaf xb_259_1) (.leaf xb_259_2))) (.branch 44 (.branch 36 (.leaf xb_259_3) (.leaf xb_259_4)) (.branch 50 (.leaf xb_259_5) (.leaf xb_259_6)))
theorem xa_259 : zCdAll 259 [0, 4, 13, 35, 36, 44, 50] xm_259 := zAll2_ok (P := fun t => zCd 259 [0, 4, 13, 35, 36, 44, 50] t (xm_259.get t)) ⟨xc_259_0, xc_259_1, xc_259_2, xc_259_3, xc_259_4, xc_259_5, xc_259_6, trivial⟩
/-- SquareMeshModel.is -/
theorem xj_260 : ∀ pc, pI 260 pc = pJ_260 pc := fun _ => rfl
noncomputable def xb_260_14 : List zF := [zq_k 4294967295, zq_iret 0]
theorem xc_260_14 : zCd 260 [0, 68, 73, 78, 83, 89, 95, 100, 107, 112, 121, 126, 132, 138, 143] 143 xb_260_14 := zc_iconst xj_260 144 (-1) 4294967295 rfl rfl rfl (zc_ireturn0 xj_260 145 rfl rfl (trivial))
noncomputable def xb_260_13 : List zF := [zq_ald 0, zq_calli 300 0 9 3, zq_iret 0]
theorem xc_260_13 : zCd 260 [0, 68, 73, 78, 83, 89, 95, 100, 107, 112, 121, 126, 132, 138, 143] 138 xb_260_13 := zc_aload_n xj_260 139 0 rfl rfl (zc_invokevirtual1 xj_260 142 259 300 0 340 9 3 rfl rfl rfl (zc_ireturn0 xj_260 143 rfl rfl (trivial)))
noncomputable def xb_260_12 : List zF := [zq_ald 0, zq_k 0, zq_calli 298 1 9 7, zq_iret 0]
theorem xc_260_12 : zCd 260 [0, 68, 73, 78, 83, 89, 95, 100, 107, 112, 121, 126, 132, 138, 143] 132 xb_260_12 := zc_aload_n xj_260 133 0 rfl rfl (zc_iconst xj_260 134 0 0 rfl rfl rfl (zc_invokevirtual1 xj_260 137 255 298 1 338 9 7 rfl rfl rfl (zc_ireturn0 xj_260 138 rfl rfl (trivial))))
noncomputable def xb_260_11 : List zF := [zq_ald 0, zq_k 1, zq_calli 298 1 9 7, zq_iret 0]
theorem xc_260_11 : zCd 260 [0, 68, 73, 78, 83, 89, 95, 100, 107, 112, 121, 126, 132, 138, 143] 126 xb_260_11 := zc_aload_n xj_260 127 0 rfl rfl (zc_iconst xj_260 128 1 1 rfl rfl rfl (zc_invokevirtual1 xj_260 131 255 298 1 338 9 7 rfl rfl rfl (zc_ireturn0 xj_260 132 rfl rfl (trivial))))
noncomputable def xb_260_10 : List zF := [zq_ald 0, zq_calli 296 0 9 4, zq_iret 0]
theorem xc_260_10 : zCd 260 [0, 68, 73, 78, 83, 89, 95, 100, 107, 112, 121, 126, 132, 138, 143] 121 xb_260_10 := zc_aload_n xj_260 122 0 rfl rfl (zc_invokevirtual1 xj_260 125 252 296 0 334 9 4 rfl rfl rfl (zc_ireturn0 xj_260 126 rfl rfl (trivial)))
noncomputable def xb_260_9 : List zF := [zq_ald 0, zq_getf 9 0, zq_k 1763, zq_ild_ 0, zq_iret 0]
theorem xc_260_9 : zCd 260 [0, 68, 73, 78, 83, 89, 95, 100, 107, 112, 121, 126, 132, 138, 143] 112 xb_260_9 := zc_aload_n xj_260 113 0 rfl rfl (zc_getf xj_260 116 8 9 0 94 rfl rfl (zc_sipush xj_260 119 1763 1763 rfl rfl rfl (zc_iaload xj_260 120 rfl rfl (zc_ireturn0 xj_260 121 rfl rfl (trivial)))))
noncomputable def xb_260_8 : List zF := [zq_ald 0, zq_calli 319 0 9 4, zq_iret 0]
theorem xc_260_8 : zCd 260 [0, 68, 73, 78, 83, 89, 95, 100, 107, 112, 121, 126, 132, 138, 143] 107 xb_260_8 := zc_aload_n xj_260 108 0 rfl rfl (zc_invokevirtual1 xj_260 111 249 319 0 331 9 4 rfl rfl rfl (zc_ireturn0 xj_260 112 rfl rfl (trivial)))
noncomputable def xb_260_7 : List zF := [zq_ald 0, zq_getf 9 0, zq_k 2, zq_ild_ 0, zq_iret 0]
theorem xc_260_7 : zCd 260 [0, 68, 73, 78, 83, 89, 95, 100, 107, 112, 121, 126, 132, 138, 143] 100 xb_260_7 := zc_aload_n xj_260 101 0 rfl rfl (zc_getf xj_260 104 8 9 0 94 rfl rfl (zc_iconst xj_260 105 2 2 rfl rfl rfl (zc_iaload xj_260 106 rfl rfl (zc_ireturn0 xj_260 107 rfl rfl (trivial)))))
noncomputable def xb_260_6 : List zF := [zq_ald 0, zq_calli 289 0 9 6, zq_iret 0]
theorem xc_260_6 : zCd 260 [0, 68, 73, 78, 83, 89, 95, 100, 107, 112, 121, 126, 132, 138, 143] 95 xb_260_6 := zc_aload_n xj_260 96 0 rfl rfl (zc_invokevirtual1 xj_260 99 246 289 0 328 9 6 rfl rfl rfl (zc_ireturn0 xj_260 100 rfl rfl (trivial)))
noncomputable def xb_260_5 : List zF := [zq_ald 0, zq_k 2, zq_calli 259 1 9 5, zq_iret 0]
theorem xc_260_5 : zCd 260 [0, 68, 73, 78, 83, 89, 95, 100, 107, 112, 121, 126, 132, 138, 143] 89 xb_260_5 := zc_aload_n xj_260 90 0 rfl rfl (zc_iconst xj_260 91 2 2 rfl rfl rfl (zc_invokevirtual1 xj_260 94 243 259 1 327 9 5 rfl rfl rfl (zc_ireturn0 xj_260 95 rfl rfl (trivial))))
noncomputable def xb_260_4 : List zF := [zq_ald 0, zq_k 1, zq_calli 259 1 9 5, zq_iret 0]
theorem xc_260_4 : zCd 260 [0, 68, 73, 78, 83, 89, 95, 100, 107, 112, 121, 126, 132, 138, 143] 83 xb_260_4 := zc_aload_n xj_260 84 0 rfl rfl (zc_iconst xj_260 85 1 1 rfl rfl rfl (zc_invokevirtual1 xj_260 88 243 259 1 327 9 5 rfl rfl rfl (zc_ireturn0 xj_260 89 rfl rfl (trivial))))
noncomputable def xb_260_3 : List zF := [zq_ald 0, zq_calli 258 0 9 4, zq_iret 0]
theorem xc_260_3 : zCd 260 [0, 68, 73, 78, 83, 89, 95, 100, 107, 112, 121, 126, 132, 138, 143] 78 xb_260_3 := zc_aload_n xj_260 79 0 rfl rfl (zc_invokevirtual1 xj_260 82 240 258 0 326 9 4 rfl rfl rfl (zc_ireturn0 xj_260 83 rfl rfl (trivial)))
noncomputable def xb_260_2 : List zF := [zq_ald 0, zq_getf 9 4, zq_iret 0]
theorem xc_260_2 : zCd 260 [0, 68, 73, 78, 83, 89, 95, 100, 107, 112, 121, 126, 132, 138, 143] 73 xb_260_2 := zc_aload_n xj_260 74 0 rfl rfl (zc_getf xj_260 77 134 9 4 98 rfl rfl (zc_ireturn0 xj_260 78 rfl rfl (trivial)))
noncomputable def xb_260_1 : List zF := [zq_ald 0, zq_calli 257 0 9 3, zq_iret 0]
theorem xc_260_1 : zCd 260 [0, 68, 73, 78, 83, 89, 95, 100, 107, 112, 121, 126, 132, 138, 143] 68 xb_260_1 := zc_aload_n xj_260 69 0 rfl rfl (zc_invokevirtual1 xj_260 72 237 257 0 325 9 3 rfl rfl rfl (zc_ireturn0 xj_260 73 rfl rfl (trivial)))
noncomputable def xb_260_0 : List zF := [zq_ild 1, zq_tab 0 [68, 73, 78, 83, 89, 95, 100, 107, 112, 121, 126, 132, 138] 143]
theorem xc_260_0 : zCd 260 [0, 68, 73, 78, 83, 89, 95, 100, 107, 112, 121, 126, 132, 138, 143] 0 xb_260_0 := zc_iload_n xj_260 1 1 rfl rfl (zc_tab xj_260 2 142 0 12 #[67, 72, 77, 82, 88, 94, 99, 106, 111, 120, 125, 131, 137] 143 [68, 73, 78, 83, 89, 95, 100, 107, 112, 121, 126, 132, 138] 0 rfl rfl rfl rfl rfl (trivial))
noncomputable def xm_260 : Lean.RArray (List zF) := .branch 100 (.branch 78 (.branch 68 (.leaf xb_260_0) (.branch 73 (.leaf xb_260_1) (.leaf xb_260_2))) (.branch 89 (.branch 83 (.leaf xb_260_3) (.leaf xb_260_4)) (.branch 95 (.leaf xb_260_5) (.leaf xb_260_6)))) (.branch 126 (.branch 112 (.branch 107 (.leaf xb_260_7) (.leaf xb_260_8)) (.branch 121 (.leaf xb_260_9) (.leaf xb_260_10))) (.branch 138 (.branch 132 (.leaf xb_260_11) (.leaf xb_260_12)) (.branch 143 (.leaf xb_260_13) (.leaf xb_260_14))))
theorem xa_260 : zCdAll 260 [0, 68, 73, 78, 83, 89, 95, 100, 107, 112, 121, 126, 132, 138, 143] xm_260 := zAll2_ok (P := fun t => zCd 260 [0, 68, 73, 78, 83, 89, 95, 100, 107, 112, 121, 126, 132, 138, 143] t (xm_260.get t)) ⟨xc_260_0, xc_260_1, xc_260_2, xc_260_3, xc_260_4, xc_260_5, xc_260_6, xc_260_7, xc_260_8, xc_260_9, xc_260_10, xc_260_11, xc_260_12, xc_260_13, xc_260_14, trivial⟩
/-- SquareMeshModel.isOnBorder -/
theorem xj_261 : ∀ pc, pI 261 pc = pJ_261 pc := fun _ => rfl
noncomputable def xb_261_3 : List zF := [zq_iret 1]
theorem xc_261_3 : zCd 261 [0, 44, 48, 49] 49 xb_261_3 := zc_ireturn1 xj_261 50 rfl rfl (trivial)
noncomputable def xb_261_2 : List zF := zq_k 0 :: xb_261_3
theorem xc_261_2 : zCd 261 [0, 44, 48, 49] 48 xb_261_2 := zc_iconst xj_261 49 0 0 rfl rfl rfl (xc_261_3)
noncomputable def xb_261_1 : List zF := [zq_k 1, zq_goto 49]
theorem xc_261_1 : zCd 261 [0, 44, 48, 49] 44 xb_261_1 := zc_iconst xj_261 45 1 1 rfl rfl rfl (zc_goto xj_261 46 4 49 rfl rfl rfl (trivial))
noncomputable def xb_261_0 : List zF := zq_ald 0 :: zq_ild 1 :: zq_calli 192 1 9 2 :: zq_k 1000 :: zq_ic_eq 44 :: zq_ald 0 :: zq_ild 1 :: zq_calli 192 1 9 2 :: zq_k 4294966296 :: zq_ic_eq 44 :: zq_ald 0 :: zq_ild 1 :: zq_calli 193 1 9 2 :: zq_k 1000 :: zq_ic_eq 44 :: zq_ald 0 :: zq_ild 1 :: zq_calli 193 1 9 2 :: zq_k 4294966296 :: zq_ic_ne 48 :: xb_261_1
theorem xc_261_0 : zCd 261 [0, 44, 48, 49] 0 xb_261_0 := zc_aload_n xj_261 1 0 rfl rfl (zc_iload_n xj_261 2 1 rfl rfl (zc_invokevirtual1 xj_261 5 75 192 1 260 9 2 rfl rfl rfl (zc_sipush xj_261 8 1000 1000 rfl rfl rfl (zc_ic_eq xj_261 11 36 44 rfl rfl rfl (zc_aload_n xj_261 12 0 rfl rfl (zc_iload_n xj_261 13 1 rfl rfl (zc_invokevirtual1 xj_261 16 75 192 1 260 9 2 rfl rfl rfl (zc_sipush xj_261 19 (-1000) 4294966296 rfl rfl rfl (zc_ic_eq xj_261 22 25 44 rfl rfl rfl (zc_aload_n xj_261 23 0 rfl rfl (zc_iload_n xj_261 24 1 rfl rfl (zc_invokevirtual1 xj_261 27 79 193 1 261 9 2 rfl rfl rfl (zc_sipush xj_261 30 1000 1000 rfl rfl rfl (zc_ic_eq xj_261 33 14 44 rfl rfl rfl (zc_aload_n xj_261 34 0 rfl rfl (zc_iload_n xj_261 35 1 rfl rfl (zc_invokevirtual1 xj_261 38 79 193 1 261 9 2 rfl rfl rfl (zc_sipush xj_261 41 (-1000) 4294966296 rfl rfl rfl (zc_ic_ne xj_261 44 7 48 rfl rfl rfl (xc_261_1))))))))))))))))))))
noncomputable def xm_261 : Lean.RArray (List zF) := .branch 48 (.branch 44 (.leaf xb_261_0) (.leaf xb_261_1)) (.branch 49 (.leaf xb_261_2) (.leaf xb_261_3))
theorem xa_261 : zCdAll 261 [0, 44, 48, 49] xm_261 := zAll2_ok (P := fun t => zCd 261 [0, 44, 48, 49] t (xm_261.get t)) ⟨xc_261_0, xc_261_1, xc_261_2, xc_261_3, trivial⟩
/-- SquareMeshModel.of -/
theorem xj_262 : ∀ pc, pI 262 pc = pJ_262 pc := fun _ => rfl
noncomputable def xb_262_15 : List zF := [zq_ald 0, zq_ild 1, zq_calli 194 1 9 2, zq_iret 0]
theorem xc_262_15 : zCd 262 [0, 14, 18, 19, 37, 47, 48, 49, 84, 90, 96, 102, 108, 120, 121, 122] 122 xb_262_15 := zc_aload_n xj_262 123 0 rfl rfl (zc_iload_n xj_262 124 1 rfl rfl (zc_invokevirtual1 xj_262 127 266 194 1 344 9 2 rfl rfl rfl (zc_ireturn0 xj_262 128 rfl rfl (trivial))))
noncomputable def xb_262_14 : List zF := [zq_iret 0]
theorem xc_262_14 : zCd 262 [0, 14, 18, 19, 37, 47, 48, 49, 84, 90, 96, 102, 108, 120, 121, 122] 121 xb_262_14 := zc_ireturn0 xj_262 122 rfl rfl (trivial)
noncomputable def xb_262_13 : List zF := zq_k 0 :: xb_262_14
theorem xc_262_13 : zCd 262 [0, 14, 18, 19, 37, 47, 48, 49, 84, 90, 96, 102, 108, 120, 121, 122] 120 xb_262_13 := zc_iconst xj_262 121 0 0 rfl rfl rfl (xc_262_14)
noncomputable def xb_262_12 : List zF := [zq_ald 0, zq_ild 1, zq_calli 261 1 9 2, zq_if_eq 120, zq_k 1, zq_goto 121]
theorem xc_262_12 : zCd 262 [0, 14, 18, 19, 37, 47, 48, 49, 84, 90, 96, 102, 108, 120, 121, 122] 108 xb_262_12 := zc_aload_n xj_262 109 0 rfl rfl (zc_iload_n xj_262 110 1 rfl rfl (zc_invokevirtual1 xj_262 113 263 261 1 343 9 2 rfl rfl rfl (zc_if_eq xj_262 116 7 120 rfl rfl rfl (zc_iconst xj_262 117 1 1 rfl rfl rfl (zc_goto xj_262 118 4 121 rfl rfl rfl (trivial))))))
noncomputable def xb_262_11 : List zF := [zq_ald 0, zq_ild 1, zq_calli 233 1 9 4, zq_iret 0]
theorem xc_262_11 : zCd 262 [0, 14, 18, 19, 37, 47, 48, 49, 84, 90, 96, 102, 108, 120, 121, 122] 102 xb_262_11 := zc_aload_n xj_262 103 0 rfl rfl (zc_iload_n xj_262 104 1 rfl rfl (zc_invokevirtual1 xj_262 107 181 233 1 297 9 4 rfl rfl rfl (zc_ireturn0 xj_262 108 rfl rfl (trivial))))
noncomputable def xb_262_10 : List zF := [zq_ald 0, zq_ild 1, zq_calli 281 1 9 5, zq_iret 0]
theorem xc_262_10 : zCd 262 [0, 14, 18, 19, 37, 47, 48, 49, 84, 90, 96, 102, 108, 120, 121, 122] 96 xb_262_10 := zc_aload_n xj_262 97 0 rfl rfl (zc_iload_n xj_262 98 1 rfl rfl (zc_invokevirtual1 xj_262 101 228 281 1 319 9 5 rfl rfl rfl (zc_ireturn0 xj_262 102 rfl rfl (trivial))))
noncomputable def xb_262_9 : List zF := [zq_ald 0, zq_ild 1, zq_calli 193 1 9 2, zq_iret 0]
theorem xc_262_9 : zCd 262 [0, 14, 18, 19, 37, 47, 48, 49, 84, 90, 96, 102, 108, 120, 121, 122] 90 xb_262_9 := zc_aload_n xj_262 91 0 rfl rfl (zc_iload_n xj_262 92 1 rfl rfl (zc_invokevirtual1 xj_262 95 79 193 1 261 9 2 rfl rfl rfl (zc_ireturn0 xj_262 96 rfl rfl (trivial))))
noncomputable def xb_262_8 : List zF := [zq_ald 0, zq_ild 1, zq_calli 192 1 9 2, zq_iret 0]
theorem xc_262_8 : zCd 262 [0, 14, 18, 19, 37, 47, 48, 49, 84, 90, 96, 102, 108, 120, 121, 122] 84 xb_262_8 := zc_aload_n xj_262 85 0 rfl rfl (zc_iload_n xj_262 86 1 rfl rfl (zc_invokevirtual1 xj_262 89 75 192 1 260 9 2 rfl rfl rfl (zc_ireturn0 xj_262 90 rfl rfl (trivial))))
noncomputable def xb_262_7 : List zF := [zq_ild 2, zq_tab 0 [84, 90, 96, 102, 108] 122]
theorem xc_262_7 : zCd 262 [0, 14, 18, 19, 37, 47, 48, 49, 84, 90, 96, 102, 108, 120, 121, 122] 49 xb_262_7 := zc_iload_n xj_262 50 2 rfl rfl (zc_tab xj_262 51 72 0 4 #[34, 40, 46, 52, 58] 122 [84, 90, 96, 102, 108] 0 rfl rfl rfl rfl rfl (trivial))
noncomputable def xb_262_6 : List zF := [zq_iret 0]
theorem xc_262_6 : zCd 262 [0, 14, 18, 19, 37, 47, 48, 49, 84, 90, 96, 102, 108, 120, 121, 122] 48 xb_262_6 := zc_ireturn0 xj_262 49 rfl rfl (trivial)
noncomputable def xb_262_5 : List zF := zq_k 4294967295 :: xb_262_6
theorem xc_262_5 : zCd 262 [0, 14, 18, 19, 37, 47, 48, 49, 84, 90, 96, 102, 108, 120, 121, 122] 47 xb_262_5 := zc_iconst xj_262 48 (-1) 4294967295 rfl rfl rfl (xc_262_6)
noncomputable def xb_262_4 : List zF := [zq_ild 3, zq_if_eq 47, zq_k 4294867296, zq_goto 48]
theorem xc_262_4 : zCd 262 [0, 14, 18, 19, 37, 47, 48, 49, 84, 90, 96, 102, 108, 120, 121, 122] 37 xb_262_4 := zc_iload_n xj_262 38 3 rfl rfl (zc_if_eq xj_262 41 9 47 rfl rfl rfl (zc_ldc_w xj_262 44 262 4294867296 3 rfl rfl rfl (zc_goto xj_262 45 4 48 rfl rfl rfl (trivial))))
noncomputable def xb_262_3 : List zF := zq_ist 3 :: zq_ald 0 :: zq_ild 1 :: zq_calli 191 1 9 2 :: zq_if_eq 37 :: zq_ild 2 :: zq_k 0 :: zq_k 5 :: zq_calls 188 3 3 :: zq_if_ne 49 :: xb_262_4
theorem xc_262_3 : zCd 262 [0, 14, 18, 19, 37, 47, 48, 49, 84, 90, 96, 102, 108, 120, 121, 122] 19 xb_262_3 := zc_istore_n xj_262 20 3 rfl rfl (zc_aload_n xj_262 21 0 rfl rfl (zc_iload_n xj_262 22 1 rfl rfl (zc_invokevirtual1 xj_262 25 71 191 1 264 9 2 rfl rfl rfl (zc_if_eq xj_262 28 12 37 rfl rfl rfl (zc_iload_n xj_262 29 2 rfl rfl (zc_iconst xj_262 30 0 0 rfl rfl rfl (zc_iconst xj_262 31 5 5 rfl rfl rfl (zc_invokestatic2 xj_262 34 67 188 3 265 0 3 rfl rfl rfl rfl (zc_if_ne xj_262 37 15 49 rfl rfl rfl (xc_262_4))))))))))
noncomputable def xb_262_2 : List zF := zq_k 0 :: xb_262_3
theorem xc_262_2 : zCd 262 [0, 14, 18, 19, 37, 47, 48, 49, 84, 90, 96, 102, 108, 120, 121, 122] 18 xb_262_2 := zc_iconst xj_262 19 0 0 rfl rfl rfl (xc_262_3)
noncomputable def xb_262_1 : List zF := [zq_k 1, zq_goto 19]
theorem xc_262_1 : zCd 262 [0, 14, 18, 19, 37, 47, 48, 49, 84, 90, 96, 102, 108, 120, 121, 122] 14 xb_262_1 := zc_iconst xj_262 15 1 1 rfl rfl rfl (zc_goto xj_262 16 4 19 rfl rfl rfl (trivial))
noncomputable def xb_262_0 : List zF := zq_ild 2 :: zq_if_eq 14 :: zq_ild 2 :: zq_k 1 :: zq_ic_eq 14 :: zq_ild 2 :: zq_k 5 :: zq_ic_ne 18 :: xb_262_1
theorem xc_262_0 : zCd 262 [0, 14, 18, 19, 37, 47, 48, 49, 84, 90, 96, 102, 108, 120, 121, 122] 0 xb_262_0 := zc_iload_n xj_262 1 2 rfl rfl (zc_if_eq xj_262 4 13 14 rfl rfl rfl (zc_iload_n xj_262 5 2 rfl rfl (zc_iconst xj_262 6 1 1 rfl rfl rfl (zc_ic_eq xj_262 9 8 14 rfl rfl rfl (zc_iload_n xj_262 10 2 rfl rfl (zc_iconst xj_262 11 5 5 rfl rfl rfl (zc_ic_ne xj_262 14 7 18 rfl rfl rfl (xc_262_1))))))))
noncomputable def xm_262 : Lean.RArray (List zF) := .branch 84 (.branch 37 (.branch 18 (.branch 14 (.leaf xb_262_0) (.leaf xb_262_1)) (.branch 19 (.leaf xb_262_2) (.leaf xb_262_3))) (.branch 48 (.branch 47 (.leaf xb_262_4) (.leaf xb_262_5)) (.branch 49 (.leaf xb_262_6) (.leaf xb_262_7)))) (.branch 108 (.branch 96 (.branch 90 (.leaf xb_262_8) (.leaf xb_262_9)) (.branch 102 (.leaf xb_262_10) (.leaf xb_262_11))) (.branch 121 (.branch 120 (.leaf xb_262_12) (.leaf xb_262_13)) (.branch 122 (.leaf xb_262_14) (.leaf xb_262_15))))
theorem xa_262 : zCdAll 262 [0, 14, 18, 19, 37, 47, 48, 49, 84, 90, 96, 102, 108, 120, 121, 122] xm_262 := zAll2_ok (P := fun t => zCd 262 [0, 14, 18, 19, 37, 47, 48, 49, 84, 90, 96, 102, 108, 120, 121, 122] t (xm_262.get t)) ⟨xc_262_0, xc_262_1, xc_262_2, xc_262_3, xc_262_4, xc_262_5, xc_262_6, xc_262_7, xc_262_8, xc_262_9, xc_262_10, xc_262_11, xc_262_12, xc_262_13, xc_262_14, xc_262_15, trivial⟩
/-- SquareMeshModel.at -/
theorem xj_263 : ∀ pc, pI 263 pc = pJ_263 pc := fun _ => rfl
noncomputable def xb_263_0 : List zF := [zq_ald 0, zq_ild 1, zq_ild 2, zq_calli 198 2 9 4, zq_iret 0]
theorem xc_263_0 : zCd 263 [0] 0 xb_263_0 := zc_aload_n xj_263 1 0 rfl rfl (zc_iload_n xj_263 2 1 rfl rfl (zc_iload_n xj_263 3 2 rfl rfl (zc_invokevirtual1 xj_263 6 169 198 2 291 9 4 rfl rfl rfl (zc_ireturn0 xj_263 7 rfl rfl (trivial)))))
noncomputable def xm_263 : Lean.RArray (List zF) := .leaf xb_263_0
theorem xa_263 : zCdAll 263 [0] xm_263 := zAll2_ok (P := fun t => zCd 263 [0] t (xm_263.get t)) ⟨xc_263_0, trivial⟩
/-- SquareMeshModel.isTriangle -/
theorem xj_264 : ∀ pc, pI 264 pc = pJ_264 pc := fun _ => rfl
noncomputable def xb_264_0 : List zF := [zq_ild 1, zq_k 0, zq_ald 0, zq_getf 9 4, zq_k 1, zq_sub, zq_calls 188 3 3, zq_iret 1]
theorem xc_264_0 : zCd 264 [0] 0 xb_264_0 := zc_iload_n xj_264 1 1 rfl rfl (zc_iconst xj_264 2 0 0 rfl rfl rfl (zc_aload_n xj_264 3 0 rfl rfl (zc_getf xj_264 6 134 9 4 98 rfl rfl (zc_iconst xj_264 7 1 1 rfl rfl rfl (zc_isub xj_264 8 rfl rfl (zc_invokestatic2 xj_264 11 67 188 3 265 0 3 rfl rfl rfl rfl (zc_ireturn1 xj_264 12 rfl rfl (trivial))))))))
noncomputable def xm_264 : Lean.RArray (List zF) := .leaf xb_264_0
theorem xa_264 : zCdAll 264 [0] xm_264 := zAll2_ok (P := fun t => zCd 264 [0] t (xm_264.get t)) ⟨xc_264_0, trivial⟩
/-- SquareMeshModel.corner -/
theorem xj_265 : ∀ pc, pI 265 pc = pJ_265 pc := fun _ => rfl
noncomputable def xb_265_2 : List zF := [zq_iret 0]
theorem xc_265_2 : zCd 265 [0, 26, 27] 27 xb_265_2 := zc_ireturn0 xj_265 28 rfl rfl (trivial)
noncomputable def xb_265_1 : List zF := zq_k 4294967295 :: xb_265_2
theorem xc_265_1 : zCd 265 [0, 26, 27] 26 xb_265_1 := zc_iconst xj_265 27 (-1) 4294967295 rfl rfl rfl (xc_265_2)
noncomputable def xb_265_0 : List zF := [zq_ald 0, zq_ild 1, zq_calli 264 1 9 2, zq_if_eq 26, zq_ild 2, zq_k 0, zq_k 2, zq_calls 188 3 3, zq_if_eq 26, zq_ald 0, zq_ild 1, zq_ild 2, zq_calli 247 2 9 3, zq_goto 27]
theorem xc_265_0 : zCd 265 [0, 26, 27] 0 xb_265_0 := zc_aload_n xj_265 1 0 rfl rfl (zc_iload_n xj_265 2 1 rfl rfl (zc_invokevirtual1 xj_265 5 269 264 1 347 9 2 rfl rfl rfl (zc_if_eq xj_265 8 21 26 rfl rfl rfl (zc_iload_n xj_265 9 2 rfl rfl (zc_iconst xj_265 10 0 0 rfl rfl rfl (zc_iconst xj_265 11 2 2 rfl rfl rfl (zc_invokestatic2 xj_265 14 67 188 3 265 0 3 rfl rfl rfl rfl (zc_if_eq xj_265 17 12 26 rfl rfl rfl (zc_aload_n xj_265 18 0 rfl rfl (zc_iload_n xj_265 19 1 rfl rfl (zc_iload_n xj_265 20 2 rfl rfl (zc_invokevirtual1 xj_265 23 206 247 2 313 9 3 rfl rfl rfl (zc_goto xj_265 24 4 27 rfl rfl rfl (trivial))))))))))))))
noncomputable def xm_265 : Lean.RArray (List zF) := .branch 26 (.leaf xb_265_0) (.branch 27 (.leaf xb_265_1) (.leaf xb_265_2))
theorem xa_265 : zCdAll 265 [0, 26, 27] xm_265 := zAll2_ok (P := fun t => zCd 265 [0, 26, 27] t (xm_265.get t)) ⟨xc_265_0, xc_265_1, xc_265_2, trivial⟩
/-- SquareMeshModel.beyondOf -/
theorem xj_266 : ∀ pc, pI 266 pc = pJ_266 pc := fun _ => rfl
noncomputable def xb_266_0 : List zF := [zq_ald 0, zq_ald 0, zq_ild 1, zq_ild 2, zq_k 1, zq_add, zq_calli 247 2 9 3, zq_ald 0, zq_ild 1, zq_ild 2, zq_calli 247 2 9 3, zq_calli 212 2 9 3, zq_iret 0]
theorem xc_266_0 : zCd 266 [0] 0 xb_266_0 := zc_aload_n xj_266 1 0 rfl rfl (zc_aload_n xj_266 2 0 rfl rfl (zc_iload_n xj_266 3 1 rfl rfl (zc_iload_n xj_266 4 2 rfl rfl (zc_iconst xj_266 5 1 1 rfl rfl rfl (zc_iadd xj_266 6 rfl rfl (zc_invokevirtual1 xj_266 9 206 247 2 313 9 3 rfl rfl rfl (zc_aload_n xj_266 10 0 rfl rfl (zc_iload_n xj_266 11 1 rfl rfl (zc_iload_n xj_266 12 2 rfl rfl (zc_invokevirtual1 xj_266 15 206 247 2 313 9 3 rfl rfl rfl (zc_invokevirtual1 xj_266 18 118 212 2 262 9 3 rfl rfl rfl (zc_ireturn0 xj_266 19 rfl rfl (trivial)))))))))))))
noncomputable def xm_266 : Lean.RArray (List zF) := .leaf xb_266_0
theorem xa_266 : zCdAll 266 [0] xm_266 := zAll2_ok (P := fun t => zCd 266 [0] t (xm_266.get t)) ⟨xc_266_0, trivial⟩
/-- SquareMeshModel.beyond -/
theorem xj_267 : ∀ pc, pI 267 pc = pJ_267 pc := fun _ => rfl
noncomputable def xb_267_2 : List zF := [zq_iret 0]
theorem xc_267_2 : zCd 267 [0, 26, 27] 27 xb_267_2 := zc_ireturn0 xj_267 28 rfl rfl (trivial)
noncomputable def xb_267_1 : List zF := zq_k 4294967295 :: xb_267_2
theorem xc_267_1 : zCd 267 [0, 26, 27] 26 xb_267_1 := zc_iconst xj_267 27 (-1) 4294967295 rfl rfl rfl (xc_267_2)
noncomputable def xb_267_0 : List zF := [zq_ald 0, zq_ild 1, zq_calli 264 1 9 2, zq_if_eq 26, zq_ild 2, zq_k 0, zq_k 2, zq_calls 188 3 3, zq_if_eq 26, zq_ald 0, zq_ild 1, zq_ild 2, zq_calli 266 2 9 3, zq_goto 27]
theorem xc_267_0 : zCd 267 [0, 26, 27] 0 xb_267_0 := zc_aload_n xj_267 1 0 rfl rfl (zc_iload_n xj_267 2 1 rfl rfl (zc_invokevirtual1 xj_267 5 269 264 1 347 9 2 rfl rfl rfl (zc_if_eq xj_267 8 21 26 rfl rfl rfl (zc_iload_n xj_267 9 2 rfl rfl (zc_iconst xj_267 10 0 0 rfl rfl rfl (zc_iconst xj_267 11 2 2 rfl rfl rfl (zc_invokestatic2 xj_267 14 67 188 3 265 0 3 rfl rfl rfl rfl (zc_if_eq xj_267 17 12 26 rfl rfl rfl (zc_aload_n xj_267 18 0 rfl rfl (zc_iload_n xj_267 19 1 rfl rfl (zc_iload_n xj_267 20 2 rfl rfl (zc_invokevirtual1 xj_267 23 272 266 2 330 9 3 rfl rfl rfl (zc_goto xj_267 24 4 27 rfl rfl rfl (trivial))))))))))))))
noncomputable def xm_267 : Lean.RArray (List zF) := .branch 26 (.leaf xb_267_0) (.branch 27 (.leaf xb_267_1) (.leaf xb_267_2))
theorem xa_267 : zCdAll 267 [0, 26, 27] xm_267 := zAll2_ok (P := fun t => zCd 267 [0, 26, 27] t (xm_267.get t)) ⟨xc_267_0, xc_267_1, xc_267_2, trivial⟩
/-- SquareMeshModel.area -/
theorem xj_268 : ∀ pc, pI 268 pc = pJ_268 pc := fun _ => rfl
noncomputable def xb_268_2 : List zF := [zq_iret 0]
theorem xc_268_2 : zCd 268 [0, 16, 17] 17 xb_268_2 := zc_ireturn0 xj_268 18 rfl rfl (trivial)
noncomputable def xb_268_1 : List zF := zq_k 4294967295 :: xb_268_2
theorem xc_268_1 : zCd 268 [0, 16, 17] 16 xb_268_1 := zc_iconst xj_268 17 (-1) 4294967295 rfl rfl rfl (xc_268_2)
noncomputable def xb_268_0 : List zF := [zq_ald 0, zq_ild 1, zq_calli 264 1 9 2, zq_if_eq 16, zq_ald 0, zq_ild 1, zq_calli 250 1 9 2, zq_goto 17]
theorem xc_268_0 : zCd 268 [0, 16, 17] 0 xb_268_0 := zc_aload_n xj_268 1 0 rfl rfl (zc_iload_n xj_268 2 1 rfl rfl (zc_invokevirtual1 xj_268 5 269 264 1 347 9 2 rfl rfl rfl (zc_if_eq xj_268 8 11 16 rfl rfl rfl (zc_aload_n xj_268 9 0 rfl rfl (zc_iload_n xj_268 10 1 rfl rfl (zc_invokevirtual1 xj_268 13 212 250 1 312 9 2 rfl rfl rfl (zc_goto xj_268 14 4 17 rfl rfl rfl (trivial))))))))
noncomputable def xm_268 : Lean.RArray (List zF) := .branch 16 (.leaf xb_268_0) (.branch 17 (.leaf xb_268_1) (.leaf xb_268_2))
theorem xa_268 : zCdAll 268 [0, 16, 17] xm_268 := zAll2_ok (P := fun t => zCd 268 [0, 16, 17] t (xm_268.get t)) ⟨xc_268_0, xc_268_1, xc_268_2, trivial⟩
/-- SquareMeshModel.triangle -/
theorem xj_269 : ∀ pc, pI 269 pc = pJ_269 pc := fun _ => rfl
noncomputable def xb_269_5 : List zF := [zq_k 4294967295, zq_iret 0]
theorem xc_269_5 : zCd 269 [0, 15, 17, 20, 62, 68] 68 xb_269_5 := zc_iconst xj_269 69 (-1) 4294967295 rfl rfl rfl (zc_ireturn0 xj_269 70 rfl rfl (trivial))
noncomputable def xb_269_4 : List zF := [zq_inc 4 1, zq_goto 20]
theorem xc_269_4 : zCd 269 [0, 15, 17, 20, 62, 68] 62 xb_269_4 := zc_iinc xj_269 65 4 1 1 rfl rfl rfl (zc_goto xj_269 66 (-45) 20 rfl rfl rfl (trivial))
noncomputable def xb_269_3 : List zF := [zq_ild 4, zq_ald 0, zq_getf 9 4, zq_ic_ge 68, zq_ald 0, zq_ild 4, zq_ild 1, zq_calli 270 2 9 3, zq_if_eq 62, zq_ald 0, zq_ild 4, zq_ild 2, zq_calli 270 2 9 3, zq_if_eq 62, zq_ald 0, zq_ild 4, zq_ild 3, zq_calli 270 2 9 3, zq_if_eq 62, zq_ild 4, zq_iret 0]
theorem xc_269_3 : zCd 269 [0, 15, 17, 20, 62, 68] 20 xb_269_3 := zc_iload xj_269 22 4 rfl rfl (zc_aload_n xj_269 23 0 rfl rfl (zc_getf xj_269 26 134 9 4 98 rfl rfl (zc_ic_ge xj_269 29 42 68 rfl rfl rfl (zc_aload_n xj_269 30 0 rfl rfl (zc_iload xj_269 32 4 rfl rfl (zc_iload_n xj_269 33 1 rfl rfl (zc_invokevirtual1 xj_269 36 275 270 2 351 9 3 rfl rfl rfl (zc_if_eq xj_269 39 26 62 rfl rfl rfl (zc_aload_n xj_269 40 0 rfl rfl (zc_iload xj_269 42 4 rfl rfl (zc_iload_n xj_269 43 2 rfl rfl (zc_invokevirtual1 xj_269 46 275 270 2 351 9 3 rfl rfl rfl (zc_if_eq xj_269 49 16 62 rfl rfl rfl (zc_aload_n xj_269 50 0 rfl rfl (zc_iload xj_269 52 4 rfl rfl (zc_iload_n xj_269 53 3 rfl rfl (zc_invokevirtual1 xj_269 56 275 270 2 351 9 3 rfl rfl rfl (zc_if_eq xj_269 59 6 62 rfl rfl rfl (zc_iload xj_269 61 4 rfl rfl (zc_ireturn0 xj_269 62 rfl rfl (trivial)))))))))))))))))))))
noncomputable def xb_269_2 : List zF := zq_k 0 :: zq_ist 4 :: xb_269_3
theorem xc_269_2 : zCd 269 [0, 15, 17, 20, 62, 68] 17 xb_269_2 := zc_iconst xj_269 18 0 0 rfl rfl rfl (zc_istore xj_269 20 4 rfl rfl (xc_269_3))
noncomputable def xb_269_1 : List zF := [zq_k 4294967295, zq_iret 0]
theorem xc_269_1 : zCd 269 [0, 15, 17, 20, 62, 68] 15 xb_269_1 := zc_iconst xj_269 16 (-1) 4294967295 rfl rfl rfl (zc_ireturn0 xj_269 17 rfl rfl (trivial))
noncomputable def xb_269_0 : List zF := zq_ild 1 :: zq_ild 2 :: zq_ic_eq 15 :: zq_ild 2 :: zq_ild 3 :: zq_ic_eq 15 :: zq_ild 1 :: zq_ild 3 :: zq_ic_ne 17 :: xb_269_1
theorem xc_269_0 : zCd 269 [0, 15, 17, 20, 62, 68] 0 xb_269_0 := zc_iload_n xj_269 1 1 rfl rfl (zc_iload_n xj_269 2 2 rfl rfl (zc_ic_eq xj_269 5 13 15 rfl rfl rfl (zc_iload_n xj_269 6 2 rfl rfl (zc_iload_n xj_269 7 3 rfl rfl (zc_ic_eq xj_269 10 8 15 rfl rfl rfl (zc_iload_n xj_269 11 1 rfl rfl (zc_iload_n xj_269 12 3 rfl rfl (zc_ic_ne xj_269 15 5 17 rfl rfl rfl (xc_269_1)))))))))
noncomputable def xm_269 : Lean.RArray (List zF) := .branch 20 (.branch 15 (.leaf xb_269_0) (.branch 17 (.leaf xb_269_1) (.leaf xb_269_2))) (.branch 62 (.leaf xb_269_3) (.branch 68 (.leaf xb_269_4) (.leaf xb_269_5)))
theorem xa_269 : zCdAll 269 [0, 15, 17, 20, 62, 68] xm_269 := zAll2_ok (P := fun t => zCd 269 [0, 15, 17, 20, 62, 68] t (xm_269.get t)) ⟨xc_269_0, xc_269_1, xc_269_2, xc_269_3, xc_269_4, xc_269_5, trivial⟩
/-- SquareMeshModel.hasCorner -/
theorem xj_270 : ∀ pc, pI 270 pc = pJ_270 pc := fun _ => rfl
noncomputable def xb_270_3 : List zF := [zq_iret 1]
theorem xc_270_3 : zCd 270 [0, 30, 34, 35] 35 xb_270_3 := zc_ireturn1 xj_270 36 rfl rfl (trivial)
noncomputable def xb_270_2 : List zF := zq_k 0 :: xb_270_3
theorem xc_270_2 : zCd 270 [0, 30, 34, 35] 34 xb_270_2 := zc_iconst xj_270 35 0 0 rfl rfl rfl (xc_270_3)
noncomputable def xb_270_1 : List zF := [zq_k 1, zq_goto 35]
theorem xc_270_1 : zCd 270 [0, 30, 34, 35] 30 xb_270_1 := zc_iconst xj_270 31 1 1 rfl rfl rfl (zc_goto xj_270 32 4 35 rfl rfl rfl (trivial))
noncomputable def xb_270_0 : List zF := zq_ald 0 :: zq_ild 1 :: zq_k 0 :: zq_calli 247 2 9 3 :: zq_ild 2 :: zq_ic_eq 30 :: zq_ald 0 :: zq_ild 1 :: zq_k 1 :: zq_calli 247 2 9 3 :: zq_ild 2 :: zq_ic_eq 30 :: zq_ald 0 :: zq_ild 1 :: zq_k 2 :: zq_calli 247 2 9 3 :: zq_ild 2 :: zq_ic_ne 34 :: xb_270_1
theorem xc_270_0 : zCd 270 [0, 30, 34, 35] 0 xb_270_0 := zc_aload_n xj_270 1 0 rfl rfl (zc_iload_n xj_270 2 1 rfl rfl (zc_iconst xj_270 3 0 0 rfl rfl rfl (zc_invokevirtual1 xj_270 6 206 247 2 313 9 3 rfl rfl rfl (zc_iload_n xj_270 7 2 rfl rfl (zc_ic_eq xj_270 10 23 30 rfl rfl rfl (zc_aload_n xj_270 11 0 rfl rfl (zc_iload_n xj_270 12 1 rfl rfl (zc_iconst xj_270 13 1 1 rfl rfl rfl (zc_invokevirtual1 xj_270 16 206 247 2 313 9 3 rfl rfl rfl (zc_iload_n xj_270 17 2 rfl rfl (zc_ic_eq xj_270 20 13 30 rfl rfl rfl (zc_aload_n xj_270 21 0 rfl rfl (zc_iload_n xj_270 22 1 rfl rfl (zc_iconst xj_270 23 2 2 rfl rfl rfl (zc_invokevirtual1 xj_270 26 206 247 2 313 9 3 rfl rfl rfl (zc_iload_n xj_270 27 2 rfl rfl (zc_ic_ne xj_270 30 7 34 rfl rfl rfl (xc_270_1))))))))))))))))))
noncomputable def xm_270 : Lean.RArray (List zF) := .branch 34 (.branch 30 (.leaf xb_270_0) (.leaf xb_270_1)) (.branch 35 (.leaf xb_270_2) (.leaf xb_270_3))
theorem xa_270 : zCdAll 270 [0, 30, 34, 35] xm_270 := zAll2_ok (P := fun t => zCd 270 [0, 30, 34, 35] t (xm_270.get t)) ⟨xc_270_0, xc_270_1, xc_270_2, xc_270_3, trivial⟩
/-- SquareMeshModel.isEdge -/
theorem xj_271 : ∀ pc, pI 271 pc = pJ_271 pc := fun _ => rfl
noncomputable def xb_271_2 : List zF := [zq_iret 1]
theorem xc_271_2 : zCd 271 [0, 22, 23] 23 xb_271_2 := zc_ireturn1 xj_271 24 rfl rfl (trivial)
noncomputable def xb_271_1 : List zF := zq_k 0 :: xb_271_2
theorem xc_271_1 : zCd 271 [0, 22, 23] 22 xb_271_1 := zc_iconst xj_271 23 0 0 rfl rfl rfl (xc_271_2)
noncomputable def xb_271_0 : List zF := [zq_ald 0, zq_ild 1, zq_ild 2, zq_calli 239 2 9 3, zq_if_eq 22, zq_ald 0, zq_ild 1, zq_ild 2, zq_calli 213 2 9 3, zq_if_eq 22, zq_k 1, zq_goto 23]
theorem xc_271_0 : zCd 271 [0, 22, 23] 0 xb_271_0 := zc_aload_n xj_271 1 0 rfl rfl (zc_iload_n xj_271 2 1 rfl rfl (zc_iload_n xj_271 3 2 rfl rfl (zc_invokevirtual1 xj_271 6 194 239 2 303 9 3 rfl rfl rfl (zc_if_eq xj_271 9 16 22 rfl rfl rfl (zc_aload_n xj_271 10 0 rfl rfl (zc_iload_n xj_271 11 1 rfl rfl (zc_iload_n xj_271 12 2 rfl rfl (zc_invokevirtual1 xj_271 15 234 213 2 321 9 3 rfl rfl rfl (zc_if_eq xj_271 18 7 22 rfl rfl rfl (zc_iconst xj_271 19 1 1 rfl rfl rfl (zc_goto xj_271 20 4 23 rfl rfl rfl (trivial))))))))))))
noncomputable def xm_271 : Lean.RArray (List zF) := .branch 22 (.leaf xb_271_0) (.branch 23 (.leaf xb_271_1) (.leaf xb_271_2))
theorem xa_271 : zCdAll 271 [0, 22, 23] xm_271 := zAll2_ok (P := fun t => zCd 271 [0, 22, 23] t (xm_271.get t)) ⟨xc_271_0, xc_271_1, xc_271_2, trivial⟩
/-- SquareMeshModel.isFixed -/
theorem xj_272 : ∀ pc, pI 272 pc = pJ_272 pc := fun _ => rfl
noncomputable def xb_272_2 : List zF := [zq_iret 1]
theorem xc_272_2 : zCd 272 [0, 22, 23] 23 xb_272_2 := zc_ireturn1 xj_272 24 rfl rfl (trivial)
noncomputable def xb_272_1 : List zF := zq_k 0 :: xb_272_2
theorem xc_272_1 : zCd 272 [0, 22, 23] 22 xb_272_1 := zc_iconst xj_272 23 0 0 rfl rfl rfl (xc_272_2)
noncomputable def xb_272_0 : List zF := [zq_ald 0, zq_ild 1, zq_ild 2, zq_calli 239 2 9 3, zq_if_eq 22, zq_ald 0, zq_ild 1, zq_ild 2, zq_calli 196 2 9 3, zq_if_eq 22, zq_k 1, zq_goto 23]
theorem xc_272_0 : zCd 272 [0, 22, 23] 0 xb_272_0 := zc_aload_n xj_272 1 0 rfl rfl (zc_iload_n xj_272 2 1 rfl rfl (zc_iload_n xj_272 3 2 rfl rfl (zc_invokevirtual1 xj_272 6 194 239 2 303 9 3 rfl rfl rfl (zc_if_eq xj_272 9 16 22 rfl rfl rfl (zc_aload_n xj_272 10 0 rfl rfl (zc_iload_n xj_272 11 1 rfl rfl (zc_iload_n xj_272 12 2 rfl rfl (zc_invokevirtual1 xj_272 15 102 196 2 258 9 3 rfl rfl rfl (zc_if_eq xj_272 18 7 22 rfl rfl rfl (zc_iconst xj_272 19 1 1 rfl rfl rfl (zc_goto xj_272 20 4 23 rfl rfl rfl (trivial))))))))))))
noncomputable def xm_272 : Lean.RArray (List zF) := .branch 22 (.leaf xb_272_0) (.branch 23 (.leaf xb_272_1) (.leaf xb_272_2))
theorem xa_272 : zCdAll 272 [0, 22, 23] xm_272 := zAll2_ok (P := fun t => zCd 272 [0, 22, 23] t (xm_272.get t)) ⟨xc_272_0, xc_272_1, xc_272_2, trivial⟩
/-- SquareMeshModel.holds -/
theorem xj_273 : ∀ pc, pI 273 pc = pJ_273 pc := fun _ => rfl
noncomputable def xb_273_3 : List zF := [zq_k 1, zq_iret 1]
theorem xc_273_3 : zCd 273 [0, 3, 36, 42] 42 xb_273_3 := zc_iconst xj_273 43 1 1 rfl rfl rfl (zc_ireturn1 xj_273 44 rfl rfl (trivial))
noncomputable def xb_273_2 : List zF := [zq_inc 4 1, zq_goto 3]
theorem xc_273_2 : zCd 273 [0, 3, 36, 42] 36 xb_273_2 := zc_iinc xj_273 39 4 1 1 rfl rfl rfl (zc_goto xj_273 40 (-36) 3 rfl rfl rfl (trivial))
noncomputable def xb_273_1 : List zF := [zq_ild 4, zq_k 3, zq_ic_ge 42, zq_ald 0, zq_ald 0, zq_ild 1, zq_ild 4, zq_calli 247 2 9 3, zq_ald 0, zq_ild 1, zq_ild 4, zq_k 1, zq_add, zq_calli 247 2 9 3, zq_ild 2, zq_ild 3, zq_calli 201 4 9 5, zq_if_ge 36, zq_k 0, zq_iret 1]
theorem xc_273_1 : zCd 273 [0, 3, 36, 42] 3 xb_273_1 := zc_iload xj_273 5 4 rfl rfl (zc_iconst xj_273 6 3 3 rfl rfl rfl (zc_ic_ge xj_273 9 36 42 rfl rfl rfl (zc_aload_n xj_273 10 0 rfl rfl (zc_aload_n xj_273 11 0 rfl rfl (zc_iload_n xj_273 12 1 rfl rfl (zc_iload xj_273 14 4 rfl rfl (zc_invokevirtual1 xj_273 17 206 247 2 313 9 3 rfl rfl rfl (zc_aload_n xj_273 18 0 rfl rfl (zc_iload_n xj_273 19 1 rfl rfl (zc_iload xj_273 21 4 rfl rfl (zc_iconst xj_273 22 1 1 rfl rfl rfl (zc_iadd xj_273 23 rfl rfl (zc_invokevirtual1 xj_273 26 206 247 2 313 9 3 rfl rfl rfl (zc_iload_n xj_273 27 2 rfl rfl (zc_iload_n xj_273 28 3 rfl rfl (zc_invokevirtual1 xj_273 31 82 201 4 259 9 5 rfl rfl rfl (zc_if_ge xj_273 34 5 36 rfl rfl rfl (zc_iconst xj_273 35 0 0 rfl rfl rfl (zc_ireturn1 xj_273 36 rfl rfl (trivial))))))))))))))))))))
noncomputable def xb_273_0 : List zF := zq_k 0 :: zq_ist 4 :: xb_273_1
theorem xc_273_0 : zCd 273 [0, 3, 36, 42] 0 xb_273_0 := zc_iconst xj_273 1 0 0 rfl rfl rfl (zc_istore xj_273 3 4 rfl rfl (xc_273_1))
noncomputable def xm_273 : Lean.RArray (List zF) := .branch 36 (.branch 3 (.leaf xb_273_0) (.leaf xb_273_1)) (.branch 42 (.leaf xb_273_2) (.leaf xb_273_3))
theorem xa_273 : zCdAll 273 [0, 3, 36, 42] xm_273 := zAll2_ok (P := fun t => zCd 273 [0, 3, 36, 42] t (xm_273.get t)) ⟨xc_273_0, xc_273_1, xc_273_2, xc_273_3, trivial⟩
/-- SquareMeshModel.inNow -/
theorem xj_274 : ∀ pc, pI 274 pc = pJ_274 pc := fun _ => rfl
noncomputable def xb_274_2 : List zF := [zq_ild 3, zq_iret 0]
theorem xc_274_2 : zCd 274 [0, 2, 18] 18 xb_274_2 := zc_iload_n xj_274 19 3 rfl rfl (zc_ireturn0 xj_274 20 rfl rfl (trivial))
noncomputable def xb_274_1 : List zF := [zq_ald 0, zq_ild 3, zq_ild 1, zq_ild 2, zq_calli 273 3 9 5, zq_if_ne 18, zq_inc 3 1, zq_goto 2]
theorem xc_274_1 : zCd 274 [0, 2, 18] 2 xb_274_1 := zc_aload_n xj_274 3 0 rfl rfl (zc_iload_n xj_274 4 3 rfl rfl (zc_iload_n xj_274 5 1 rfl rfl (zc_iload_n xj_274 6 2 rfl rfl (zc_invokevirtual1 xj_274 9 278 273 3 337 9 5 rfl rfl rfl (zc_if_ne xj_274 12 9 18 rfl rfl rfl (zc_iinc xj_274 15 3 1 1 rfl rfl rfl (zc_goto xj_274 16 (-13) 2 rfl rfl rfl (trivial))))))))
noncomputable def xb_274_0 : List zF := zq_k 0 :: zq_ist 3 :: xb_274_1
theorem xc_274_0 : zCd 274 [0, 2, 18] 0 xb_274_0 := zc_iconst xj_274 1 0 0 rfl rfl rfl (zc_istore_n xj_274 2 3 rfl rfl (xc_274_1))
noncomputable def xm_274 : Lean.RArray (List zF) := .branch 2 (.leaf xb_274_0) (.branch 18 (.leaf xb_274_1) (.leaf xb_274_2))
theorem xa_274 : zCdAll 274 [0, 2, 18] xm_274 := zAll2_ok (P := fun t => zCd 274 [0, 2, 18] t (xm_274.get t)) ⟨xc_274_0, xc_274_1, xc_274_2, trivial⟩
/-- SquareMeshModel.in -/
theorem xj_275 : ∀ pc, pI 275 pc = pJ_275 pc := fun _ => rfl
noncomputable def xb_275_2 : List zF := [zq_iret 0]
theorem xc_275_2 : zCd 275 [0, 17, 18] 18 xb_275_2 := zc_ireturn0 xj_275 19 rfl rfl (trivial)
noncomputable def xb_275_1 : List zF := zq_k 4294967295 :: xb_275_2
theorem xc_275_1 : zCd 275 [0, 17, 18] 17 xb_275_1 := zc_iconst xj_275 18 (-1) 4294967295 rfl rfl rfl (xc_275_2)
noncomputable def xb_275_0 : List zF := [zq_ild 1, zq_ild 2, zq_calls 189 2 2, zq_if_eq 17, zq_ald 0, zq_ild 1, zq_ild 2, zq_calli 274 2 9 4, zq_goto 18]
theorem xc_275_0 : zCd 275 [0, 17, 18] 0 xb_275_0 := zc_iload_n xj_275 1 1 rfl rfl (zc_iload_n xj_275 2 2 rfl rfl (zc_invokestatic2 xj_275 5 159 189 2 284 0 2 rfl rfl rfl rfl (zc_if_eq xj_275 8 12 17 rfl rfl rfl (zc_aload_n xj_275 9 0 rfl rfl (zc_iload_n xj_275 10 1 rfl rfl (zc_iload_n xj_275 11 2 rfl rfl (zc_invokevirtual1 xj_275 14 281 274 2 336 9 4 rfl rfl rfl (zc_goto xj_275 15 4 18 rfl rfl rfl (trivial)))))))))
noncomputable def xm_275 : Lean.RArray (List zF) := .branch 17 (.leaf xb_275_0) (.branch 18 (.leaf xb_275_1) (.leaf xb_275_2))
theorem xa_275 : zCdAll 275 [0, 17, 18] xm_275 := zAll2_ok (P := fun t => zCd 275 [0, 17, 18] t (xm_275.get t)) ⟨xc_275_0, xc_275_1, xc_275_2, trivial⟩
/-- SquareMeshModel.lies -/
theorem xj_276 : ∀ pc, pI 276 pc = pJ_276 pc := fun _ => rfl
noncomputable def xb_276_5 : List zF := [zq_k 1, zq_iret 0]
theorem xc_276_5 : zCd 276 [0, 10, 22, 32, 65, 71] 71 xb_276_5 := zc_iconst xj_276 72 1 1 rfl rfl rfl (zc_ireturn0 xj_276 73 rfl rfl (trivial))
noncomputable def xb_276_4 : List zF := [zq_inc 4 1, zq_goto 32]
theorem xc_276_4 : zCd 276 [0, 10, 22, 32, 65, 71] 65 xb_276_4 := zc_iinc xj_276 68 4 1 1 rfl rfl rfl (zc_goto xj_276 69 (-36) 32 rfl rfl rfl (trivial))
noncomputable def xb_276_3 : List zF := [zq_ild 4, zq_k 3, zq_ic_ge 71, zq_ald 0, zq_ald 0, zq_ild 3, zq_ild 4, zq_calli 247 2 9 3, zq_ald 0, zq_ild 3, zq_ild 4, zq_k 1, zq_add, zq_calli 247 2 9 3, zq_ild 1, zq_ild 2, zq_calli 201 4 9 5, zq_if_ne 65, zq_k 2, zq_iret 0]
theorem xc_276_3 : zCd 276 [0, 10, 22, 32, 65, 71] 32 xb_276_3 := zc_iload xj_276 34 4 rfl rfl (zc_iconst xj_276 35 3 3 rfl rfl rfl (zc_ic_ge xj_276 38 36 71 rfl rfl rfl (zc_aload_n xj_276 39 0 rfl rfl (zc_aload_n xj_276 40 0 rfl rfl (zc_iload_n xj_276 41 3 rfl rfl (zc_iload xj_276 43 4 rfl rfl (zc_invokevirtual1 xj_276 46 206 247 2 313 9 3 rfl rfl rfl (zc_aload_n xj_276 47 0 rfl rfl (zc_iload_n xj_276 48 3 rfl rfl (zc_iload xj_276 50 4 rfl rfl (zc_iconst xj_276 51 1 1 rfl rfl rfl (zc_iadd xj_276 52 rfl rfl (zc_invokevirtual1 xj_276 55 206 247 2 313 9 3 rfl rfl rfl (zc_iload_n xj_276 56 1 rfl rfl (zc_iload_n xj_276 57 2 rfl rfl (zc_invokevirtual1 xj_276 60 82 201 4 259 9 5 rfl rfl rfl (zc_if_ne xj_276 63 5 65 rfl rfl rfl (zc_iconst xj_276 64 2 2 rfl rfl rfl (zc_ireturn0 xj_276 65 rfl rfl (trivial))))))))))))))))))))
noncomputable def xb_276_2 : List zF := zq_ald 0 :: zq_ild 1 :: zq_ild 2 :: zq_calli 274 2 9 4 :: zq_ist 3 :: zq_k 0 :: zq_ist 4 :: xb_276_3
theorem xc_276_2 : zCd 276 [0, 10, 22, 32, 65, 71] 22 xb_276_2 := zc_aload_n xj_276 23 0 rfl rfl (zc_iload_n xj_276 24 1 rfl rfl (zc_iload_n xj_276 25 2 rfl rfl (zc_invokevirtual1 xj_276 28 281 274 2 336 9 4 rfl rfl rfl (zc_istore_n xj_276 29 3 rfl rfl (zc_iconst xj_276 30 0 0 rfl rfl rfl (zc_istore xj_276 32 4 rfl rfl (xc_276_3)))))))
noncomputable def xb_276_1 : List zF := [zq_ald 0, zq_ild 1, zq_ild 2, zq_calli 198 2 9 4, zq_k 4294967295, zq_ic_eq 22, zq_k 3, zq_iret 0]
theorem xc_276_1 : zCd 276 [0, 10, 22, 32, 65, 71] 10 xb_276_1 := zc_aload_n xj_276 11 0 rfl rfl (zc_iload_n xj_276 12 1 rfl rfl (zc_iload_n xj_276 13 2 rfl rfl (zc_invokevirtual1 xj_276 16 169 198 2 291 9 4 rfl rfl rfl (zc_iconst xj_276 17 (-1) 4294967295 rfl rfl rfl (zc_ic_eq xj_276 20 5 22 rfl rfl rfl (zc_iconst xj_276 21 3 3 rfl rfl rfl (zc_ireturn0 xj_276 22 rfl rfl (trivial))))))))
noncomputable def xb_276_0 : List zF := [zq_ild 1, zq_ild 2, zq_calls 189 2 2, zq_if_ne 10, zq_k 0, zq_iret 0]
theorem xc_276_0 : zCd 276 [0, 10, 22, 32, 65, 71] 0 xb_276_0 := zc_iload_n xj_276 1 1 rfl rfl (zc_iload_n xj_276 2 2 rfl rfl (zc_invokestatic2 xj_276 5 159 189 2 284 0 2 rfl rfl rfl rfl (zc_if_ne xj_276 8 5 10 rfl rfl rfl (zc_iconst xj_276 9 0 0 rfl rfl rfl (zc_ireturn0 xj_276 10 rfl rfl (trivial))))))
noncomputable def xm_276 : Lean.RArray (List zF) := .branch 32 (.branch 10 (.leaf xb_276_0) (.branch 22 (.leaf xb_276_1) (.leaf xb_276_2))) (.branch 65 (.leaf xb_276_3) (.branch 71 (.leaf xb_276_4) (.leaf xb_276_5)))
theorem xa_276 : zCdAll 276 [0, 10, 22, 32, 65, 71] xm_276 := zAll2_ok (P := fun t => zCd 276 [0, 10, 22, 32, 65, 71] t (xm_276.get t)) ⟨xc_276_0, xc_276_1, xc_276_2, xc_276_3, xc_276_4, xc_276_5, trivial⟩
/-- SquareMeshModel.nextOf -/
theorem xj_277 : ∀ pc, pI 277 pc = pJ_277 pc := fun _ => rfl
noncomputable def xb_277_3 : List zF := [zq_k 4294967295, zq_iret 0]
theorem xc_277_3 : zCd 277 [0, 3, 62, 68] 68 xb_277_3 := zc_iconst xj_277 69 (-1) 4294967295 rfl rfl rfl (zc_ireturn0 xj_277 70 rfl rfl (trivial))
noncomputable def xb_277_2 : List zF := [zq_inc 4 1, zq_goto 3]
theorem xc_277_2 : zCd 277 [0, 3, 62, 68] 62 xb_277_2 := zc_iinc xj_277 65 4 1 1 rfl rfl rfl (zc_goto xj_277 66 (-62) 3 rfl rfl rfl (trivial))
noncomputable def xb_277_1 : List zF := [zq_ild 4, zq_k 3, zq_ic_ge 68, zq_ald 0, zq_ild 1, zq_ild 4, zq_calli 266 2 9 3, zq_ist 5, zq_ild 5, zq_k 4294967295, zq_ic_eq 62, zq_ald 0, zq_getf 9 6, zq_ild 5, zq_ild_ 2, zq_if_ne 62, zq_ald 0, zq_ald 0, zq_ild 1, zq_ild 4, zq_calli 247 2 9 3, zq_ald 0, zq_ild 1, zq_ild 4, zq_k 1, zq_add, zq_calli 247 2 9 3, zq_ild 2, zq_ild 3, zq_calli 201 4 9 5, zq_if_ge 62, zq_ild 5, zq_iret 0]
theorem xc_277_1 : zCd 277 [0, 3, 62, 68] 3 xb_277_1 := zc_iload xj_277 5 4 rfl rfl (zc_iconst xj_277 6 3 3 rfl rfl rfl (zc_ic_ge xj_277 9 62 68 rfl rfl rfl (zc_aload_n xj_277 10 0 rfl rfl (zc_iload_n xj_277 11 1 rfl rfl (zc_iload xj_277 13 4 rfl rfl (zc_invokevirtual1 xj_277 16 272 266 2 330 9 3 rfl rfl rfl (zc_istore xj_277 18 5 rfl rfl (zc_iload xj_277 20 5 rfl rfl (zc_iconst xj_277 21 (-1) 4294967295 rfl rfl rfl (zc_ic_eq xj_277 24 41 62 rfl rfl rfl (zc_aload_n xj_277 25 0 rfl rfl (zc_getf xj_277 28 26 9 6 100 rfl rfl (zc_iload xj_277 30 5 rfl rfl (zc_baload xj_277 31 rfl rfl (zc_if_ne xj_277 34 31 62 rfl rfl rfl (zc_aload_n xj_277 35 0 rfl rfl (zc_aload_n xj_277 36 0 rfl rfl (zc_iload_n xj_277 37 1 rfl rfl (zc_iload xj_277 39 4 rfl rfl (zc_invokevirtual1 xj_277 42 206 247 2 313 9 3 rfl rfl rfl (zc_aload_n xj_277 43 0 rfl rfl (zc_iload_n xj_277 44 1 rfl rfl (zc_iload xj_277 46 4 rfl rfl (zc_iconst xj_277 47 1 1 rfl rfl rfl (zc_iadd xj_277 48 rfl rfl (zc_invokevirtual1 xj_277 51 206 247 2 313 9 3 rfl rfl rfl (zc_iload_n xj_277 52 2 rfl rfl (zc_iload_n xj_277 53 3 rfl rfl (zc_invokevirtual1 xj_277 56 82 201 4 259 9 5 rfl rfl rfl (zc_if_ge xj_277 59 6 62 rfl rfl rfl (zc_iload xj_277 61 5 rfl rfl (zc_ireturn0 xj_277 62 rfl rfl (trivial)))))))))))))))))))))))))))))))))
noncomputable def xb_277_0 : List zF := zq_k 0 :: zq_ist 4 :: xb_277_1
theorem xc_277_0 : zCd 277 [0, 3, 62, 68] 0 xb_277_0 := zc_iconst xj_277 1 0 0 rfl rfl rfl (zc_istore xj_277 3 4 rfl rfl (xc_277_1))
noncomputable def xm_277 : Lean.RArray (List zF) := .branch 62 (.branch 3 (.leaf xb_277_0) (.leaf xb_277_1)) (.branch 68 (.leaf xb_277_2) (.leaf xb_277_3))
theorem xa_277 : zCdAll 277 [0, 3, 62, 68] xm_277 := zAll2_ok (P := fun t => zCd 277 [0, 3, 62, 68] t (xm_277.get t)) ⟨xc_277_0, xc_277_1, xc_277_2, xc_277_3, trivial⟩
/-- SquareMeshModel.walk -/
theorem xj_278 : ∀ pc, pI 278 pc = pJ_278 pc := fun _ => rfl
noncomputable def xb_278_10 : List zF := [zq_iret 0]
theorem xc_278_10 : zCd 278 [0, 26, 28, 31, 54, 78, 112, 122, 133, 148, 149] 149 xb_278_10 := zc_ireturn0 xj_278 150 rfl rfl (trivial)
noncomputable def xb_278_9 : List zF := zq_k 0 :: xb_278_10
theorem xc_278_9 : zCd 278 [0, 26, 28, 31, 54, 78, 112, 122, 133, 148, 149] 148 xb_278_9 := zc_iconst xj_278 149 0 0 rfl rfl rfl (xc_278_10)
noncomputable def xb_278_8 : List zF := [zq_ald 0, zq_ild 6, zq_ild 2, zq_ild 3, zq_calli 273 3 9 5, zq_if_eq 148, zq_k 1, zq_goto 149]
theorem xc_278_8 : zCd 278 [0, 26, 28, 31, 54, 78, 112, 122, 133, 148, 149] 133 xb_278_8 := zc_aload_n xj_278 134 0 rfl rfl (zc_iload xj_278 136 6 rfl rfl (zc_iload_n xj_278 137 2 rfl rfl (zc_iload_n xj_278 138 3 rfl rfl (zc_invokevirtual1 xj_278 141 278 273 3 337 9 5 rfl rfl rfl (zc_if_eq xj_278 144 7 148 rfl rfl rfl (zc_iconst xj_278 145 1 1 rfl rfl rfl (zc_goto xj_278 146 4 149 rfl rfl rfl (trivial))))))))
noncomputable def xb_278_7 : List zF := [zq_ild 4, zq_k 1, zq_ic_ne 133, zq_ild 5, zq_goto 149]
theorem xc_278_7 : zCd 278 [0, 26, 28, 31, 54, 78, 112, 122, 133, 148, 149] 122 xb_278_7 := zc_iload xj_278 124 4 rfl rfl (zc_iconst xj_278 125 1 1 rfl rfl rfl (zc_ic_ne xj_278 128 8 133 rfl rfl rfl (zc_iload xj_278 130 5 rfl rfl (zc_goto xj_278 131 19 149 rfl rfl rfl (trivial)))))
noncomputable def xb_278_6 : List zF := [zq_ild 4, zq_if_ne 122, zq_ild 6, zq_goto 149]
theorem xc_278_6 : zCd 278 [0, 26, 28, 31, 54, 78, 112, 122, 133, 148, 149] 112 xb_278_6 := zc_iload xj_278 114 4 rfl rfl (zc_if_ne xj_278 117 8 122 rfl rfl rfl (zc_iload xj_278 119 6 rfl rfl (zc_goto xj_278 120 30 149 rfl rfl rfl (trivial))))
noncomputable def xb_278_5 : List zF := [zq_ild 7, zq_k 4294967295, zq_ic_eq 112, zq_ald 0, zq_getf 9 6, zq_ild 7, zq_k 1, zq_bast, zq_ild 7, zq_ist 6, zq_inc 5 1, zq_ald 0, zq_ild 6, zq_ild 2, zq_ild 3, zq_calli 277 3 9 6, zq_ist 7, zq_goto 78]
theorem xc_278_5 : zCd 278 [0, 26, 28, 31, 54, 78, 112, 122, 133, 148, 149] 78 xb_278_5 := zc_iload xj_278 80 7 rfl rfl (zc_iconst xj_278 81 (-1) 4294967295 rfl rfl rfl (zc_ic_eq xj_278 84 31 112 rfl rfl rfl (zc_aload_n xj_278 85 0 rfl rfl (zc_getf xj_278 88 26 9 6 100 rfl rfl (zc_iload xj_278 90 7 rfl rfl (zc_iconst xj_278 91 1 1 rfl rfl rfl (zc_bastore xj_278 92 rfl rfl (zc_iload xj_278 94 7 rfl rfl (zc_istore xj_278 96 6 rfl rfl (zc_iinc xj_278 99 5 1 1 rfl rfl rfl (zc_aload_n xj_278 100 0 rfl rfl (zc_iload xj_278 102 6 rfl rfl (zc_iload_n xj_278 103 2 rfl rfl (zc_iload_n xj_278 104 3 rfl rfl (zc_invokevirtual1 xj_278 107 284 277 3 357 9 6 rfl rfl rfl (zc_istore xj_278 109 7 rfl rfl (zc_goto xj_278 110 (-31) 78 rfl rfl rfl (trivial))))))))))))))))))
noncomputable def xb_278_4 : List zF := zq_k 0 :: zq_ist 5 :: zq_ild 1 :: zq_ist 6 :: zq_ald 0 :: zq_getf 9 6 :: zq_ild 6 :: zq_k 1 :: zq_bast :: zq_ald 0 :: zq_ild 6 :: zq_ild 2 :: zq_ild 3 :: zq_calli 277 3 9 6 :: zq_ist 7 :: xb_278_5
theorem xc_278_4 : zCd 278 [0, 26, 28, 31, 54, 78, 112, 122, 133, 148, 149] 54 xb_278_4 := zc_iconst xj_278 55 0 0 rfl rfl rfl (zc_istore xj_278 57 5 rfl rfl (zc_iload_n xj_278 58 1 rfl rfl (zc_istore xj_278 60 6 rfl rfl (zc_aload_n xj_278 61 0 rfl rfl (zc_getf xj_278 64 26 9 6 100 rfl rfl (zc_iload xj_278 66 6 rfl rfl (zc_iconst xj_278 67 1 1 rfl rfl rfl (zc_bastore xj_278 68 rfl rfl (zc_aload_n xj_278 69 0 rfl rfl (zc_iload xj_278 71 6 rfl rfl (zc_iload_n xj_278 72 2 rfl rfl (zc_iload_n xj_278 73 3 rfl rfl (zc_invokevirtual1 xj_278 76 284 277 3 357 9 6 rfl rfl rfl (zc_istore xj_278 78 7 rfl rfl (xc_278_5)))))))))))))))
noncomputable def xb_278_3 : List zF := [zq_ild 5, zq_ald 0, zq_getf 9 4, zq_ic_ge 54, zq_ald 0, zq_getf 9 6, zq_ild 5, zq_k 0, zq_bast, zq_inc 5 1, zq_goto 31]
theorem xc_278_3 : zCd 278 [0, 26, 28, 31, 54, 78, 112, 122, 133, 148, 149] 31 xb_278_3 := zc_iload xj_278 33 5 rfl rfl (zc_aload_n xj_278 34 0 rfl rfl (zc_getf xj_278 37 134 9 4 98 rfl rfl (zc_ic_ge xj_278 40 17 54 rfl rfl rfl (zc_aload_n xj_278 41 0 rfl rfl (zc_getf xj_278 44 26 9 6 100 rfl rfl (zc_iload xj_278 46 5 rfl rfl (zc_iconst xj_278 47 0 0 rfl rfl rfl (zc_bastore xj_278 48 rfl rfl (zc_iinc xj_278 51 5 1 1 rfl rfl rfl (zc_goto xj_278 52 (-20) 31 rfl rfl rfl (trivial)))))))))))
noncomputable def xb_278_2 : List zF := zq_k 0 :: zq_ist 5 :: xb_278_3
theorem xc_278_2 : zCd 278 [0, 26, 28, 31, 54, 78, 112, 122, 133, 148, 149] 28 xb_278_2 := zc_iconst xj_278 29 0 0 rfl rfl rfl (zc_istore xj_278 31 5 rfl rfl (xc_278_3))
noncomputable def xb_278_1 : List zF := [zq_k 4294967295, zq_iret 0]
theorem xc_278_1 : zCd 278 [0, 26, 28, 31, 54, 78, 112, 122, 133, 148, 149] 26 xb_278_1 := zc_iconst xj_278 27 (-1) 4294967295 rfl rfl rfl (zc_ireturn0 xj_278 28 rfl rfl (trivial))
noncomputable def xb_278_0 : List zF := zq_ald 0 :: zq_ild 1 :: zq_calli 264 1 9 2 :: zq_if_eq 26 :: zq_ild 2 :: zq_ild 3 :: zq_calls 189 2 2 :: zq_if_eq 26 :: zq_ild 4 :: zq_k 0 :: zq_k 2 :: zq_calls 188 3 3 :: zq_if_ne 28 :: xb_278_1
theorem xc_278_0 : zCd 278 [0, 26, 28, 31, 54, 78, 112, 122, 133, 148, 149] 0 xb_278_0 := zc_aload_n xj_278 1 0 rfl rfl (zc_iload_n xj_278 2 1 rfl rfl (zc_invokevirtual1 xj_278 5 269 264 1 347 9 2 rfl rfl rfl (zc_if_eq xj_278 8 21 26 rfl rfl rfl (zc_iload_n xj_278 9 2 rfl rfl (zc_iload_n xj_278 10 3 rfl rfl (zc_invokestatic2 xj_278 13 159 189 2 284 0 2 rfl rfl rfl rfl (zc_if_eq xj_278 16 13 26 rfl rfl rfl (zc_iload xj_278 18 4 rfl rfl (zc_iconst xj_278 19 0 0 rfl rfl rfl (zc_iconst xj_278 20 2 2 rfl rfl rfl (zc_invokestatic2 xj_278 23 67 188 3 265 0 3 rfl rfl rfl rfl (zc_if_ne xj_278 26 5 28 rfl rfl rfl (xc_278_1)))))))))))))
noncomputable def xm_278 : Lean.RArray (List zF) := .branch 78 (.branch 28 (.branch 26 (.leaf xb_278_0) (.leaf xb_278_1)) (.branch 31 (.leaf xb_278_2) (.branch 54 (.leaf xb_278_3) (.leaf xb_278_4)))) (.branch 133 (.branch 112 (.leaf xb_278_5) (.branch 122 (.leaf xb_278_6) (.leaf xb_278_7))) (.branch 148 (.leaf xb_278_8) (.branch 149 (.leaf xb_278_9) (.leaf xb_278_10))))
theorem xa_278 : zCdAll 278 [0, 26, 28, 31, 54, 78, 112, 122, 133, 148, 149] xm_278 := zAll2_ok (P := fun t => zCd 278 [0, 26, 28, 31, 54, 78, 112, 122, 133, 148, 149] t (xm_278.get t)) ⟨xc_278_0, xc_278_1, xc_278_2, xc_278_3, xc_278_4, xc_278_5, xc_278_6, xc_278_7, xc_278_8, xc_278_9, xc_278_10, trivial⟩
/-- SquareMeshModel.afterOf -/
theorem xj_279 : ∀ pc, pI 279 pc = pJ_279 pc := fun _ => rfl
noncomputable def xb_279_3 : List zF := [zq_ald 0, zq_ild 3, zq_ild 4, zq_k 2, zq_add, zq_calli 247 2 9 3, zq_iret 0]
theorem xc_279_3 : zCd 279 [0, 14, 17, 34] 34 xb_279_3 := zc_aload_n xj_279 35 0 rfl rfl (zc_iload_n xj_279 36 3 rfl rfl (zc_iload xj_279 38 4 rfl rfl (zc_iconst xj_279 39 2 2 rfl rfl rfl (zc_iadd xj_279 40 rfl rfl (zc_invokevirtual1 xj_279 43 206 247 2 313 9 3 rfl rfl rfl (zc_ireturn0 xj_279 44 rfl rfl (trivial)))))))
noncomputable def xb_279_2 : List zF := [zq_ald 0, zq_ild 3, zq_ild 4, zq_calli 247 2 9 3, zq_ild 1, zq_ic_eq 34, zq_inc 4 1, zq_goto 17]
theorem xc_279_2 : zCd 279 [0, 14, 17, 34] 17 xb_279_2 := zc_aload_n xj_279 18 0 rfl rfl (zc_iload_n xj_279 19 3 rfl rfl (zc_iload xj_279 21 4 rfl rfl (zc_invokevirtual1 xj_279 24 206 247 2 313 9 3 rfl rfl rfl (zc_iload_n xj_279 25 1 rfl rfl (zc_ic_eq xj_279 28 9 34 rfl rfl rfl (zc_iinc xj_279 31 4 1 1 rfl rfl rfl (zc_goto xj_279 32 (-14) 17 rfl rfl rfl (trivial))))))))
noncomputable def xb_279_1 : List zF := zq_k 0 :: zq_ist 4 :: xb_279_2
theorem xc_279_1 : zCd 279 [0, 14, 17, 34] 14 xb_279_1 := zc_iconst xj_279 15 0 0 rfl rfl rfl (zc_istore xj_279 17 4 rfl rfl (xc_279_2))
noncomputable def xb_279_0 : List zF := [zq_ald 0, zq_ild 1, zq_ild 2, zq_calli 212 2 9 3, zq_ist 3, zq_ild 3, zq_k 4294967295, zq_ic_ne 14, zq_k 4294967295, zq_iret 0]
theorem xc_279_0 : zCd 279 [0, 14, 17, 34] 0 xb_279_0 := zc_aload_n xj_279 1 0 rfl rfl (zc_iload_n xj_279 2 1 rfl rfl (zc_iload_n xj_279 3 2 rfl rfl (zc_invokevirtual1 xj_279 6 118 212 2 262 9 3 rfl rfl rfl (zc_istore_n xj_279 7 3 rfl rfl (zc_iload_n xj_279 8 3 rfl rfl (zc_iconst xj_279 9 (-1) 4294967295 rfl rfl rfl (zc_ic_ne xj_279 12 5 14 rfl rfl rfl (zc_iconst xj_279 13 (-1) 4294967295 rfl rfl rfl (zc_ireturn0 xj_279 14 rfl rfl (trivial))))))))))
noncomputable def xm_279 : Lean.RArray (List zF) := .branch 17 (.branch 14 (.leaf xb_279_0) (.leaf xb_279_1)) (.branch 34 (.leaf xb_279_2) (.leaf xb_279_3))
theorem xa_279 : zCdAll 279 [0, 14, 17, 34] xm_279 := zAll2_ok (P := fun t => zCd 279 [0, 14, 17, 34] t (xm_279.get t)) ⟨xc_279_0, xc_279_1, xc_279_2, xc_279_3, trivial⟩
/-- SquareMeshModel.firstOf -/
theorem xj_280 : ∀ pc, pI 280 pc = pJ_280 pc := fun _ => rfl
noncomputable def xb_280_5 : List zF := [zq_ild 2, zq_iret 0]
theorem xc_280_5 : zCd 280 [0, 5, 21, 33, 35, 41] 41 xb_280_5 := zc_iload_n xj_280 42 2 rfl rfl (zc_ireturn0 xj_280 43 rfl rfl (trivial))
noncomputable def xb_280_4 : List zF := [zq_inc 3 4294967295, zq_goto 5]
theorem xc_280_4 : zCd 280 [0, 5, 21, 33, 35, 41] 35 xb_280_4 := zc_iinc xj_280 38 3 (-1) 4294967295 rfl rfl rfl (zc_goto xj_280 39 (-33) 5 rfl rfl rfl (trivial))
noncomputable def xb_280_3 : List zF := zq_ild 3 :: zq_ist 2 :: xb_280_4
theorem xc_280_3 : zCd 280 [0, 5, 21, 33, 35, 41] 33 xb_280_3 := zc_iload_n xj_280 34 3 rfl rfl (zc_istore_n xj_280 35 2 rfl rfl (xc_280_4))
noncomputable def xb_280_2 : List zF := [zq_ald 0, zq_ild 3, zq_ild 1, zq_calli 212 2 9 3, zq_k 4294967295, zq_ic_ne 33, zq_ild 3, zq_iret 0]
theorem xc_280_2 : zCd 280 [0, 5, 21, 33, 35, 41] 21 xb_280_2 := zc_aload_n xj_280 22 0 rfl rfl (zc_iload_n xj_280 23 3 rfl rfl (zc_iload_n xj_280 24 1 rfl rfl (zc_invokevirtual1 xj_280 27 118 212 2 262 9 3 rfl rfl rfl (zc_iconst xj_280 28 (-1) 4294967295 rfl rfl rfl (zc_ic_ne xj_280 31 5 33 rfl rfl rfl (zc_iload_n xj_280 32 3 rfl rfl (zc_ireturn0 xj_280 33 rfl rfl (trivial))))))))
noncomputable def xb_280_1 : List zF := [zq_ild 3, zq_if_lt 41, zq_ald 0, zq_ild 1, zq_ild 3, zq_calli 213 2 9 3, zq_if_ne 21, zq_goto 35]
theorem xc_280_1 : zCd 280 [0, 5, 21, 33, 35, 41] 5 xb_280_1 := zc_iload_n xj_280 6 3 rfl rfl (zc_if_lt xj_280 9 35 41 rfl rfl rfl (zc_aload_n xj_280 10 0 rfl rfl (zc_iload_n xj_280 11 1 rfl rfl (zc_iload_n xj_280 12 3 rfl rfl (zc_invokevirtual1 xj_280 15 234 213 2 321 9 3 rfl rfl rfl (zc_if_ne xj_280 18 6 21 rfl rfl rfl (zc_goto xj_280 19 17 35 rfl rfl rfl (trivial))))))))
noncomputable def xb_280_0 : List zF := zq_k 4294967295 :: zq_ist 2 :: zq_k 39 :: zq_ist 3 :: xb_280_1
theorem xc_280_0 : zCd 280 [0, 5, 21, 33, 35, 41] 0 xb_280_0 := zc_iconst xj_280 1 (-1) 4294967295 rfl rfl rfl (zc_istore_n xj_280 2 2 rfl rfl (zc_bipush xj_280 4 39 39 rfl rfl rfl (zc_istore_n xj_280 5 3 rfl rfl (xc_280_1))))
noncomputable def xm_280 : Lean.RArray (List zF) := .branch 33 (.branch 5 (.leaf xb_280_0) (.branch 21 (.leaf xb_280_1) (.leaf xb_280_2))) (.branch 35 (.leaf xb_280_3) (.branch 41 (.leaf xb_280_4) (.leaf xb_280_5)))
theorem xa_280 : zCdAll 280 [0, 5, 21, 33, 35, 41] xm_280 := zAll2_ok (P := fun t => zCd 280 [0, 5, 21, 33, 35, 41] t (xm_280.get t)) ⟨xc_280_0, xc_280_1, xc_280_2, xc_280_3, xc_280_4, xc_280_5, trivial⟩
/-- SquareMeshModel.layStar -/
theorem xj_281 : ∀ pc, pI 281 pc = pJ_281 pc := fun _ => rfl
noncomputable def xb_281_3 : List zF := [zq_ild 2, zq_iret 0]
theorem xc_281_3 : zCd 281 [0, 11, 27, 50] 50 xb_281_3 := zc_iload_n xj_281 51 2 rfl rfl (zc_ireturn0 xj_281 52 rfl rfl (trivial))
noncomputable def xb_281_2 : List zF := [zq_ald 0, zq_getf 9 7, zq_ild 2, zq_ild 4, zq_iast, zq_inc 2 1, zq_ald 0, zq_ild 1, zq_ild 4, zq_calli 279 2 9 5, zq_ist 4, zq_goto 11]
theorem xc_281_2 : zCd 281 [0, 11, 27, 50] 27 xb_281_2 := zc_aload_n xj_281 28 0 rfl rfl (zc_getf xj_281 31 30 9 7 101 rfl rfl (zc_iload_n xj_281 32 2 rfl rfl (zc_iload xj_281 34 4 rfl rfl (zc_iastore xj_281 35 rfl rfl (zc_iinc xj_281 38 2 1 1 rfl rfl rfl (zc_aload_n xj_281 39 0 rfl rfl (zc_iload_n xj_281 40 1 rfl rfl (zc_iload xj_281 42 4 rfl rfl (zc_invokevirtual1 xj_281 45 290 279 2 322 9 5 rfl rfl rfl (zc_istore xj_281 47 4 rfl rfl (zc_goto xj_281 48 (-36) 11 rfl rfl rfl (trivial))))))))))))
noncomputable def xb_281_1 : List zF := zq_ild 4 :: zq_k 4294967295 :: zq_ic_eq 50 :: zq_ild 2 :: zq_if_eq 27 :: zq_ild 4 :: zq_ild 3 :: zq_ic_eq 50 :: xb_281_2
theorem xc_281_1 : zCd 281 [0, 11, 27, 50] 11 xb_281_1 := zc_iload xj_281 13 4 rfl rfl (zc_iconst xj_281 14 (-1) 4294967295 rfl rfl rfl (zc_ic_eq xj_281 17 36 50 rfl rfl rfl (zc_iload_n xj_281 18 2 rfl rfl (zc_if_eq xj_281 21 9 27 rfl rfl rfl (zc_iload xj_281 23 4 rfl rfl (zc_iload_n xj_281 24 3 rfl rfl (zc_ic_eq xj_281 27 26 50 rfl rfl rfl (xc_281_2))))))))
noncomputable def xb_281_0 : List zF := zq_k 0 :: zq_ist 2 :: zq_ald 0 :: zq_ild 1 :: zq_calli 280 1 9 4 :: zq_ist 3 :: zq_ild 3 :: zq_ist 4 :: xb_281_1
theorem xc_281_0 : zCd 281 [0, 11, 27, 50] 0 xb_281_0 := zc_iconst xj_281 1 0 0 rfl rfl rfl (zc_istore_n xj_281 2 2 rfl rfl (zc_aload_n xj_281 3 0 rfl rfl (zc_iload_n xj_281 4 1 rfl rfl (zc_invokevirtual1 xj_281 7 287 280 1 320 9 4 rfl rfl rfl (zc_istore_n xj_281 8 3 rfl rfl (zc_iload_n xj_281 9 3 rfl rfl (zc_istore xj_281 11 4 rfl rfl (xc_281_1))))))))
noncomputable def xm_281 : Lean.RArray (List zF) := .branch 27 (.branch 11 (.leaf xb_281_0) (.leaf xb_281_1)) (.branch 50 (.leaf xb_281_2) (.leaf xb_281_3))
theorem xa_281 : zCdAll 281 [0, 11, 27, 50] xm_281 := zAll2_ok (P := fun t => zCd 281 [0, 11, 27, 50] t (xm_281.get t)) ⟨xc_281_0, xc_281_1, xc_281_2, xc_281_3, trivial⟩
/-- SquareMeshModel.star -/
theorem xj_282 : ∀ pc, pI 282 pc = pJ_282 pc := fun _ => rfl
noncomputable def xb_282_2 : List zF := [zq_iret 0]
theorem xc_282_2 : zCd 282 [0, 32, 33] 33 xb_282_2 := zc_ireturn0 xj_282 34 rfl rfl (trivial)
noncomputable def xb_282_1 : List zF := zq_k 4294967295 :: xb_282_2
theorem xc_282_1 : zCd 282 [0, 32, 33] 32 xb_282_1 := zc_iconst xj_282 33 (-1) 4294967295 rfl rfl rfl (xc_282_2)
noncomputable def xb_282_0 : List zF := [zq_ald 0, zq_ild 1, zq_calli 191 1 9 2, zq_if_eq 32, zq_ild 2, zq_k 0, zq_ald 0, zq_ild 1, zq_calli 281 1 9 5, zq_k 1, zq_sub, zq_calls 188 3 3, zq_if_eq 32, zq_ald 0, zq_getf 9 7, zq_ild 2, zq_ild_ 0, zq_goto 33]
theorem xc_282_0 : zCd 282 [0, 32, 33] 0 xb_282_0 := zc_aload_n xj_282 1 0 rfl rfl (zc_iload_n xj_282 2 1 rfl rfl (zc_invokevirtual1 xj_282 5 71 191 1 264 9 2 rfl rfl rfl (zc_if_eq xj_282 8 27 32 rfl rfl rfl (zc_iload_n xj_282 9 2 rfl rfl (zc_iconst xj_282 10 0 0 rfl rfl rfl (zc_aload_n xj_282 11 0 rfl rfl (zc_iload_n xj_282 12 1 rfl rfl (zc_invokevirtual1 xj_282 15 228 281 1 319 9 5 rfl rfl rfl (zc_iconst xj_282 16 1 1 rfl rfl rfl (zc_isub xj_282 17 rfl rfl (zc_invokestatic2 xj_282 20 67 188 3 265 0 3 rfl rfl rfl rfl (zc_if_eq xj_282 23 12 32 rfl rfl rfl (zc_aload_n xj_282 24 0 rfl rfl (zc_getf xj_282 27 30 9 7 101 rfl rfl (zc_iload_n xj_282 28 2 rfl rfl (zc_iaload xj_282 29 rfl rfl (zc_goto xj_282 30 4 33 rfl rfl rfl (trivial))))))))))))))))))
noncomputable def xm_282 : Lean.RArray (List zF) := .branch 32 (.leaf xb_282_0) (.branch 33 (.leaf xb_282_1) (.leaf xb_282_2))
theorem xa_282 : zCdAll 282 [0, 32, 33] xm_282 := zAll2_ok (P := fun t => zCd 282 [0, 32, 33] t (xm_282.get t)) ⟨xc_282_0, xc_282_1, xc_282_2, trivial⟩
/-- SquareMeshModel.layFar -/
theorem xj_283 : ∀ pc, pI 283 pc = pJ_283 pc := fun _ => rfl
noncomputable def xb_283_10 : List zF := [zq_vret]
theorem xc_283_10 : zCd 283 [0, 2, 21, 32, 41, 51, 94, 106, 112, 118, 124] 124 xb_283_10 := zc_return_ xj_283 125 rfl rfl (trivial)
noncomputable def xb_283_9 : List zF := [zq_inc 3 1, zq_goto 32]
theorem xc_283_9 : zCd 283 [0, 2, 21, 32, 41, 51, 94, 106, 112, 118, 124] 118 xb_283_9 := zc_iinc xj_283 121 3 1 1 rfl rfl rfl (zc_goto xj_283 122 (-89) 32 rfl rfl rfl (trivial))
noncomputable def xb_283_8 : List zF := [zq_inc 4 1, zq_goto 41]
theorem xc_283_8 : zCd 283 [0, 2, 21, 32, 41, 51, 94, 106, 112, 118, 124] 112 xb_283_8 := zc_iinc xj_283 115 4 1 1 rfl rfl rfl (zc_goto xj_283 116 (-74) 41 rfl rfl rfl (trivial))
noncomputable def xb_283_7 : List zF := [zq_inc 5 1, zq_goto 51]
theorem xc_283_7 : zCd 283 [0, 2, 21, 32, 41, 51, 94, 106, 112, 118, 124] 106 xb_283_7 := zc_iinc xj_283 109 5 1 1 rfl rfl rfl (zc_goto xj_283 110 (-58) 51 rfl rfl rfl (trivial))
noncomputable def xb_283_6 : List zF := zq_ald 0 :: zq_getf 9 8 :: zq_ild 5 :: zq_ild 3 :: zq_k 1 :: zq_add :: zq_iast :: zq_k 1 :: zq_ist 2 :: xb_283_7
theorem xc_283_6 : zCd 283 [0, 2, 21, 32, 41, 51, 94, 106, 112, 118, 124] 94 xb_283_6 := zc_aload_n xj_283 95 0 rfl rfl (zc_getf xj_283 98 33 9 8 102 rfl rfl (zc_iload xj_283 100 5 rfl rfl (zc_iload_n xj_283 101 3 rfl rfl (zc_iconst xj_283 102 1 1 rfl rfl rfl (zc_iadd xj_283 103 rfl rfl (zc_iastore xj_283 104 rfl rfl (zc_iconst xj_283 105 1 1 rfl rfl rfl (zc_istore_n xj_283 106 2 rfl rfl (xc_283_7)))))))))
noncomputable def xb_283_5 : List zF := [zq_ild 5, zq_k 40, zq_ic_ge 112, zq_ald 0, zq_getf 9 8, zq_ild 4, zq_ild_ 0, zq_ild 3, zq_ic_ne 112, zq_ald 0, zq_getf 9 8, zq_ild 5, zq_ild_ 0, zq_k 4294967295, zq_ic_ne 106, zq_ald 0, zq_ild 4, zq_ild 5, zq_calli 213 2 9 3, zq_if_ne 94, zq_goto 106]
theorem xc_283_5 : zCd 283 [0, 2, 21, 32, 41, 51, 94, 106, 112, 118, 124] 51 xb_283_5 := zc_iload xj_283 53 5 rfl rfl (zc_bipush xj_283 55 40 40 rfl rfl rfl (zc_ic_ge xj_283 58 57 112 rfl rfl rfl (zc_aload_n xj_283 59 0 rfl rfl (zc_getf xj_283 62 33 9 8 102 rfl rfl (zc_iload xj_283 64 4 rfl rfl (zc_iaload xj_283 65 rfl rfl (zc_iload_n xj_283 66 3 rfl rfl (zc_ic_ne xj_283 69 46 112 rfl rfl rfl (zc_aload_n xj_283 70 0 rfl rfl (zc_getf xj_283 73 33 9 8 102 rfl rfl (zc_iload xj_283 75 5 rfl rfl (zc_iaload xj_283 76 rfl rfl (zc_iconst xj_283 77 (-1) 4294967295 rfl rfl rfl (zc_ic_ne xj_283 80 29 106 rfl rfl rfl (zc_aload_n xj_283 81 0 rfl rfl (zc_iload xj_283 83 4 rfl rfl (zc_iload xj_283 85 5 rfl rfl (zc_invokevirtual1 xj_283 88 234 213 2 321 9 3 rfl rfl rfl (zc_if_ne xj_283 91 6 94 rfl rfl rfl (zc_goto xj_283 92 15 106 rfl rfl rfl (trivial)))))))))))))))))))))
noncomputable def xb_283_4 : List zF := zq_ild 4 :: zq_k 40 :: zq_ic_ge 118 :: zq_k 0 :: zq_ist 5 :: xb_283_5
theorem xc_283_4 : zCd 283 [0, 2, 21, 32, 41, 51, 94, 106, 112, 118, 124] 41 xb_283_4 := zc_iload xj_283 43 4 rfl rfl (zc_bipush xj_283 45 40 40 rfl rfl rfl (zc_ic_ge xj_283 48 73 118 rfl rfl rfl (zc_iconst xj_283 49 0 0 rfl rfl rfl (zc_istore xj_283 51 5 rfl rfl (xc_283_5)))))
noncomputable def xb_283_3 : List zF := zq_ild 2 :: zq_if_eq 124 :: zq_k 0 :: zq_ist 2 :: zq_k 0 :: zq_ist 4 :: xb_283_4
theorem xc_283_3 : zCd 283 [0, 2, 21, 32, 41, 51, 94, 106, 112, 118, 124] 32 xb_283_3 := zc_iload_n xj_283 33 2 rfl rfl (zc_if_eq xj_283 36 91 124 rfl rfl rfl (zc_iconst xj_283 37 0 0 rfl rfl rfl (zc_istore_n xj_283 38 2 rfl rfl (zc_iconst xj_283 39 0 0 rfl rfl rfl (zc_istore xj_283 41 4 rfl rfl (xc_283_4))))))
noncomputable def xb_283_2 : List zF := zq_ald 0 :: zq_getf 9 8 :: zq_ild 1 :: zq_k 0 :: zq_iast :: zq_k 1 :: zq_ist 2 :: zq_k 0 :: zq_ist 3 :: xb_283_3
theorem xc_283_2 : zCd 283 [0, 2, 21, 32, 41, 51, 94, 106, 112, 118, 124] 21 xb_283_2 := zc_aload_n xj_283 22 0 rfl rfl (zc_getf xj_283 25 33 9 8 102 rfl rfl (zc_iload_n xj_283 26 1 rfl rfl (zc_iconst xj_283 27 0 0 rfl rfl rfl (zc_iastore xj_283 28 rfl rfl (zc_iconst xj_283 29 1 1 rfl rfl rfl (zc_istore_n xj_283 30 2 rfl rfl (zc_iconst xj_283 31 0 0 rfl rfl rfl (zc_istore_n xj_283 32 3 rfl rfl (xc_283_3)))))))))
noncomputable def xb_283_1 : List zF := [zq_ild 2, zq_k 40, zq_ic_ge 21, zq_ald 0, zq_getf 9 8, zq_ild 2, zq_k 4294967295, zq_iast, zq_inc 2 1, zq_goto 2]
theorem xc_283_1 : zCd 283 [0, 2, 21, 32, 41, 51, 94, 106, 112, 118, 124] 2 xb_283_1 := zc_iload_n xj_283 3 2 rfl rfl (zc_bipush xj_283 5 40 40 rfl rfl rfl (zc_ic_ge xj_283 8 16 21 rfl rfl rfl (zc_aload_n xj_283 9 0 rfl rfl (zc_getf xj_283 12 33 9 8 102 rfl rfl (zc_iload_n xj_283 13 2 rfl rfl (zc_iconst xj_283 14 (-1) 4294967295 rfl rfl rfl (zc_iastore xj_283 15 rfl rfl (zc_iinc xj_283 18 2 1 1 rfl rfl rfl (zc_goto xj_283 19 (-16) 2 rfl rfl rfl (trivial))))))))))
noncomputable def xb_283_0 : List zF := zq_k 0 :: zq_ist 2 :: xb_283_1
theorem xc_283_0 : zCd 283 [0, 2, 21, 32, 41, 51, 94, 106, 112, 118, 124] 0 xb_283_0 := zc_iconst xj_283 1 0 0 rfl rfl rfl (zc_istore_n xj_283 2 2 rfl rfl (xc_283_1))
noncomputable def xm_283 : Lean.RArray (List zF) := .branch 51 (.branch 21 (.branch 2 (.leaf xb_283_0) (.leaf xb_283_1)) (.branch 32 (.leaf xb_283_2) (.branch 41 (.leaf xb_283_3) (.leaf xb_283_4)))) (.branch 112 (.branch 94 (.leaf xb_283_5) (.branch 106 (.leaf xb_283_6) (.leaf xb_283_7))) (.branch 118 (.leaf xb_283_8) (.branch 124 (.leaf xb_283_9) (.leaf xb_283_10))))
theorem xa_283 : zCdAll 283 [0, 2, 21, 32, 41, 51, 94, 106, 112, 118, 124] xm_283 := zAll2_ok (P := fun t => zCd 283 [0, 2, 21, 32, 41, 51, 94, 106, 112, 118, 124] t (xm_283.get t)) ⟨xc_283_0, xc_283_1, xc_283_2, xc_283_3, xc_283_4, xc_283_5, xc_283_6, xc_283_7, xc_283_8, xc_283_9, xc_283_10, trivial⟩
/-- SquareMeshModel.ring -/
theorem xj_284 : ∀ pc, pI 284 pc = pJ_284 pc := fun _ => rfl
noncomputable def xb_284_5 : List zF := [zq_lld 3, zq_lret]
theorem xc_284_5 : zCd 284 [0, 12, 14, 24, 49, 55] 55 xb_284_5 := zc_lload_n xj_284 56 3 rfl rfl (zc_lreturn xj_284 57 rfl rfl (trivial))
noncomputable def xb_284_4 : List zF := [zq_inc 5 1, zq_goto 24]
theorem xc_284_4 : zCd 284 [0, 12, 14, 24, 49, 55] 49 xb_284_4 := zc_iinc xj_284 52 5 1 1 rfl rfl rfl (zc_goto xj_284 53 (-28) 24 rfl rfl rfl (trivial))
noncomputable def xb_284_3 : List zF := zq_ild 5 :: zq_k 40 :: zq_ic_ge 55 :: zq_ald 0 :: zq_getf 9 8 :: zq_ild 5 :: zq_ild_ 0 :: zq_ild 2 :: zq_ic_ne 49 :: zq_lld 3 :: zq_kl 1 :: zq_ild 5 :: zq_lshl :: zq_lor :: zq_lst 3 :: xb_284_4
theorem xc_284_3 : zCd 284 [0, 12, 14, 24, 49, 55] 24 xb_284_3 := zc_iload xj_284 26 5 rfl rfl (zc_bipush xj_284 28 40 40 rfl rfl rfl (zc_ic_ge xj_284 31 27 55 rfl rfl rfl (zc_aload_n xj_284 32 0 rfl rfl (zc_getf xj_284 35 33 9 8 102 rfl rfl (zc_iload xj_284 37 5 rfl rfl (zc_iaload xj_284 38 rfl rfl (zc_iload_n xj_284 39 2 rfl rfl (zc_ic_ne xj_284 42 10 49 rfl rfl rfl (zc_lload_n xj_284 43 3 rfl rfl (zc_lconst xj_284 44 1 rfl rfl (zc_iload xj_284 46 5 rfl rfl (zc_lshl xj_284 47 rfl rfl (zc_lor xj_284 48 rfl rfl (zc_lstore_n xj_284 49 3 rfl rfl (xc_284_4)))))))))))))))
noncomputable def xb_284_2 : List zF := zq_ald 0 :: zq_ild 1 :: zq_calli 283 1 9 6 :: zq_kl 0 :: zq_lst 3 :: zq_k 0 :: zq_ist 5 :: xb_284_3
theorem xc_284_2 : zCd 284 [0, 12, 14, 24, 49, 55] 14 xb_284_2 := zc_aload_n xj_284 15 0 rfl rfl (zc_iload_n xj_284 16 1 rfl rfl (zc_invokevirtual1 xj_284 19 293 283 1 360 9 6 rfl rfl rfl (zc_lconst xj_284 20 0 rfl rfl (zc_lstore_n xj_284 21 3 rfl rfl (zc_iconst xj_284 22 0 0 rfl rfl rfl (zc_istore xj_284 24 5 rfl rfl (xc_284_3)))))))
noncomputable def xb_284_1 : List zF := [zq_kl 0, zq_lret]
theorem xc_284_1 : zCd 284 [0, 12, 14, 24, 49, 55] 12 xb_284_1 := zc_lconst xj_284 13 0 rfl rfl (zc_lreturn xj_284 14 rfl rfl (trivial))
noncomputable def xb_284_0 : List zF := zq_ald 0 :: zq_ild 1 :: zq_calli 191 1 9 2 :: zq_if_eq 12 :: zq_ild 2 :: zq_if_ge 14 :: xb_284_1
theorem xc_284_0 : zCd 284 [0, 12, 14, 24, 49, 55] 0 xb_284_0 := zc_aload_n xj_284 1 0 rfl rfl (zc_iload_n xj_284 2 1 rfl rfl (zc_invokevirtual1 xj_284 5 71 191 1 264 9 2 rfl rfl rfl (zc_if_eq xj_284 8 7 12 rfl rfl rfl (zc_iload_n xj_284 9 2 rfl rfl (zc_if_ge xj_284 12 5 14 rfl rfl rfl (xc_284_1))))))
noncomputable def xm_284 : Lean.RArray (List zF) := .branch 24 (.branch 12 (.leaf xb_284_0) (.branch 14 (.leaf xb_284_1) (.leaf xb_284_2))) (.branch 49 (.leaf xb_284_3) (.branch 55 (.leaf xb_284_4) (.leaf xb_284_5)))
theorem xa_284 : zCdAll 284 [0, 12, 14, 24, 49, 55] xm_284 := zAll2_ok (P := fun t => zCd 284 [0, 12, 14, 24, 49, 55] t (xm_284.get t)) ⟨xc_284_0, xc_284_1, xc_284_2, xc_284_3, xc_284_4, xc_284_5, trivial⟩
/-- SquareMeshModel.crossed -/
theorem xj_285 : ∀ pc, pI 285 pc = pJ_285 pc := fun _ => rfl
noncomputable def xb_285_7 : List zF := [zq_ild 3, zq_iret 0]
theorem xc_285_7 : zCd 285 [0, 11, 16, 26, 62, 63, 71, 77] 77 xb_285_7 := zc_iload_n xj_285 78 3 rfl rfl (zc_ireturn0 xj_285 79 rfl rfl (trivial))
noncomputable def xb_285_6 : List zF := [zq_inc 4 1, zq_goto 16]
theorem xc_285_6 : zCd 285 [0, 11, 16, 26, 62, 63, 71, 77] 71 xb_285_6 := zc_iinc xj_285 74 4 1 1 rfl rfl rfl (zc_goto xj_285 75 (-58) 16 rfl rfl rfl (trivial))
noncomputable def xb_285_5 : List zF := [zq_add, zq_ist 3, zq_inc 5 1, zq_goto 26]
theorem xc_285_5 : zCd 285 [0, 11, 16, 26, 62, 63, 71, 77] 63 xb_285_5 := zc_iadd xj_285 64 rfl rfl (zc_istore_n xj_285 65 3 rfl rfl (zc_iinc xj_285 68 5 1 1 rfl rfl rfl (zc_goto xj_285 69 (-42) 26 rfl rfl rfl (trivial))))
noncomputable def xb_285_4 : List zF := zq_k 0 :: xb_285_5
theorem xc_285_4 : zCd 285 [0, 11, 16, 26, 62, 63, 71, 77] 62 xb_285_4 := zc_iconst xj_285 63 0 0 rfl rfl rfl (xc_285_5)
noncomputable def xb_285_3 : List zF := [zq_ild 5, zq_ild 4, zq_ic_ge 71, zq_ild 3, zq_ald 0, zq_ild 4, zq_ild 5, zq_calli 213 2 9 3, zq_if_eq 62, zq_ald 0, zq_ild 1, zq_ild 2, zq_ild 4, zq_ild 5, zq_calli 206 4 9 5, zq_if_eq 62, zq_k 1, zq_goto 63]
theorem xc_285_3 : zCd 285 [0, 11, 16, 26, 62, 63, 71, 77] 26 xb_285_3 := zc_iload xj_285 28 5 rfl rfl (zc_iload xj_285 30 4 rfl rfl (zc_ic_ge xj_285 33 41 71 rfl rfl rfl (zc_iload_n xj_285 34 3 rfl rfl (zc_aload_n xj_285 35 0 rfl rfl (zc_iload xj_285 37 4 rfl rfl (zc_iload xj_285 39 5 rfl rfl (zc_invokevirtual1 xj_285 42 234 213 2 321 9 3 rfl rfl rfl (zc_if_eq xj_285 45 20 62 rfl rfl rfl (zc_aload_n xj_285 46 0 rfl rfl (zc_iload_n xj_285 47 1 rfl rfl (zc_iload_n xj_285 48 2 rfl rfl (zc_iload xj_285 50 4 rfl rfl (zc_iload xj_285 52 5 rfl rfl (zc_invokevirtual1 xj_285 55 105 206 4 272 9 5 rfl rfl rfl (zc_if_eq xj_285 58 7 62 rfl rfl rfl (zc_iconst xj_285 59 1 1 rfl rfl rfl (zc_goto xj_285 60 4 63 rfl rfl rfl (trivial))))))))))))))))))
noncomputable def xb_285_2 : List zF := zq_ild 4 :: zq_k 40 :: zq_ic_ge 77 :: zq_k 0 :: zq_ist 5 :: xb_285_3
theorem xc_285_2 : zCd 285 [0, 11, 16, 26, 62, 63, 71, 77] 16 xb_285_2 := zc_iload xj_285 18 4 rfl rfl (zc_bipush xj_285 20 40 40 rfl rfl rfl (zc_ic_ge xj_285 23 57 77 rfl rfl rfl (zc_iconst xj_285 24 0 0 rfl rfl rfl (zc_istore xj_285 26 5 rfl rfl (xc_285_3)))))
noncomputable def xb_285_1 : List zF := zq_k 0 :: zq_ist 3 :: zq_k 0 :: zq_ist 4 :: xb_285_2
theorem xc_285_1 : zCd 285 [0, 11, 16, 26, 62, 63, 71, 77] 11 xb_285_1 := zc_iconst xj_285 12 0 0 rfl rfl rfl (zc_istore_n xj_285 13 3 rfl rfl (zc_iconst xj_285 14 0 0 rfl rfl rfl (zc_istore xj_285 16 4 rfl rfl (xc_285_2))))
noncomputable def xb_285_0 : List zF := [zq_ald 0, zq_ild 1, zq_ild 2, zq_calli 239 2 9 3, zq_if_ne 11, zq_k 4294967295, zq_iret 0]
theorem xc_285_0 : zCd 285 [0, 11, 16, 26, 62, 63, 71, 77] 0 xb_285_0 := zc_aload_n xj_285 1 0 rfl rfl (zc_iload_n xj_285 2 1 rfl rfl (zc_iload_n xj_285 3 2 rfl rfl (zc_invokevirtual1 xj_285 6 194 239 2 303 9 3 rfl rfl rfl (zc_if_ne xj_285 9 5 11 rfl rfl rfl (zc_iconst xj_285 10 (-1) 4294967295 rfl rfl rfl (zc_ireturn0 xj_285 11 rfl rfl (trivial)))))))
noncomputable def xm_285 : Lean.RArray (List zF) := .branch 62 (.branch 16 (.branch 11 (.leaf xb_285_0) (.leaf xb_285_1)) (.branch 26 (.leaf xb_285_2) (.leaf xb_285_3))) (.branch 71 (.branch 63 (.leaf xb_285_4) (.leaf xb_285_5)) (.branch 77 (.leaf xb_285_6) (.leaf xb_285_7)))
theorem xa_285 : zCdAll 285 [0, 11, 16, 26, 62, 63, 71, 77] xm_285 := zAll2_ok (P := fun t => zCd 285 [0, 11, 16, 26, 62, 63, 71, 77] t (xm_285.get t)) ⟨xc_285_0, xc_285_1, xc_285_2, xc_285_3, xc_285_4, xc_285_5, xc_285_6, xc_285_7, trivial⟩
/-- SquareMeshModel.sees -/
theorem xj_286 : ∀ pc, pI 286 pc = pJ_286 pc := fun _ => rfl
noncomputable def xb_286_2 : List zF := [zq_iret 1]
theorem xc_286_2 : zCd 286 [0, 22, 23] 23 xb_286_2 := zc_ireturn1 xj_286 24 rfl rfl (trivial)
noncomputable def xb_286_1 : List zF := zq_k 0 :: xb_286_2
theorem xc_286_1 : zCd 286 [0, 22, 23] 22 xb_286_1 := zc_iconst xj_286 23 0 0 rfl rfl rfl (xc_286_2)
noncomputable def xb_286_0 : List zF := [zq_ald 0, zq_ild 1, zq_ild 2, zq_calli 239 2 9 3, zq_if_eq 22, zq_ald 0, zq_ild 1, zq_ild 2, zq_calli 209 2 9 3, zq_if_eq 22, zq_k 1, zq_goto 23]
theorem xc_286_0 : zCd 286 [0, 22, 23] 0 xb_286_0 := zc_aload_n xj_286 1 0 rfl rfl (zc_iload_n xj_286 2 1 rfl rfl (zc_iload_n xj_286 3 2 rfl rfl (zc_invokevirtual1 xj_286 6 194 239 2 303 9 3 rfl rfl rfl (zc_if_eq xj_286 9 16 22 rfl rfl rfl (zc_aload_n xj_286 10 0 rfl rfl (zc_iload_n xj_286 11 1 rfl rfl (zc_iload_n xj_286 12 2 rfl rfl (zc_invokevirtual1 xj_286 15 128 209 2 267 9 3 rfl rfl rfl (zc_if_eq xj_286 18 7 22 rfl rfl rfl (zc_iconst xj_286 19 1 1 rfl rfl rfl (zc_goto xj_286 20 4 23 rfl rfl rfl (trivial))))))))))))
noncomputable def xm_286 : Lean.RArray (List zF) := .branch 22 (.leaf xb_286_0) (.branch 23 (.leaf xb_286_1) (.leaf xb_286_2))
theorem xa_286 : zCdAll 286 [0, 22, 23] xm_286 := zAll2_ok (P := fun t => zCd 286 [0, 22, 23] t (xm_286.get t)) ⟨xc_286_0, xc_286_1, xc_286_2, trivial⟩
/-- SquareMeshModel.seen -/
theorem xj_287 : ∀ pc, pI 287 pc = pJ_287 pc := fun _ => rfl
noncomputable def xb_287_3 : List zF := [zq_lld 2, zq_lret]
theorem xc_287_3 : zCd 287 [0, 5, 29, 35] 35 xb_287_3 := zc_lload_n xj_287 36 2 rfl rfl (zc_lreturn xj_287 37 rfl rfl (trivial))
noncomputable def xb_287_2 : List zF := [zq_inc 4 1, zq_goto 5]
theorem xc_287_2 : zCd 287 [0, 5, 29, 35] 29 xb_287_2 := zc_iinc xj_287 32 4 1 1 rfl rfl rfl (zc_goto xj_287 33 (-27) 5 rfl rfl rfl (trivial))
noncomputable def xb_287_1 : List zF := zq_ild 4 :: zq_k 40 :: zq_ic_ge 35 :: zq_ald 0 :: zq_ild 1 :: zq_ild 4 :: zq_calli 286 2 9 3 :: zq_if_eq 29 :: zq_lld 2 :: zq_kl 1 :: zq_ild 4 :: zq_lshl :: zq_lor :: zq_lst 2 :: xb_287_2
theorem xc_287_1 : zCd 287 [0, 5, 29, 35] 5 xb_287_1 := zc_iload xj_287 7 4 rfl rfl (zc_bipush xj_287 9 40 40 rfl rfl rfl (zc_ic_ge xj_287 12 26 35 rfl rfl rfl (zc_aload_n xj_287 13 0 rfl rfl (zc_iload_n xj_287 14 1 rfl rfl (zc_iload xj_287 16 4 rfl rfl (zc_invokevirtual1 xj_287 19 296 286 2 364 9 3 rfl rfl rfl (zc_if_eq xj_287 22 10 29 rfl rfl rfl (zc_lload_n xj_287 23 2 rfl rfl (zc_lconst xj_287 24 1 rfl rfl (zc_iload xj_287 26 4 rfl rfl (zc_lshl xj_287 27 rfl rfl (zc_lor xj_287 28 rfl rfl (zc_lstore_n xj_287 29 2 rfl rfl (xc_287_2))))))))))))))
noncomputable def xb_287_0 : List zF := zq_kl 0 :: zq_lst 2 :: zq_k 0 :: zq_ist 4 :: xb_287_1
theorem xc_287_0 : zCd 287 [0, 5, 29, 35] 0 xb_287_0 := zc_lconst xj_287 1 0 rfl rfl (zc_lstore_n xj_287 2 2 rfl rfl (zc_iconst xj_287 3 0 0 rfl rfl rfl (zc_istore xj_287 5 4 rfl rfl (xc_287_1))))
noncomputable def xm_287 : Lean.RArray (List zF) := .branch 29 (.branch 5 (.leaf xb_287_0) (.leaf xb_287_1)) (.branch 35 (.leaf xb_287_2) (.leaf xb_287_3))
theorem xa_287 : zCdAll 287 [0, 5, 29, 35] xm_287 := zAll2_ok (P := fun t => zCd 287 [0, 5, 29, 35] t (xm_287.get t)) ⟨xc_287_0, xc_287_1, xc_287_2, xc_287_3, trivial⟩
/-- SquareMeshModel.isShut -/
theorem xj_288 : ∀ pc, pI 288 pc = pJ_288 pc := fun _ => rfl
noncomputable def xb_288_2 : List zF := [zq_iret 1]
theorem xc_288_2 : zCd 288 [0, 25, 26] 26 xb_288_2 := zc_ireturn1 xj_288 27 rfl rfl (trivial)
noncomputable def xb_288_1 : List zF := zq_k 0 :: xb_288_2
theorem xc_288_1 : zCd 288 [0, 25, 26] 25 xb_288_1 := zc_iconst xj_288 26 0 0 rfl rfl rfl (xc_288_2)
noncomputable def xb_288_0 : List zF := [zq_ald 0, zq_ald 0, zq_ild 1, zq_ild 2, zq_calli 247 2 9 3, zq_ald 0, zq_ild 1, zq_ild 2, zq_k 1, zq_add, zq_calli 247 2 9 3, zq_calli 196 2 9 3, zq_if_eq 25, zq_k 1, zq_goto 26]
theorem xc_288_0 : zCd 288 [0, 25, 26] 0 xb_288_0 := zc_aload_n xj_288 1 0 rfl rfl (zc_aload_n xj_288 2 0 rfl rfl (zc_iload_n xj_288 3 1 rfl rfl (zc_iload_n xj_288 4 2 rfl rfl (zc_invokevirtual1 xj_288 7 206 247 2 313 9 3 rfl rfl rfl (zc_aload_n xj_288 8 0 rfl rfl (zc_iload_n xj_288 9 1 rfl rfl (zc_iload_n xj_288 10 2 rfl rfl (zc_iconst xj_288 11 1 1 rfl rfl rfl (zc_iadd xj_288 12 rfl rfl (zc_invokevirtual1 xj_288 15 206 247 2 313 9 3 rfl rfl rfl (zc_invokevirtual1 xj_288 18 102 196 2 258 9 3 rfl rfl rfl (zc_if_eq xj_288 21 7 25 rfl rfl rfl (zc_iconst xj_288 22 1 1 rfl rfl rfl (zc_goto xj_288 23 4 26 rfl rfl rfl (trivial)))))))))))))))
noncomputable def xm_288 : Lean.RArray (List zF) := .branch 25 (.leaf xb_288_0) (.branch 26 (.leaf xb_288_1) (.leaf xb_288_2))
theorem xa_288 : zCdAll 288 [0, 25, 26] xm_288 := zAll2_ok (P := fun t => zCd 288 [0, 25, 26] t (xm_288.get t)) ⟨xc_288_0, xc_288_1, xc_288_2, trivial⟩
/-- SquareMeshModel.layRegions -/
theorem xj_289 : ∀ pc, pI 289 pc = pJ_289 pc := fun _ => rfl
noncomputable def xb_289_14 : List zF := [zq_ild 1, zq_iret 0]
theorem xc_289_14 : zCd 289 [0, 4, 25, 27, 48, 57, 66, 78, 126, 142, 148, 154, 157, 160, 166] 166 xb_289_14 := zc_iload_n xj_289 167 1 rfl rfl (zc_ireturn0 xj_289 168 rfl rfl (trivial))
noncomputable def xb_289_13 : List zF := [zq_inc 2 1, zq_goto 27]
theorem xc_289_13 : zCd 289 [0, 4, 25, 27, 48, 57, 66, 78, 126, 142, 148, 154, 157, 160, 166] 160 xb_289_13 := zc_iinc xj_289 163 2 1 1 rfl rfl rfl (zc_goto xj_289 164 (-136) 27 rfl rfl rfl (trivial))
noncomputable def xb_289_12 : List zF := zq_inc 1 1 :: xb_289_13
theorem xc_289_12 : zCd 289 [0, 4, 25, 27, 48, 57, 66, 78, 126, 142, 148, 154, 157, 160, 166] 157 xb_289_12 := zc_iinc xj_289 160 1 1 1 rfl rfl rfl (xc_289_13)
noncomputable def xb_289_11 : List zF := [zq_goto 57]
theorem xc_289_11 : zCd 289 [0, 4, 25, 27, 48, 57, 66, 78, 126, 142, 148, 154, 157, 160, 166] 154 xb_289_11 := zc_goto xj_289 155 (-97) 57 rfl rfl rfl (trivial)
noncomputable def xb_289_10 : List zF := [zq_inc 4 1, zq_goto 66]
theorem xc_289_10 : zCd 289 [0, 4, 25, 27, 48, 57, 66, 78, 126, 142, 148, 154, 157, 160, 166] 148 xb_289_10 := zc_iinc xj_289 151 4 1 1 rfl rfl rfl (zc_goto xj_289 152 (-85) 66 rfl rfl rfl (trivial))
noncomputable def xb_289_9 : List zF := [zq_inc 5 1, zq_goto 78]
theorem xc_289_9 : zCd 289 [0, 4, 25, 27, 48, 57, 66, 78, 126, 142, 148, 154, 157, 160, 166] 142 xb_289_9 := zc_iinc xj_289 145 5 1 1 rfl rfl rfl (zc_goto xj_289 146 (-67) 78 rfl rfl rfl (trivial))
noncomputable def xb_289_8 : List zF := zq_ald 0 :: zq_getf 9 9 :: zq_ald 0 :: zq_ild 4 :: zq_ild 5 :: zq_calli 266 2 9 3 :: zq_ild 1 :: zq_iast :: zq_k 1 :: zq_ist 3 :: xb_289_9
theorem xc_289_8 : zCd 289 [0, 4, 25, 27, 48, 57, 66, 78, 126, 142, 148, 154, 157, 160, 166] 126 xb_289_8 := zc_aload_n xj_289 127 0 rfl rfl (zc_getf xj_289 130 36 9 9 103 rfl rfl (zc_aload_n xj_289 131 0 rfl rfl (zc_iload xj_289 133 4 rfl rfl (zc_iload xj_289 135 5 rfl rfl (zc_invokevirtual1 xj_289 138 272 266 2 330 9 3 rfl rfl rfl (zc_iload_n xj_289 139 1 rfl rfl (zc_iastore xj_289 140 rfl rfl (zc_iconst xj_289 141 1 1 rfl rfl rfl (zc_istore_n xj_289 142 3 rfl rfl (xc_289_9))))))))))
noncomputable def xb_289_7 : List zF := [zq_ild 5, zq_k 3, zq_ic_ge 148, zq_ald 0, zq_getf 9 9, zq_ild 4, zq_ild_ 0, zq_ild 1, zq_ic_ne 148, zq_ald 0, zq_ild 4, zq_ild 5, zq_calli 288 2 9 3, zq_if_ne 142, zq_ald 0, zq_getf 9 9, zq_ald 0, zq_ild 4, zq_ild 5, zq_calli 266 2 9 3, zq_ild_ 0, zq_k 4294967295, zq_ic_eq 126, zq_goto 142]
theorem xc_289_7 : zCd 289 [0, 4, 25, 27, 48, 57, 66, 78, 126, 142, 148, 154, 157, 160, 166] 78 xb_289_7 := zc_iload xj_289 80 5 rfl rfl (zc_iconst xj_289 81 3 3 rfl rfl rfl (zc_ic_ge xj_289 84 67 148 rfl rfl rfl (zc_aload_n xj_289 85 0 rfl rfl (zc_getf xj_289 88 36 9 9 103 rfl rfl (zc_iload xj_289 90 4 rfl rfl (zc_iaload xj_289 91 rfl rfl (zc_iload_n xj_289 92 1 rfl rfl (zc_ic_ne xj_289 95 56 148 rfl rfl rfl (zc_aload_n xj_289 96 0 rfl rfl (zc_iload xj_289 98 4 rfl rfl (zc_iload xj_289 100 5 rfl rfl (zc_invokevirtual1 xj_289 103 299 288 2 329 9 3 rfl rfl rfl (zc_if_ne xj_289 106 39 142 rfl rfl rfl (zc_aload_n xj_289 107 0 rfl rfl (zc_getf xj_289 110 36 9 9 103 rfl rfl (zc_aload_n xj_289 111 0 rfl rfl (zc_iload xj_289 113 4 rfl rfl (zc_iload xj_289 115 5 rfl rfl (zc_invokevirtual1 xj_289 118 272 266 2 330 9 3 rfl rfl rfl (zc_iaload xj_289 119 rfl rfl (zc_iconst xj_289 120 (-1) 4294967295 rfl rfl rfl (zc_ic_eq xj_289 123 6 126 rfl rfl rfl (zc_goto xj_289 124 19 142 rfl rfl rfl (trivial))))))))))))))))))))))))
noncomputable def xb_289_6 : List zF := zq_ild 4 :: zq_ald 0 :: zq_getf 9 4 :: zq_ic_ge 154 :: zq_k 0 :: zq_ist 5 :: xb_289_7
theorem xc_289_6 : zCd 289 [0, 4, 25, 27, 48, 57, 66, 78, 126, 142, 148, 154, 157, 160, 166] 66 xb_289_6 := zc_iload xj_289 68 4 rfl rfl (zc_aload_n xj_289 69 0 rfl rfl (zc_getf xj_289 72 134 9 4 98 rfl rfl (zc_ic_ge xj_289 75 82 154 rfl rfl rfl (zc_iconst xj_289 76 0 0 rfl rfl rfl (zc_istore xj_289 78 5 rfl rfl (xc_289_7))))))
noncomputable def xb_289_5 : List zF := zq_ild 3 :: zq_if_eq 157 :: zq_k 0 :: zq_ist 3 :: zq_k 0 :: zq_ist 4 :: xb_289_6
theorem xc_289_5 : zCd 289 [0, 4, 25, 27, 48, 57, 66, 78, 126, 142, 148, 154, 157, 160, 166] 57 xb_289_5 := zc_iload_n xj_289 58 3 rfl rfl (zc_if_eq xj_289 61 99 157 rfl rfl rfl (zc_iconst xj_289 62 0 0 rfl rfl rfl (zc_istore_n xj_289 63 3 rfl rfl (zc_iconst xj_289 64 0 0 rfl rfl rfl (zc_istore xj_289 66 4 rfl rfl (xc_289_6))))))
noncomputable def xb_289_4 : List zF := zq_ald 0 :: zq_getf 9 9 :: zq_ild 2 :: zq_ild 1 :: zq_iast :: zq_k 1 :: zq_ist 3 :: xb_289_5
theorem xc_289_4 : zCd 289 [0, 4, 25, 27, 48, 57, 66, 78, 126, 142, 148, 154, 157, 160, 166] 48 xb_289_4 := zc_aload_n xj_289 49 0 rfl rfl (zc_getf xj_289 52 36 9 9 103 rfl rfl (zc_iload_n xj_289 53 2 rfl rfl (zc_iload_n xj_289 54 1 rfl rfl (zc_iastore xj_289 55 rfl rfl (zc_iconst xj_289 56 1 1 rfl rfl rfl (zc_istore_n xj_289 57 3 rfl rfl (xc_289_5)))))))
noncomputable def xb_289_3 : List zF := [zq_ild 2, zq_ald 0, zq_getf 9 4, zq_ic_ge 166, zq_ald 0, zq_getf 9 9, zq_ild 2, zq_ild_ 0, zq_k 4294967295, zq_ic_eq 48, zq_goto 160]
theorem xc_289_3 : zCd 289 [0, 4, 25, 27, 48, 57, 66, 78, 126, 142, 148, 154, 157, 160, 166] 27 xb_289_3 := zc_iload_n xj_289 28 2 rfl rfl (zc_aload_n xj_289 29 0 rfl rfl (zc_getf xj_289 32 134 9 4 98 rfl rfl (zc_ic_ge xj_289 35 134 166 rfl rfl rfl (zc_aload_n xj_289 36 0 rfl rfl (zc_getf xj_289 39 36 9 9 103 rfl rfl (zc_iload_n xj_289 40 2 rfl rfl (zc_iaload xj_289 41 rfl rfl (zc_iconst xj_289 42 (-1) 4294967295 rfl rfl rfl (zc_ic_eq xj_289 45 6 48 rfl rfl rfl (zc_goto xj_289 46 115 160 rfl rfl rfl (trivial)))))))))))
noncomputable def xb_289_2 : List zF := zq_k 0 :: zq_ist 2 :: xb_289_3
theorem xc_289_2 : zCd 289 [0, 4, 25, 27, 48, 57, 66, 78, 126, 142, 148, 154, 157, 160, 166] 25 xb_289_2 := zc_iconst xj_289 26 0 0 rfl rfl rfl (zc_istore_n xj_289 27 2 rfl rfl (xc_289_3))
noncomputable def xb_289_1 : List zF := [zq_ild 2, zq_ald 0, zq_getf 9 4, zq_ic_ge 25, zq_ald 0, zq_getf 9 9, zq_ild 2, zq_k 4294967295, zq_iast, zq_inc 2 1, zq_goto 4]
theorem xc_289_1 : zCd 289 [0, 4, 25, 27, 48, 57, 66, 78, 126, 142, 148, 154, 157, 160, 166] 4 xb_289_1 := zc_iload_n xj_289 5 2 rfl rfl (zc_aload_n xj_289 6 0 rfl rfl (zc_getf xj_289 9 134 9 4 98 rfl rfl (zc_ic_ge xj_289 12 16 25 rfl rfl rfl (zc_aload_n xj_289 13 0 rfl rfl (zc_getf xj_289 16 36 9 9 103 rfl rfl (zc_iload_n xj_289 17 2 rfl rfl (zc_iconst xj_289 18 (-1) 4294967295 rfl rfl rfl (zc_iastore xj_289 19 rfl rfl (zc_iinc xj_289 22 2 1 1 rfl rfl rfl (zc_goto xj_289 23 (-18) 4 rfl rfl rfl (trivial)))))))))))
noncomputable def xb_289_0 : List zF := zq_k 0 :: zq_ist 1 :: zq_k 0 :: zq_ist 2 :: xb_289_1
theorem xc_289_0 : zCd 289 [0, 4, 25, 27, 48, 57, 66, 78, 126, 142, 148, 154, 157, 160, 166] 0 xb_289_0 := zc_iconst xj_289 1 0 0 rfl rfl rfl (zc_istore_n xj_289 2 1 rfl rfl (zc_iconst xj_289 3 0 0 rfl rfl rfl (zc_istore_n xj_289 4 2 rfl rfl (xc_289_1))))
noncomputable def xm_289 : Lean.RArray (List zF) := .branch 78 (.branch 27 (.branch 4 (.leaf xb_289_0) (.branch 25 (.leaf xb_289_1) (.leaf xb_289_2))) (.branch 57 (.branch 48 (.leaf xb_289_3) (.leaf xb_289_4)) (.branch 66 (.leaf xb_289_5) (.leaf xb_289_6)))) (.branch 154 (.branch 142 (.branch 126 (.leaf xb_289_7) (.leaf xb_289_8)) (.branch 148 (.leaf xb_289_9) (.leaf xb_289_10))) (.branch 160 (.branch 157 (.leaf xb_289_11) (.leaf xb_289_12)) (.branch 166 (.leaf xb_289_13) (.leaf xb_289_14))))
theorem xa_289 : zCdAll 289 [0, 4, 25, 27, 48, 57, 66, 78, 126, 142, 148, 154, 157, 160, 166] xm_289 := zAll2_ok (P := fun t => zCd 289 [0, 4, 25, 27, 48, 57, 66, 78, 126, 142, 148, 154, 157, 160, 166] t (xm_289.get t)) ⟨xc_289_0, xc_289_1, xc_289_2, xc_289_3, xc_289_4, xc_289_5, xc_289_6, xc_289_7, xc_289_8, xc_289_9, xc_289_10, xc_289_11, xc_289_12, xc_289_13, xc_289_14, trivial⟩
/-- SquareMeshModel.region -/
theorem xj_290 : ∀ pc, pI 290 pc = pJ_290 pc := fun _ => rfl
noncomputable def xb_290_1 : List zF := [zq_ald 0, zq_calli 289 0 9 6, zq_ist 2, zq_ald 0, zq_getf 9 9, zq_ild 1, zq_ild_ 0, zq_iret 0]
theorem xc_290_1 : zCd 290 [0, 10] 10 xb_290_1 := zc_aload_n xj_290 11 0 rfl rfl (zc_invokevirtual1 xj_290 14 246 289 0 328 9 6 rfl rfl rfl (zc_istore_n xj_290 15 2 rfl rfl (zc_aload_n xj_290 16 0 rfl rfl (zc_getf xj_290 19 36 9 9 103 rfl rfl (zc_iload_n xj_290 20 1 rfl rfl (zc_iaload xj_290 21 rfl rfl (zc_ireturn0 xj_290 22 rfl rfl (trivial))))))))
noncomputable def xb_290_0 : List zF := [zq_ald 0, zq_ild 1, zq_calli 264 1 9 2, zq_if_ne 10, zq_k 4294967295, zq_iret 0]
theorem xc_290_0 : zCd 290 [0, 10] 0 xb_290_0 := zc_aload_n xj_290 1 0 rfl rfl (zc_iload_n xj_290 2 1 rfl rfl (zc_invokevirtual1 xj_290 5 269 264 1 347 9 2 rfl rfl rfl (zc_if_ne xj_290 8 5 10 rfl rfl rfl (zc_iconst xj_290 9 (-1) 4294967295 rfl rfl rfl (zc_ireturn0 xj_290 10 rfl rfl (trivial))))))
noncomputable def xm_290 : Lean.RArray (List zF) := .branch 10 (.leaf xb_290_0) (.leaf xb_290_1)
theorem xa_290 : zCdAll 290 [0, 10] xm_290 := zAll2_ok (P := fun t => zCd 290 [0, 10] t (xm_290.get t)) ⟨xc_290_0, xc_290_1, trivial⟩
/-- SquareMeshModel.ofRegion -/
theorem xj_291 : ∀ pc, pI 291 pc = pJ_291 pc := fun _ => rfl
noncomputable def xb_291_9 : List zF := [zq_k 4294967295, zq_iret 0]
theorem xc_291_9 : zCd 291 [0, 18, 52, 58, 64, 76, 77, 78, 84, 90] 90 xb_291_9 := zc_iconst xj_291 91 (-1) 4294967295 rfl rfl rfl (zc_ireturn0 xj_291 92 rfl rfl (trivial))
noncomputable def xb_291_8 : List zF := [zq_ald 0, zq_ild 1, zq_calli 295 1 9 6, zq_iret 0]
theorem xc_291_8 : zCd 291 [0, 18, 52, 58, 64, 76, 77, 78, 84, 90] 84 xb_291_8 := zc_aload_n xj_291 85 0 rfl rfl (zc_iload_n xj_291 86 1 rfl rfl (zc_invokevirtual1 xj_291 89 311 295 1 369 9 6 rfl rfl rfl (zc_ireturn0 xj_291 90 rfl rfl (trivial))))
noncomputable def xb_291_7 : List zF := [zq_ald 0, zq_ild 1, zq_calli 294 1 9 4, zq_iret 0]
theorem xc_291_7 : zCd 291 [0, 18, 52, 58, 64, 76, 77, 78, 84, 90] 78 xb_291_7 := zc_aload_n xj_291 79 0 rfl rfl (zc_iload_n xj_291 80 1 rfl rfl (zc_invokevirtual1 xj_291 83 308 294 1 335 9 4 rfl rfl rfl (zc_ireturn0 xj_291 84 rfl rfl (trivial))))
noncomputable def xb_291_6 : List zF := [zq_iret 0]
theorem xc_291_6 : zCd 291 [0, 18, 52, 58, 64, 76, 77, 78, 84, 90] 77 xb_291_6 := zc_ireturn0 xj_291 78 rfl rfl (trivial)
noncomputable def xb_291_5 : List zF := zq_k 0 :: xb_291_6
theorem xc_291_5 : zCd 291 [0, 18, 52, 58, 64, 76, 77, 78, 84, 90] 76 xb_291_5 := zc_iconst xj_291 77 0 0 rfl rfl rfl (xc_291_6)
noncomputable def xb_291_4 : List zF := [zq_ald 0, zq_ild 1, zq_calli 294 1 9 4, zq_if_le 76, zq_k 1, zq_goto 77]
theorem xc_291_4 : zCd 291 [0, 18, 52, 58, 64, 76, 77, 78, 84, 90] 64 xb_291_4 := zc_aload_n xj_291 65 0 rfl rfl (zc_iload_n xj_291 66 1 rfl rfl (zc_invokevirtual1 xj_291 69 308 294 1 335 9 4 rfl rfl rfl (zc_if_le xj_291 72 7 76 rfl rfl rfl (zc_iconst xj_291 73 1 1 rfl rfl rfl (zc_goto xj_291 74 4 77 rfl rfl rfl (trivial))))))
noncomputable def xb_291_3 : List zF := [zq_ald 0, zq_ild 1, zq_calli 293 1 9 4, zq_iret 0]
theorem xc_291_3 : zCd 291 [0, 18, 52, 58, 64, 76, 77, 78, 84, 90] 58 xb_291_3 := zc_aload_n xj_291 59 0 rfl rfl (zc_iload_n xj_291 60 1 rfl rfl (zc_invokevirtual1 xj_291 63 305 293 1 368 9 4 rfl rfl rfl (zc_ireturn0 xj_291 64 rfl rfl (trivial))))
noncomputable def xb_291_2 : List zF := [zq_ald 0, zq_ild 1, zq_calli 292 1 9 4, zq_iret 0]
theorem xc_291_2 : zCd 291 [0, 18, 52, 58, 64, 76, 77, 78, 84, 90] 52 xb_291_2 := zc_aload_n xj_291 53 0 rfl rfl (zc_iload_n xj_291 54 1 rfl rfl (zc_invokevirtual1 xj_291 57 302 292 1 367 9 4 rfl rfl rfl (zc_ireturn0 xj_291 58 rfl rfl (trivial))))
noncomputable def xb_291_1 : List zF := [zq_ild 2, zq_tab 0 [52, 58, 64, 78, 84] 90]
theorem xc_291_1 : zCd 291 [0, 18, 52, 58, 64, 76, 77, 78, 84, 90] 18 xb_291_1 := zc_iload_n xj_291 19 2 rfl rfl (zc_tab xj_291 20 71 0 4 #[33, 39, 45, 59, 65] 90 [52, 58, 64, 78, 84] 0 rfl rfl rfl rfl rfl (trivial))
noncomputable def xb_291_0 : List zF := [zq_ald 0, zq_calli 289 0 9 6, zq_ist 3, zq_ild 1, zq_k 0, zq_ild 3, zq_k 1, zq_sub, zq_calls 188 3 3, zq_if_ne 18, zq_k 4294967295, zq_iret 0]
theorem xc_291_0 : zCd 291 [0, 18, 52, 58, 64, 76, 77, 78, 84, 90] 0 xb_291_0 := zc_aload_n xj_291 1 0 rfl rfl (zc_invokevirtual1 xj_291 4 246 289 0 328 9 6 rfl rfl rfl (zc_istore_n xj_291 5 3 rfl rfl (zc_iload_n xj_291 6 1 rfl rfl (zc_iconst xj_291 7 0 0 rfl rfl rfl (zc_iload_n xj_291 8 3 rfl rfl (zc_iconst xj_291 9 1 1 rfl rfl rfl (zc_isub xj_291 10 rfl rfl (zc_invokestatic2 xj_291 13 67 188 3 265 0 3 rfl rfl rfl rfl (zc_if_ne xj_291 16 5 18 rfl rfl rfl (zc_iconst xj_291 17 (-1) 4294967295 rfl rfl rfl (zc_ireturn0 xj_291 18 rfl rfl (trivial))))))))))))
noncomputable def xm_291 : Lean.RArray (List zF) := .branch 76 (.branch 52 (.branch 18 (.leaf xb_291_0) (.leaf xb_291_1)) (.branch 58 (.leaf xb_291_2) (.branch 64 (.leaf xb_291_3) (.leaf xb_291_4)))) (.branch 78 (.branch 77 (.leaf xb_291_5) (.leaf xb_291_6)) (.branch 84 (.leaf xb_291_7) (.branch 90 (.leaf xb_291_8) (.leaf xb_291_9))))
theorem xa_291 : zCdAll 291 [0, 18, 52, 58, 64, 76, 77, 78, 84, 90] xm_291 := zAll2_ok (P := fun t => zCd 291 [0, 18, 52, 58, 64, 76, 77, 78, 84, 90] t (xm_291.get t)) ⟨xc_291_0, xc_291_1, xc_291_2, xc_291_3, xc_291_4, xc_291_5, xc_291_6, xc_291_7, xc_291_8, xc_291_9, trivial⟩
/-- SquareMeshModel.manyOf -/
theorem xj_292 : ∀ pc, pI 292 pc = pJ_292 pc := fun _ => rfl
noncomputable def xb_292_4 : List zF := [zq_ild 2, zq_iret 0]
theorem xc_292_4 : zCd 292 [0, 4, 27, 28, 36] 36 xb_292_4 := zc_iload_n xj_292 37 2 rfl rfl (zc_ireturn0 xj_292 38 rfl rfl (trivial))
noncomputable def xb_292_3 : List zF := [zq_add, zq_ist 2, zq_inc 3 1, zq_goto 4]
theorem xc_292_3 : zCd 292 [0, 4, 27, 28, 36] 28 xb_292_3 := zc_iadd xj_292 29 rfl rfl (zc_istore_n xj_292 30 2 rfl rfl (zc_iinc xj_292 33 3 1 1 rfl rfl rfl (zc_goto xj_292 34 (-29) 4 rfl rfl rfl (trivial))))
noncomputable def xb_292_2 : List zF := zq_k 0 :: xb_292_3
theorem xc_292_2 : zCd 292 [0, 4, 27, 28, 36] 27 xb_292_2 := zc_iconst xj_292 28 0 0 rfl rfl rfl (xc_292_3)
noncomputable def xb_292_1 : List zF := [zq_ild 3, zq_ald 0, zq_getf 9 4, zq_ic_ge 36, zq_ild 2, zq_ald 0, zq_getf 9 9, zq_ild 3, zq_ild_ 0, zq_ild 1, zq_ic_ne 27, zq_k 1, zq_goto 28]
theorem xc_292_1 : zCd 292 [0, 4, 27, 28, 36] 4 xb_292_1 := zc_iload_n xj_292 5 3 rfl rfl (zc_aload_n xj_292 6 0 rfl rfl (zc_getf xj_292 9 134 9 4 98 rfl rfl (zc_ic_ge xj_292 12 27 36 rfl rfl rfl (zc_iload_n xj_292 13 2 rfl rfl (zc_aload_n xj_292 14 0 rfl rfl (zc_getf xj_292 17 36 9 9 103 rfl rfl (zc_iload_n xj_292 18 3 rfl rfl (zc_iaload xj_292 19 rfl rfl (zc_iload_n xj_292 20 1 rfl rfl (zc_ic_ne xj_292 23 7 27 rfl rfl rfl (zc_iconst xj_292 24 1 1 rfl rfl rfl (zc_goto xj_292 25 4 28 rfl rfl rfl (trivial)))))))))))))
noncomputable def xb_292_0 : List zF := zq_k 0 :: zq_ist 2 :: zq_k 0 :: zq_ist 3 :: xb_292_1
theorem xc_292_0 : zCd 292 [0, 4, 27, 28, 36] 0 xb_292_0 := zc_iconst xj_292 1 0 0 rfl rfl rfl (zc_istore_n xj_292 2 2 rfl rfl (zc_iconst xj_292 3 0 0 rfl rfl rfl (zc_istore_n xj_292 4 3 rfl rfl (xc_292_1))))
noncomputable def xm_292 : Lean.RArray (List zF) := .branch 27 (.branch 4 (.leaf xb_292_0) (.leaf xb_292_1)) (.branch 28 (.leaf xb_292_2) (.branch 36 (.leaf xb_292_3) (.leaf xb_292_4)))
theorem xa_292 : zCdAll 292 [0, 4, 27, 28, 36] xm_292 := zAll2_ok (P := fun t => zCd 292 [0, 4, 27, 28, 36] t (xm_292.get t)) ⟨xc_292_0, xc_292_1, xc_292_2, xc_292_3, xc_292_4, trivial⟩
/-- SquareMeshModel.areaIn -/
theorem xj_293 : ∀ pc, pI 293 pc = pJ_293 pc := fun _ => rfl
noncomputable def xb_293_4 : List zF := [zq_ild 2, zq_iret 0]
theorem xc_293_4 : zCd 293 [0, 4, 31, 32, 40] 40 xb_293_4 := zc_iload_n xj_293 41 2 rfl rfl (zc_ireturn0 xj_293 42 rfl rfl (trivial))
noncomputable def xb_293_3 : List zF := [zq_add, zq_ist 2, zq_inc 3 1, zq_goto 4]
theorem xc_293_3 : zCd 293 [0, 4, 31, 32, 40] 32 xb_293_3 := zc_iadd xj_293 33 rfl rfl (zc_istore_n xj_293 34 2 rfl rfl (zc_iinc xj_293 37 3 1 1 rfl rfl rfl (zc_goto xj_293 38 (-33) 4 rfl rfl rfl (trivial))))
noncomputable def xb_293_2 : List zF := zq_k 0 :: xb_293_3
theorem xc_293_2 : zCd 293 [0, 4, 31, 32, 40] 31 xb_293_2 := zc_iconst xj_293 32 0 0 rfl rfl rfl (xc_293_3)
noncomputable def xb_293_1 : List zF := [zq_ild 3, zq_ald 0, zq_getf 9 4, zq_ic_ge 40, zq_ild 2, zq_ald 0, zq_getf 9 9, zq_ild 3, zq_ild_ 0, zq_ild 1, zq_ic_ne 31, zq_ald 0, zq_ild 3, zq_calli 250 1 9 2, zq_goto 32]
theorem xc_293_1 : zCd 293 [0, 4, 31, 32, 40] 4 xb_293_1 := zc_iload_n xj_293 5 3 rfl rfl (zc_aload_n xj_293 6 0 rfl rfl (zc_getf xj_293 9 134 9 4 98 rfl rfl (zc_ic_ge xj_293 12 31 40 rfl rfl rfl (zc_iload_n xj_293 13 2 rfl rfl (zc_aload_n xj_293 14 0 rfl rfl (zc_getf xj_293 17 36 9 9 103 rfl rfl (zc_iload_n xj_293 18 3 rfl rfl (zc_iaload xj_293 19 rfl rfl (zc_iload_n xj_293 20 1 rfl rfl (zc_ic_ne xj_293 23 11 31 rfl rfl rfl (zc_aload_n xj_293 24 0 rfl rfl (zc_iload_n xj_293 25 3 rfl rfl (zc_invokevirtual1 xj_293 28 212 250 1 312 9 2 rfl rfl rfl (zc_goto xj_293 29 4 32 rfl rfl rfl (trivial)))))))))))))))
noncomputable def xb_293_0 : List zF := zq_k 0 :: zq_ist 2 :: zq_k 0 :: zq_ist 3 :: xb_293_1
theorem xc_293_0 : zCd 293 [0, 4, 31, 32, 40] 0 xb_293_0 := zc_iconst xj_293 1 0 0 rfl rfl rfl (zc_istore_n xj_293 2 2 rfl rfl (zc_iconst xj_293 3 0 0 rfl rfl rfl (zc_istore_n xj_293 4 3 rfl rfl (xc_293_1))))
noncomputable def xm_293 : Lean.RArray (List zF) := .branch 31 (.branch 4 (.leaf xb_293_0) (.leaf xb_293_1)) (.branch 32 (.leaf xb_293_2) (.branch 40 (.leaf xb_293_3) (.leaf xb_293_4)))
theorem xa_293 : zCdAll 293 [0, 4, 31, 32, 40] xm_293 := zAll2_ok (P := fun t => zCd 293 [0, 4, 31, 32, 40] t (xm_293.get t)) ⟨xc_293_0, xc_293_1, xc_293_2, xc_293_3, xc_293_4, trivial⟩
/-- SquareMeshModel.holesIn -/
theorem xj_294 : ∀ pc, pI 294 pc = pJ_294 pc := fun _ => rfl
noncomputable def xb_294_4 : List zF := [zq_ild 2, zq_iret 0]
theorem xc_294_4 : zCd 294 [0, 4, 60, 61, 69] 69 xb_294_4 := zc_iload_n xj_294 70 2 rfl rfl (zc_ireturn0 xj_294 71 rfl rfl (trivial))
noncomputable def xb_294_3 : List zF := [zq_add, zq_ist 2, zq_inc 3 1, zq_goto 4]
theorem xc_294_3 : zCd 294 [0, 4, 60, 61, 69] 61 xb_294_3 := zc_iadd xj_294 62 rfl rfl (zc_istore_n xj_294 63 2 rfl rfl (zc_iinc xj_294 66 3 1 1 rfl rfl rfl (zc_goto xj_294 67 (-62) 4 rfl rfl rfl (trivial))))
noncomputable def xb_294_2 : List zF := zq_k 0 :: xb_294_3
theorem xc_294_2 : zCd 294 [0, 4, 60, 61, 69] 60 xb_294_2 := zc_iconst xj_294 61 0 0 rfl rfl rfl (xc_294_3)
noncomputable def xb_294_1 : List zF := [zq_ild 3, zq_ald 0, zq_getf 9 0, zq_k 1763, zq_ild_ 0, zq_ic_ge 69, zq_ild 2, zq_ald 0, zq_getf 9 9, zq_ald 0, zq_ald 0, zq_getf 9 0, zq_k 1764, zq_k 2, zq_ild 3, zq_mul, zq_add, zq_ild_ 0, zq_ald 0, zq_getf 9 0, zq_k 1764, zq_k 2, zq_ild 3, zq_mul, zq_add, zq_k 1, zq_add, zq_ild_ 0, zq_calli 274 2 9 4, zq_ild_ 0, zq_ild 1, zq_ic_ne 60, zq_k 1, zq_goto 61]
theorem xc_294_1 : zCd 294 [0, 4, 60, 61, 69] 4 xb_294_1 := zc_iload_n xj_294 5 3 rfl rfl (zc_aload_n xj_294 6 0 rfl rfl (zc_getf xj_294 9 8 9 0 94 rfl rfl (zc_sipush xj_294 12 1763 1763 rfl rfl rfl (zc_iaload xj_294 13 rfl rfl (zc_ic_ge xj_294 16 56 69 rfl rfl rfl (zc_iload_n xj_294 17 2 rfl rfl (zc_aload_n xj_294 18 0 rfl rfl (zc_getf xj_294 21 36 9 9 103 rfl rfl (zc_aload_n xj_294 22 0 rfl rfl (zc_aload_n xj_294 23 0 rfl rfl (zc_getf xj_294 26 8 9 0 94 rfl rfl (zc_sipush xj_294 29 1764 1764 rfl rfl rfl (zc_iconst xj_294 30 2 2 rfl rfl rfl (zc_iload_n xj_294 31 3 rfl rfl (zc_imul xj_294 32 rfl rfl (zc_iadd xj_294 33 rfl rfl (zc_iaload xj_294 34 rfl rfl (zc_aload_n xj_294 35 0 rfl rfl (zc_getf xj_294 38 8 9 0 94 rfl rfl (zc_sipush xj_294 41 1764 1764 rfl rfl rfl (zc_iconst xj_294 42 2 2 rfl rfl rfl (zc_iload_n xj_294 43 3 rfl rfl (zc_imul xj_294 44 rfl rfl (zc_iadd xj_294 45 rfl rfl (zc_iconst xj_294 46 1 1 rfl rfl rfl (zc_iadd xj_294 47 rfl rfl (zc_iaload xj_294 48 rfl rfl (zc_invokevirtual1 xj_294 51 281 274 2 336 9 4 rfl rfl rfl (zc_iaload xj_294 52 rfl rfl (zc_iload_n xj_294 53 1 rfl rfl (zc_ic_ne xj_294 56 7 60 rfl rfl rfl (zc_iconst xj_294 57 1 1 rfl rfl rfl (zc_goto xj_294 58 4 61 rfl rfl rfl (trivial))))))))))))))))))))))))))))))))))
noncomputable def xb_294_0 : List zF := zq_k 0 :: zq_ist 2 :: zq_k 0 :: zq_ist 3 :: xb_294_1
theorem xc_294_0 : zCd 294 [0, 4, 60, 61, 69] 0 xb_294_0 := zc_iconst xj_294 1 0 0 rfl rfl rfl (zc_istore_n xj_294 2 2 rfl rfl (zc_iconst xj_294 3 0 0 rfl rfl rfl (zc_istore_n xj_294 4 3 rfl rfl (xc_294_1))))
noncomputable def xm_294 : Lean.RArray (List zF) := .branch 60 (.branch 4 (.leaf xb_294_0) (.leaf xb_294_1)) (.branch 61 (.leaf xb_294_2) (.branch 69 (.leaf xb_294_3) (.leaf xb_294_4)))
theorem xa_294 : zCdAll 294 [0, 4, 60, 61, 69] xm_294 := zAll2_ok (P := fun t => zCd 294 [0, 4, 60, 61, 69] t (xm_294.get t)) ⟨xc_294_0, xc_294_1, xc_294_2, xc_294_3, xc_294_4, trivial⟩
/-- SquareMeshModel.pointsIn -/
theorem xj_295 : ∀ pc, pI 295 pc = pJ_295 pc := fun _ => rfl
noncomputable def xb_295_9 : List zF := [zq_ild 2, zq_iret 0]
theorem xc_295_9 : zCd 295 [0, 4, 16, 51, 55, 56, 64, 74, 75, 83] 83 xb_295_9 := zc_iload_n xj_295 84 2 rfl rfl (zc_ireturn0 xj_295 85 rfl rfl (trivial))
noncomputable def xb_295_8 : List zF := [zq_add, zq_ist 2, zq_inc 3 1, zq_goto 4]
theorem xc_295_8 : zCd 295 [0, 4, 16, 51, 55, 56, 64, 74, 75, 83] 75 xb_295_8 := zc_iadd xj_295 76 rfl rfl (zc_istore_n xj_295 77 2 rfl rfl (zc_iinc xj_295 80 3 1 1 rfl rfl rfl (zc_goto xj_295 81 (-76) 4 rfl rfl rfl (trivial))))
noncomputable def xb_295_7 : List zF := zq_k 0 :: xb_295_8
theorem xc_295_7 : zCd 295 [0, 4, 16, 51, 55, 56, 64, 74, 75, 83] 74 xb_295_7 := zc_iconst xj_295 75 0 0 rfl rfl rfl (xc_295_8)
noncomputable def xb_295_6 : List zF := [zq_ild 2, zq_ild 4, zq_if_eq 74, zq_k 1, zq_goto 75]
theorem xc_295_6 : zCd 295 [0, 4, 16, 51, 55, 56, 64, 74, 75, 83] 64 xb_295_6 := zc_iload_n xj_295 65 2 rfl rfl (zc_iload xj_295 67 4 rfl rfl (zc_if_eq xj_295 70 7 74 rfl rfl rfl (zc_iconst xj_295 71 1 1 rfl rfl rfl (zc_goto xj_295 72 4 75 rfl rfl rfl (trivial)))))
noncomputable def xb_295_5 : List zF := [zq_ist 4, zq_inc 5 1, zq_goto 16]
theorem xc_295_5 : zCd 295 [0, 4, 16, 51, 55, 56, 64, 74, 75, 83] 56 xb_295_5 := zc_istore xj_295 58 4 rfl rfl (zc_iinc xj_295 61 5 1 1 rfl rfl rfl (zc_goto xj_295 62 (-45) 16 rfl rfl rfl (trivial)))
noncomputable def xb_295_4 : List zF := zq_k 0 :: xb_295_5
theorem xc_295_4 : zCd 295 [0, 4, 16, 51, 55, 56, 64, 74, 75, 83] 55 xb_295_4 := zc_iconst xj_295 56 0 0 rfl rfl rfl (xc_295_5)
noncomputable def xb_295_3 : List zF := [zq_k 1, zq_goto 56]
theorem xc_295_3 : zCd 295 [0, 4, 16, 51, 55, 56, 64, 74, 75, 83] 51 xb_295_3 := zc_iconst xj_295 52 1 1 rfl rfl rfl (zc_goto xj_295 53 4 56 rfl rfl rfl (trivial))
noncomputable def xb_295_2 : List zF := zq_ild 5 :: zq_ald 0 :: zq_getf 9 4 :: zq_ic_ge 64 :: zq_ild 4 :: zq_if_ne 51 :: zq_ald 0 :: zq_getf 9 9 :: zq_ild 5 :: zq_ild_ 0 :: zq_ild 1 :: zq_ic_ne 55 :: zq_ald 0 :: zq_ild 5 :: zq_ild 3 :: zq_calli 270 2 9 3 :: zq_if_eq 55 :: xb_295_3
theorem xc_295_2 : zCd 295 [0, 4, 16, 51, 55, 56, 64, 74, 75, 83] 16 xb_295_2 := zc_iload xj_295 18 5 rfl rfl (zc_aload_n xj_295 19 0 rfl rfl (zc_getf xj_295 22 134 9 4 98 rfl rfl (zc_ic_ge xj_295 25 42 64 rfl rfl rfl (zc_iload xj_295 27 4 rfl rfl (zc_if_ne xj_295 30 24 51 rfl rfl rfl (zc_aload_n xj_295 31 0 rfl rfl (zc_getf xj_295 34 36 9 9 103 rfl rfl (zc_iload xj_295 36 5 rfl rfl (zc_iaload xj_295 37 rfl rfl (zc_iload_n xj_295 38 1 rfl rfl (zc_ic_ne xj_295 41 17 55 rfl rfl rfl (zc_aload_n xj_295 42 0 rfl rfl (zc_iload xj_295 44 5 rfl rfl (zc_iload_n xj_295 45 3 rfl rfl (zc_invokevirtual1 xj_295 48 275 270 2 351 9 3 rfl rfl rfl (zc_if_eq xj_295 51 7 55 rfl rfl rfl (xc_295_3)))))))))))))))))
noncomputable def xb_295_1 : List zF := zq_ild 3 :: zq_k 40 :: zq_ic_ge 83 :: zq_k 0 :: zq_ist 4 :: zq_k 0 :: zq_ist 5 :: xb_295_2
theorem xc_295_1 : zCd 295 [0, 4, 16, 51, 55, 56, 64, 74, 75, 83] 4 xb_295_1 := zc_iload_n xj_295 5 3 rfl rfl (zc_bipush xj_295 7 40 40 rfl rfl rfl (zc_ic_ge xj_295 10 76 83 rfl rfl rfl (zc_iconst xj_295 11 0 0 rfl rfl rfl (zc_istore xj_295 13 4 rfl rfl (zc_iconst xj_295 14 0 0 rfl rfl rfl (zc_istore xj_295 16 5 rfl rfl (xc_295_2)))))))
noncomputable def xb_295_0 : List zF := zq_k 0 :: zq_ist 2 :: zq_k 0 :: zq_ist 3 :: xb_295_1
theorem xc_295_0 : zCd 295 [0, 4, 16, 51, 55, 56, 64, 74, 75, 83] 0 xb_295_0 := zc_iconst xj_295 1 0 0 rfl rfl rfl (zc_istore_n xj_295 2 2 rfl rfl (zc_iconst xj_295 3 0 0 rfl rfl rfl (zc_istore_n xj_295 4 3 rfl rfl (xc_295_1))))
noncomputable def xm_295 : Lean.RArray (List zF) := .branch 56 (.branch 16 (.branch 4 (.leaf xb_295_0) (.leaf xb_295_1)) (.branch 51 (.leaf xb_295_2) (.branch 55 (.leaf xb_295_3) (.leaf xb_295_4)))) (.branch 74 (.branch 64 (.leaf xb_295_5) (.leaf xb_295_6)) (.branch 75 (.leaf xb_295_7) (.branch 83 (.leaf xb_295_8) (.leaf xb_295_9))))
theorem xa_295 : zCdAll 295 [0, 4, 16, 51, 55, 56, 64, 74, 75, 83] xm_295 := zAll2_ok (P := fun t => zCd 295 [0, 4, 16, 51, 55, 56, 64, 74, 75, 83] t (xm_295.get t)) ⟨xc_295_0, xc_295_1, xc_295_2, xc_295_3, xc_295_4, xc_295_5, xc_295_6, xc_295_7, xc_295_8, xc_295_9, trivial⟩
/-- SquareMeshModel.hollows -/
theorem xj_296 : ∀ pc, pI 296 pc = pJ_296 pc := fun _ => rfl
noncomputable def xb_296_4 : List zF := [zq_ild 2, zq_iret 0]
theorem xc_296_4 : zCd 296 [0, 9, 27, 28, 36] 36 xb_296_4 := zc_iload_n xj_296 37 2 rfl rfl (zc_ireturn0 xj_296 38 rfl rfl (trivial))
noncomputable def xb_296_3 : List zF := [zq_add, zq_ist 2, zq_inc 3 1, zq_goto 9]
theorem xc_296_3 : zCd 296 [0, 9, 27, 28, 36] 28 xb_296_3 := zc_iadd xj_296 29 rfl rfl (zc_istore_n xj_296 30 2 rfl rfl (zc_iinc xj_296 33 3 1 1 rfl rfl rfl (zc_goto xj_296 34 (-24) 9 rfl rfl rfl (trivial))))
noncomputable def xb_296_2 : List zF := zq_k 0 :: xb_296_3
theorem xc_296_2 : zCd 296 [0, 9, 27, 28, 36] 27 xb_296_2 := zc_iconst xj_296 28 0 0 rfl rfl rfl (xc_296_3)
noncomputable def xb_296_1 : List zF := [zq_ild 3, zq_ild 1, zq_ic_ge 36, zq_ild 2, zq_ald 0, zq_ild 3, zq_calli 294 1 9 4, zq_if_le 27, zq_k 1, zq_goto 28]
theorem xc_296_1 : zCd 296 [0, 9, 27, 28, 36] 9 xb_296_1 := zc_iload_n xj_296 10 3 rfl rfl (zc_iload_n xj_296 11 1 rfl rfl (zc_ic_ge xj_296 14 25 36 rfl rfl rfl (zc_iload_n xj_296 15 2 rfl rfl (zc_aload_n xj_296 16 0 rfl rfl (zc_iload_n xj_296 17 3 rfl rfl (zc_invokevirtual1 xj_296 20 308 294 1 335 9 4 rfl rfl rfl (zc_if_le xj_296 23 7 27 rfl rfl rfl (zc_iconst xj_296 24 1 1 rfl rfl rfl (zc_goto xj_296 25 4 28 rfl rfl rfl (trivial))))))))))
noncomputable def xb_296_0 : List zF := zq_ald 0 :: zq_calli 289 0 9 6 :: zq_ist 1 :: zq_k 0 :: zq_ist 2 :: zq_k 0 :: zq_ist 3 :: xb_296_1
theorem xc_296_0 : zCd 296 [0, 9, 27, 28, 36] 0 xb_296_0 := zc_aload_n xj_296 1 0 rfl rfl (zc_invokevirtual1 xj_296 4 246 289 0 328 9 6 rfl rfl rfl (zc_istore_n xj_296 5 1 rfl rfl (zc_iconst xj_296 6 0 0 rfl rfl rfl (zc_istore_n xj_296 7 2 rfl rfl (zc_iconst xj_296 8 0 0 rfl rfl rfl (zc_istore_n xj_296 9 3 rfl rfl (xc_296_1)))))))
noncomputable def xm_296 : Lean.RArray (List zF) := .branch 27 (.branch 9 (.leaf xb_296_0) (.leaf xb_296_1)) (.branch 28 (.leaf xb_296_2) (.branch 36 (.leaf xb_296_3) (.leaf xb_296_4)))
theorem xa_296 : zCdAll 296 [0, 9, 27, 28, 36] xm_296 := zAll2_ok (P := fun t => zCd 296 [0, 9, 27, 28, 36] t (xm_296.get t)) ⟨xc_296_0, xc_296_1, xc_296_2, xc_296_3, xc_296_4, trivial⟩
/-- SquareMeshModel.firm -/
theorem xj_297 : ∀ pc, pI 297 pc = pJ_297 pc := fun _ => rfl
noncomputable def xb_297_4 : List zF := [zq_ild 2, zq_iret 0]
theorem xc_297_4 : zCd 297 [0, 9, 31, 32, 40] 40 xb_297_4 := zc_iload_n xj_297 41 2 rfl rfl (zc_ireturn0 xj_297 42 rfl rfl (trivial))
noncomputable def xb_297_3 : List zF := [zq_add, zq_ist 2, zq_inc 3 1, zq_goto 9]
theorem xc_297_3 : zCd 297 [0, 9, 31, 32, 40] 32 xb_297_3 := zc_iadd xj_297 33 rfl rfl (zc_istore_n xj_297 34 2 rfl rfl (zc_iinc xj_297 37 3 1 1 rfl rfl rfl (zc_goto xj_297 38 (-28) 9 rfl rfl rfl (trivial))))
noncomputable def xb_297_2 : List zF := zq_k 0 :: xb_297_3
theorem xc_297_2 : zCd 297 [0, 9, 31, 32, 40] 31 xb_297_2 := zc_iconst xj_297 32 0 0 rfl rfl rfl (xc_297_3)
noncomputable def xb_297_1 : List zF := [zq_ild 3, zq_ild 1, zq_ic_ge 40, zq_ild 2, zq_ald 0, zq_ild 3, zq_calli 294 1 9 4, zq_if_ne 31, zq_ald 0, zq_ild 3, zq_calli 293 1 9 4, zq_goto 32]
theorem xc_297_1 : zCd 297 [0, 9, 31, 32, 40] 9 xb_297_1 := zc_iload_n xj_297 10 3 rfl rfl (zc_iload_n xj_297 11 1 rfl rfl (zc_ic_ge xj_297 14 29 40 rfl rfl rfl (zc_iload_n xj_297 15 2 rfl rfl (zc_aload_n xj_297 16 0 rfl rfl (zc_iload_n xj_297 17 3 rfl rfl (zc_invokevirtual1 xj_297 20 308 294 1 335 9 4 rfl rfl rfl (zc_if_ne xj_297 23 11 31 rfl rfl rfl (zc_aload_n xj_297 24 0 rfl rfl (zc_iload_n xj_297 25 3 rfl rfl (zc_invokevirtual1 xj_297 28 305 293 1 368 9 4 rfl rfl rfl (zc_goto xj_297 29 4 32 rfl rfl rfl (trivial))))))))))))
noncomputable def xb_297_0 : List zF := zq_ald 0 :: zq_calli 289 0 9 6 :: zq_ist 1 :: zq_k 0 :: zq_ist 2 :: zq_k 0 :: zq_ist 3 :: xb_297_1
theorem xc_297_0 : zCd 297 [0, 9, 31, 32, 40] 0 xb_297_0 := zc_aload_n xj_297 1 0 rfl rfl (zc_invokevirtual1 xj_297 4 246 289 0 328 9 6 rfl rfl rfl (zc_istore_n xj_297 5 1 rfl rfl (zc_iconst xj_297 6 0 0 rfl rfl rfl (zc_istore_n xj_297 7 2 rfl rfl (zc_iconst xj_297 8 0 0 rfl rfl rfl (zc_istore_n xj_297 9 3 rfl rfl (xc_297_1)))))))
noncomputable def xm_297 : Lean.RArray (List zF) := .branch 31 (.branch 9 (.leaf xb_297_0) (.leaf xb_297_1)) (.branch 32 (.leaf xb_297_2) (.branch 40 (.leaf xb_297_3) (.leaf xb_297_4)))
theorem xa_297 : zCdAll 297 [0, 9, 31, 32, 40] xm_297 := zAll2_ok (P := fun t => zCd 297 [0, 9, 31, 32, 40] t (xm_297.get t)) ⟨xc_297_0, xc_297_1, xc_297_2, xc_297_3, xc_297_4, trivial⟩
/-- SquareMeshModel.corners -/
theorem xj_298 : ∀ pc, pI 298 pc = pJ_298 pc := fun _ => rfl
noncomputable def xb_298_10 : List zF := [zq_ild 2, zq_iret 0]
theorem xc_298_10 : zCd 298 [0, 4, 18, 72, 77, 81, 82, 90, 100, 101, 109] 109 xb_298_10 := zc_iload_n xj_298 110 2 rfl rfl (zc_ireturn0 xj_298 111 rfl rfl (trivial))
noncomputable def xb_298_9 : List zF := [zq_add, zq_ist 2, zq_inc 3 1, zq_goto 4]
theorem xc_298_9 : zCd 298 [0, 4, 18, 72, 77, 81, 82, 90, 100, 101, 109] 101 xb_298_9 := zc_iadd xj_298 102 rfl rfl (zc_istore_n xj_298 103 2 rfl rfl (zc_iinc xj_298 106 3 1 1 rfl rfl rfl (zc_goto xj_298 107 (-102) 4 rfl rfl rfl (trivial))))
noncomputable def xb_298_8 : List zF := zq_k 0 :: xb_298_9
theorem xc_298_8 : zCd 298 [0, 4, 18, 72, 77, 81, 82, 90, 100, 101, 109] 100 xb_298_8 := zc_iconst xj_298 101 0 0 rfl rfl rfl (xc_298_9)
noncomputable def xb_298_7 : List zF := [zq_ild 2, zq_ild 4, zq_if_eq 100, zq_k 1, zq_goto 101]
theorem xc_298_7 : zCd 298 [0, 4, 18, 72, 77, 81, 82, 90, 100, 101, 109] 90 xb_298_7 := zc_iload_n xj_298 91 2 rfl rfl (zc_iload xj_298 93 4 rfl rfl (zc_if_eq xj_298 96 7 100 rfl rfl rfl (zc_iconst xj_298 97 1 1 rfl rfl rfl (zc_goto xj_298 98 4 101 rfl rfl rfl (trivial)))))
noncomputable def xb_298_6 : List zF := [zq_ist 4, zq_inc 5 1, zq_goto 18]
theorem xc_298_6 : zCd 298 [0, 4, 18, 72, 77, 81, 82, 90, 100, 101, 109] 82 xb_298_6 := zc_istore xj_298 84 4 rfl rfl (zc_iinc xj_298 87 5 1 1 rfl rfl rfl (zc_goto xj_298 88 (-69) 18 rfl rfl rfl (trivial)))
noncomputable def xb_298_5 : List zF := zq_k 0 :: xb_298_6
theorem xc_298_5 : zCd 298 [0, 4, 18, 72, 77, 81, 82, 90, 100, 101, 109] 81 xb_298_5 := zc_iconst xj_298 82 0 0 rfl rfl rfl (xc_298_6)
noncomputable def xb_298_4 : List zF := [zq_k 1, zq_goto 82]
theorem xc_298_4 : zCd 298 [0, 4, 18, 72, 77, 81, 82, 90, 100, 101, 109] 77 xb_298_4 := zc_iconst xj_298 78 1 1 rfl rfl rfl (zc_goto xj_298 79 4 82 rfl rfl rfl (trivial))
noncomputable def xb_298_3 : List zF := zq_ild 6 :: zq_if_ne 81 :: xb_298_4
theorem xc_298_3 : zCd 298 [0, 4, 18, 72, 77, 81, 82, 90, 100, 101, 109] 72 xb_298_3 := zc_iload xj_298 74 6 rfl rfl (zc_if_ne xj_298 77 7 81 rfl rfl rfl (xc_298_4))
noncomputable def xb_298_2 : List zF := [zq_ild 5, zq_k 3, zq_ic_ge 90, zq_ald 0, zq_ald 0, zq_ild 3, zq_ild 5, zq_calli 247 2 9 3, zq_ald 0, zq_ild 3, zq_ild 5, zq_k 1, zq_add, zq_calli 247 2 9 3, zq_ald 0, zq_ild 3, zq_ild 5, zq_k 2, zq_add, zq_calli 247 2 9 3, zq_calli 299 3 9 4, zq_ist 6, zq_ild 4, zq_if_ne 77, zq_ild 1, zq_if_eq 72, zq_ild 6, zq_if_ge 81, zq_goto 77]
theorem xc_298_2 : zCd 298 [0, 4, 18, 72, 77, 81, 82, 90, 100, 101, 109] 18 xb_298_2 := zc_iload xj_298 20 5 rfl rfl (zc_iconst xj_298 21 3 3 rfl rfl rfl (zc_ic_ge xj_298 24 69 90 rfl rfl rfl (zc_aload_n xj_298 25 0 rfl rfl (zc_aload_n xj_298 26 0 rfl rfl (zc_iload_n xj_298 27 3 rfl rfl (zc_iload xj_298 29 5 rfl rfl (zc_invokevirtual1 xj_298 32 206 247 2 313 9 3 rfl rfl rfl (zc_aload_n xj_298 33 0 rfl rfl (zc_iload_n xj_298 34 3 rfl rfl (zc_iload xj_298 36 5 rfl rfl (zc_iconst xj_298 37 1 1 rfl rfl rfl (zc_iadd xj_298 38 rfl rfl (zc_invokevirtual1 xj_298 41 206 247 2 313 9 3 rfl rfl rfl (zc_aload_n xj_298 42 0 rfl rfl (zc_iload_n xj_298 43 3 rfl rfl (zc_iload xj_298 45 5 rfl rfl (zc_iconst xj_298 46 2 2 rfl rfl rfl (zc_iadd xj_298 47 rfl rfl (zc_invokevirtual1 xj_298 50 206 247 2 313 9 3 rfl rfl rfl (zc_invokevirtual1 xj_298 53 314 299 3 339 9 4 rfl rfl rfl (zc_istore xj_298 55 6 rfl rfl (zc_iload xj_298 57 4 rfl rfl (zc_if_ne xj_298 60 20 77 rfl rfl rfl (zc_iload_n xj_298 61 1 rfl rfl (zc_if_eq xj_298 64 11 72 rfl rfl rfl (zc_iload xj_298 66 6 rfl rfl (zc_if_ge xj_298 69 15 81 rfl rfl rfl (zc_goto xj_298 70 8 77 rfl rfl rfl (trivial)))))))))))))))))))))))))))))
noncomputable def xb_298_1 : List zF := zq_ild 3 :: zq_ald 0 :: zq_getf 9 4 :: zq_ic_ge 109 :: zq_k 0 :: zq_ist 4 :: zq_k 0 :: zq_ist 5 :: xb_298_2
theorem xc_298_1 : zCd 298 [0, 4, 18, 72, 77, 81, 82, 90, 100, 101, 109] 4 xb_298_1 := zc_iload_n xj_298 5 3 rfl rfl (zc_aload_n xj_298 6 0 rfl rfl (zc_getf xj_298 9 134 9 4 98 rfl rfl (zc_ic_ge xj_298 12 100 109 rfl rfl rfl (zc_iconst xj_298 13 0 0 rfl rfl rfl (zc_istore xj_298 15 4 rfl rfl (zc_iconst xj_298 16 0 0 rfl rfl rfl (zc_istore xj_298 18 5 rfl rfl (xc_298_2))))))))
noncomputable def xb_298_0 : List zF := zq_k 0 :: zq_ist 2 :: zq_k 0 :: zq_ist 3 :: xb_298_1
theorem xc_298_0 : zCd 298 [0, 4, 18, 72, 77, 81, 82, 90, 100, 101, 109] 0 xb_298_0 := zc_iconst xj_298 1 0 0 rfl rfl rfl (zc_istore_n xj_298 2 2 rfl rfl (zc_iconst xj_298 3 0 0 rfl rfl rfl (zc_istore_n xj_298 4 3 rfl rfl (xc_298_1))))
noncomputable def xm_298 : Lean.RArray (List zF) := .branch 81 (.branch 18 (.branch 4 (.leaf xb_298_0) (.leaf xb_298_1)) (.branch 72 (.leaf xb_298_2) (.branch 77 (.leaf xb_298_3) (.leaf xb_298_4)))) (.branch 100 (.branch 82 (.leaf xb_298_5) (.branch 90 (.leaf xb_298_6) (.leaf xb_298_7))) (.branch 101 (.leaf xb_298_8) (.branch 109 (.leaf xb_298_9) (.leaf xb_298_10))))
theorem xa_298 : zCdAll 298 [0, 4, 18, 72, 77, 81, 82, 90, 100, 101, 109] xm_298 := zAll2_ok (P := fun t => zCd 298 [0, 4, 18, 72, 77, 81, 82, 90, 100, 101, 109] t (xm_298.get t)) ⟨xc_298_0, xc_298_1, xc_298_2, xc_298_3, xc_298_4, xc_298_5, xc_298_6, xc_298_7, xc_298_8, xc_298_9, xc_298_10, trivial⟩
/-- SquareMeshModel.dotAt -/
theorem xj_299 : ∀ pc, pI 299 pc = pJ_299 pc := fun _ => rfl
noncomputable def xb_299_0 : List zF := [zq_ald 0, zq_ild 2, zq_calli 192 1 9 2, zq_ald 0, zq_ild 1, zq_calli 192 1 9 2, zq_sub, zq_ald 0, zq_ild 3, zq_calli 192 1 9 2, zq_ald 0, zq_ild 1, zq_calli 192 1 9 2, zq_sub, zq_mul, zq_ald 0, zq_ild 2, zq_calli 193 1 9 2, zq_ald 0, zq_ild 1, zq_calli 193 1 9 2, zq_sub, zq_ald 0, zq_ild 3, zq_calli 193 1 9 2, zq_ald 0, zq_ild 1, zq_calli 193 1 9 2, zq_sub, zq_mul, zq_add, zq_iret 0]
theorem xc_299_0 : zCd 299 [0] 0 xb_299_0 := zc_aload_n xj_299 1 0 rfl rfl (zc_iload_n xj_299 2 2 rfl rfl (zc_invokevirtual1 xj_299 5 75 192 1 260 9 2 rfl rfl rfl (zc_aload_n xj_299 6 0 rfl rfl (zc_iload_n xj_299 7 1 rfl rfl (zc_invokevirtual1 xj_299 10 75 192 1 260 9 2 rfl rfl rfl (zc_isub xj_299 11 rfl rfl (zc_aload_n xj_299 12 0 rfl rfl (zc_iload_n xj_299 13 3 rfl rfl (zc_invokevirtual1 xj_299 16 75 192 1 260 9 2 rfl rfl rfl (zc_aload_n xj_299 17 0 rfl rfl (zc_iload_n xj_299 18 1 rfl rfl (zc_invokevirtual1 xj_299 21 75 192 1 260 9 2 rfl rfl rfl (zc_isub xj_299 22 rfl rfl (zc_imul xj_299 23 rfl rfl (zc_aload_n xj_299 24 0 rfl rfl (zc_iload_n xj_299 25 2 rfl rfl (zc_invokevirtual1 xj_299 28 79 193 1 261 9 2 rfl rfl rfl (zc_aload_n xj_299 29 0 rfl rfl (zc_iload_n xj_299 30 1 rfl rfl (zc_invokevirtual1 xj_299 33 79 193 1 261 9 2 rfl rfl rfl (zc_isub xj_299 34 rfl rfl (zc_aload_n xj_299 35 0 rfl rfl (zc_iload_n xj_299 36 3 rfl rfl (zc_invokevirtual1 xj_299 39 79 193 1 261 9 2 rfl rfl rfl (zc_aload_n xj_299 40 0 rfl rfl (zc_iload_n xj_299 41 1 rfl rfl (zc_invokevirtual1 xj_299 44 79 193 1 261 9 2 rfl rfl rfl (zc_isub xj_299 45 rfl rfl (zc_imul xj_299 46 rfl rfl (zc_iadd xj_299 47 rfl rfl (zc_ireturn0 xj_299 48 rfl rfl (trivial))))))))))))))))))))))))))))))))
noncomputable def xm_299 : Lean.RArray (List zF) := .leaf xb_299_0
theorem xa_299 : zCdAll 299 [0] xm_299 := zAll2_ok (P := fun t => zCd 299 [0] t (xm_299.get t)) ⟨xc_299_0, trivial⟩
/-- SquareMeshModel.layColours -/
theorem xj_300 : ∀ pc, pI 300 pc = pJ_300 pc := fun _ => rfl
noncomputable def xb_300_8 : List zF := [zq_ild 1, zq_k 1, zq_add, zq_iret 0]
theorem xc_300_8 : zCd 300 [0, 4, 21, 28, 55, 74, 75, 76, 82] 82 xb_300_8 := zc_iload_n xj_300 83 1 rfl rfl (zc_iconst xj_300 84 1 1 rfl rfl rfl (zc_iadd xj_300 85 rfl rfl (zc_ireturn0 xj_300 86 rfl rfl (trivial))))
noncomputable def xb_300_7 : List zF := [zq_inc 2 1, zq_goto 4]
theorem xc_300_7 : zCd 300 [0, 4, 21, 28, 55, 74, 75, 76, 82] 76 xb_300_7 := zc_iinc xj_300 79 2 1 1 rfl rfl rfl (zc_goto xj_300 80 (-75) 4 rfl rfl rfl (trivial))
noncomputable def xb_300_6 : List zF := zq_ist 1 :: xb_300_7
theorem xc_300_6 : zCd 300 [0, 4, 21, 28, 55, 74, 75, 76, 82] 75 xb_300_6 := zc_istore_n xj_300 76 1 rfl rfl (xc_300_7)
noncomputable def xb_300_5 : List zF := zq_ild 1 :: xb_300_6
theorem xc_300_5 : zCd 300 [0, 4, 21, 28, 55, 74, 75, 76, 82] 74 xb_300_5 := zc_iload_n xj_300 75 1 rfl rfl (xc_300_6)
noncomputable def xb_300_4 : List zF := [zq_ald 0, zq_getf 9 10, zq_ild 2, zq_ild_ 0, zq_ild 1, zq_ic_le 74, zq_ald 0, zq_getf 9 10, zq_ild 2, zq_ild_ 0, zq_goto 75]
theorem xc_300_4 : zCd 300 [0, 4, 21, 28, 55, 74, 75, 76, 82] 55 xb_300_4 := zc_aload_n xj_300 56 0 rfl rfl (zc_getf xj_300 59 39 9 10 104 rfl rfl (zc_iload_n xj_300 60 2 rfl rfl (zc_iaload xj_300 61 rfl rfl (zc_iload_n xj_300 62 1 rfl rfl (zc_ic_le xj_300 65 12 74 rfl rfl rfl (zc_aload_n xj_300 66 0 rfl rfl (zc_getf xj_300 69 39 9 10 104 rfl rfl (zc_iload_n xj_300 70 2 rfl rfl (zc_iaload xj_300 71 rfl rfl (zc_goto xj_300 72 4 75 rfl rfl rfl (trivial)))))))))))
noncomputable def xb_300_3 : List zF := [zq_ald 0, zq_ild 2, zq_ald 0, zq_getf 9 10, zq_ild 2, zq_ild_ 0, zq_calli 301 2 9 4, zq_if_eq 55, zq_ald 0, zq_getf 9 10, zq_ild 2, zq_dup2, zq_ild_ 0, zq_k 1, zq_add, zq_iast, zq_goto 28]
theorem xc_300_3 : zCd 300 [0, 4, 21, 28, 55, 74, 75, 76, 82] 28 xb_300_3 := zc_aload_n xj_300 29 0 rfl rfl (zc_iload_n xj_300 30 2 rfl rfl (zc_aload_n xj_300 31 0 rfl rfl (zc_getf xj_300 34 39 9 10 104 rfl rfl (zc_iload_n xj_300 35 2 rfl rfl (zc_iaload xj_300 36 rfl rfl (zc_invokevirtual1 xj_300 39 317 301 2 341 9 4 rfl rfl rfl (zc_if_eq xj_300 42 16 55 rfl rfl rfl (zc_aload_n xj_300 43 0 rfl rfl (zc_getf xj_300 46 39 9 10 104 rfl rfl (zc_iload_n xj_300 47 2 rfl rfl (zc_dup2 xj_300 48 rfl rfl (zc_iaload xj_300 49 rfl rfl (zc_iconst xj_300 50 1 1 rfl rfl rfl (zc_iadd xj_300 51 rfl rfl (zc_iastore xj_300 52 rfl rfl (zc_goto xj_300 53 (-24) 28 rfl rfl rfl (trivial)))))))))))))))))
noncomputable def xb_300_2 : List zF := zq_ald 0 :: zq_getf 9 10 :: zq_ild 2 :: zq_k 0 :: zq_iast :: xb_300_3
theorem xc_300_2 : zCd 300 [0, 4, 21, 28, 55, 74, 75, 76, 82] 21 xb_300_2 := zc_aload_n xj_300 22 0 rfl rfl (zc_getf xj_300 25 39 9 10 104 rfl rfl (zc_iload_n xj_300 26 2 rfl rfl (zc_iconst xj_300 27 0 0 rfl rfl rfl (zc_iastore xj_300 28 rfl rfl (xc_300_3)))))
noncomputable def xb_300_1 : List zF := [zq_ild 2, zq_k 40, zq_ic_ge 82, zq_ald 0, zq_ild 2, zq_calli 191 1 9 2, zq_if_ne 21, zq_goto 76]
theorem xc_300_1 : zCd 300 [0, 4, 21, 28, 55, 74, 75, 76, 82] 4 xb_300_1 := zc_iload_n xj_300 5 2 rfl rfl (zc_bipush xj_300 7 40 40 rfl rfl rfl (zc_ic_ge xj_300 10 75 82 rfl rfl rfl (zc_aload_n xj_300 11 0 rfl rfl (zc_iload_n xj_300 12 2 rfl rfl (zc_invokevirtual1 xj_300 15 71 191 1 264 9 2 rfl rfl rfl (zc_if_ne xj_300 18 6 21 rfl rfl rfl (zc_goto xj_300 19 58 76 rfl rfl rfl (trivial))))))))
noncomputable def xb_300_0 : List zF := zq_k 0 :: zq_ist 1 :: zq_k 0 :: zq_ist 2 :: xb_300_1
theorem xc_300_0 : zCd 300 [0, 4, 21, 28, 55, 74, 75, 76, 82] 0 xb_300_0 := zc_iconst xj_300 1 0 0 rfl rfl rfl (zc_istore_n xj_300 2 1 rfl rfl (zc_iconst xj_300 3 0 0 rfl rfl rfl (zc_istore_n xj_300 4 2 rfl rfl (xc_300_1))))
noncomputable def xm_300 : Lean.RArray (List zF) := .branch 55 (.branch 21 (.branch 4 (.leaf xb_300_0) (.leaf xb_300_1)) (.branch 28 (.leaf xb_300_2) (.leaf xb_300_3))) (.branch 75 (.branch 74 (.leaf xb_300_4) (.leaf xb_300_5)) (.branch 76 (.leaf xb_300_6) (.branch 82 (.leaf xb_300_7) (.leaf xb_300_8))))
theorem xa_300 : zCdAll 300 [0, 4, 21, 28, 55, 74, 75, 76, 82] xm_300 := zAll2_ok (P := fun t => zCd 300 [0, 4, 21, 28, 55, 74, 75, 76, 82] t (xm_300.get t)) ⟨xc_300_0, xc_300_1, xc_300_2, xc_300_3, xc_300_4, xc_300_5, xc_300_6, xc_300_7, xc_300_8, trivial⟩
/-- SquareMeshModel.isTaken -/
theorem xj_301 : ∀ pc, pI 301 pc = pJ_301 pc := fun _ => rfl
noncomputable def xb_301_3 : List zF := [zq_k 0, zq_iret 1]
theorem xc_301_3 : zCd 301 [0, 2, 36, 42] 42 xb_301_3 := zc_iconst xj_301 43 0 0 rfl rfl rfl (zc_ireturn1 xj_301 44 rfl rfl (trivial))
noncomputable def xb_301_2 : List zF := [zq_inc 3 1, zq_goto 2]
theorem xc_301_2 : zCd 301 [0, 2, 36, 42] 36 xb_301_2 := zc_iinc xj_301 39 3 1 1 rfl rfl rfl (zc_goto xj_301 40 (-37) 2 rfl rfl rfl (trivial))
noncomputable def xb_301_1 : List zF := [zq_ild 3, zq_ild 1, zq_ic_ge 42, zq_ald 0, zq_ild 3, zq_calli 191 1 9 2, zq_if_eq 36, zq_ald 0, zq_ild 1, zq_ild 3, zq_calli 213 2 9 3, zq_if_eq 36, zq_ald 0, zq_getf 9 10, zq_ild 3, zq_ild_ 0, zq_ild 2, zq_ic_ne 36, zq_k 1, zq_iret 1]
theorem xc_301_1 : zCd 301 [0, 2, 36, 42] 2 xb_301_1 := zc_iload_n xj_301 3 3 rfl rfl (zc_iload_n xj_301 4 1 rfl rfl (zc_ic_ge xj_301 7 38 42 rfl rfl rfl (zc_aload_n xj_301 8 0 rfl rfl (zc_iload_n xj_301 9 3 rfl rfl (zc_invokevirtual1 xj_301 12 71 191 1 264 9 2 rfl rfl rfl (zc_if_eq xj_301 15 24 36 rfl rfl rfl (zc_aload_n xj_301 16 0 rfl rfl (zc_iload_n xj_301 17 1 rfl rfl (zc_iload_n xj_301 18 3 rfl rfl (zc_invokevirtual1 xj_301 21 234 213 2 321 9 3 rfl rfl rfl (zc_if_eq xj_301 24 15 36 rfl rfl rfl (zc_aload_n xj_301 25 0 rfl rfl (zc_getf xj_301 28 39 9 10 104 rfl rfl (zc_iload_n xj_301 29 3 rfl rfl (zc_iaload xj_301 30 rfl rfl (zc_iload_n xj_301 31 2 rfl rfl (zc_ic_ne xj_301 34 5 36 rfl rfl rfl (zc_iconst xj_301 35 1 1 rfl rfl rfl (zc_ireturn1 xj_301 36 rfl rfl (trivial))))))))))))))))))))
noncomputable def xb_301_0 : List zF := zq_k 0 :: zq_ist 3 :: xb_301_1
theorem xc_301_0 : zCd 301 [0, 2, 36, 42] 0 xb_301_0 := zc_iconst xj_301 1 0 0 rfl rfl rfl (zc_istore_n xj_301 2 3 rfl rfl (xc_301_1))
noncomputable def xm_301 : Lean.RArray (List zF) := .branch 36 (.branch 2 (.leaf xb_301_0) (.leaf xb_301_1)) (.branch 42 (.leaf xb_301_2) (.leaf xb_301_3))
theorem xa_301 : zCdAll 301 [0, 2, 36, 42] xm_301 := zAll2_ok (P := fun t => zCd 301 [0, 2, 36, 42] t (xm_301.get t)) ⟨xc_301_0, xc_301_1, xc_301_2, xc_301_3, trivial⟩
/-- SquareMeshModel.colour -/
theorem xj_302 : ∀ pc, pI 302 pc = pJ_302 pc := fun _ => rfl
noncomputable def xb_302_1 : List zF := [zq_ald 0, zq_calli 300 0 9 3, zq_ist 2, zq_ald 0, zq_getf 9 10, zq_ild 1, zq_ild_ 0, zq_iret 0]
theorem xc_302_1 : zCd 302 [0, 10] 10 xb_302_1 := zc_aload_n xj_302 11 0 rfl rfl (zc_invokevirtual1 xj_302 14 259 300 0 340 9 3 rfl rfl rfl (zc_istore_n xj_302 15 2 rfl rfl (zc_aload_n xj_302 16 0 rfl rfl (zc_getf xj_302 19 39 9 10 104 rfl rfl (zc_iload_n xj_302 20 1 rfl rfl (zc_iaload xj_302 21 rfl rfl (zc_ireturn0 xj_302 22 rfl rfl (trivial))))))))
noncomputable def xb_302_0 : List zF := [zq_ald 0, zq_ild 1, zq_calli 191 1 9 2, zq_if_ne 10, zq_k 4294967295, zq_iret 0]
theorem xc_302_0 : zCd 302 [0, 10] 0 xb_302_0 := zc_aload_n xj_302 1 0 rfl rfl (zc_iload_n xj_302 2 1 rfl rfl (zc_invokevirtual1 xj_302 5 71 191 1 264 9 2 rfl rfl rfl (zc_if_ne xj_302 8 5 10 rfl rfl rfl (zc_iconst xj_302 9 (-1) 4294967295 rfl rfl rfl (zc_ireturn0 xj_302 10 rfl rfl (trivial))))))
noncomputable def xm_302 : Lean.RArray (List zF) := .branch 10 (.leaf xb_302_0) (.leaf xb_302_1)
theorem xa_302 : zCdAll 302 [0, 10] xm_302 := zAll2_ok (P := fun t => zCd 302 [0, 10] t (xm_302.get t)) ⟨xc_302_0, xc_302_1, trivial⟩
/-- SquareMeshModel.widthOf -/
theorem xj_303 : ∀ pc, pI 303 pc = pJ_303 pc := fun _ => rfl
noncomputable def xb_303_4 : List zF := [zq_ild 2, zq_iret 0]
theorem xc_303_4 : zCd 303 [0, 9, 34, 35, 42] 42 xb_303_4 := zc_iload_n xj_303 43 2 rfl rfl (zc_ireturn0 xj_303 44 rfl rfl (trivial))
noncomputable def xb_303_3 : List zF := [zq_ist 2, zq_inc 3 1, zq_goto 9]
theorem xc_303_3 : zCd 303 [0, 9, 34, 35, 42] 35 xb_303_3 := zc_istore_n xj_303 36 2 rfl rfl (zc_iinc xj_303 39 3 1 1 rfl rfl rfl (zc_goto xj_303 40 (-30) 9 rfl rfl rfl (trivial)))
noncomputable def xb_303_2 : List zF := zq_ild 2 :: xb_303_3
theorem xc_303_2 : zCd 303 [0, 9, 34, 35, 42] 34 xb_303_2 := zc_iload_n xj_303 35 2 rfl rfl (xc_303_3)
noncomputable def xb_303_1 : List zF := [zq_ild 3, zq_k 40, zq_ic_ge 42, zq_ald 0, zq_getf 9 8, zq_ild 3, zq_ild_ 0, zq_ild 2, zq_ic_le 34, zq_ald 0, zq_getf 9 8, zq_ild 3, zq_ild_ 0, zq_goto 35]
theorem xc_303_1 : zCd 303 [0, 9, 34, 35, 42] 9 xb_303_1 := zc_iload_n xj_303 10 3 rfl rfl (zc_bipush xj_303 12 40 40 rfl rfl rfl (zc_ic_ge xj_303 15 30 42 rfl rfl rfl (zc_aload_n xj_303 16 0 rfl rfl (zc_getf xj_303 19 33 9 8 102 rfl rfl (zc_iload_n xj_303 20 3 rfl rfl (zc_iaload xj_303 21 rfl rfl (zc_iload_n xj_303 22 2 rfl rfl (zc_ic_le xj_303 25 12 34 rfl rfl rfl (zc_aload_n xj_303 26 0 rfl rfl (zc_getf xj_303 29 33 9 8 102 rfl rfl (zc_iload_n xj_303 30 3 rfl rfl (zc_iaload xj_303 31 rfl rfl (zc_goto xj_303 32 4 35 rfl rfl rfl (trivial))))))))))))))
noncomputable def xb_303_0 : List zF := zq_ald 0 :: zq_ild 1 :: zq_calli 283 1 9 6 :: zq_k 0 :: zq_ist 2 :: zq_k 0 :: zq_ist 3 :: xb_303_1
theorem xc_303_0 : zCd 303 [0, 9, 34, 35, 42] 0 xb_303_0 := zc_aload_n xj_303 1 0 rfl rfl (zc_iload_n xj_303 2 1 rfl rfl (zc_invokevirtual1 xj_303 5 293 283 1 360 9 6 rfl rfl rfl (zc_iconst xj_303 6 0 0 rfl rfl rfl (zc_istore_n xj_303 7 2 rfl rfl (zc_iconst xj_303 8 0 0 rfl rfl rfl (zc_istore_n xj_303 9 3 rfl rfl (xc_303_1)))))))
noncomputable def xm_303 : Lean.RArray (List zF) := .branch 34 (.branch 9 (.leaf xb_303_0) (.leaf xb_303_1)) (.branch 35 (.leaf xb_303_2) (.branch 42 (.leaf xb_303_3) (.leaf xb_303_4)))
theorem xa_303 : zCdAll 303 [0, 9, 34, 35, 42] xm_303 := zAll2_ok (P := fun t => zCd 303 [0, 9, 34, 35, 42] t (xm_303.get t)) ⟨xc_303_0, xc_303_1, xc_303_2, xc_303_3, xc_303_4, trivial⟩
/-- SquareMeshModel.centre -/
theorem xj_304 : ∀ pc, pI 304 pc = pJ_304 pc := fun _ => rfl
noncomputable def xb_304_7 : List zF := [zq_iret 0]
theorem xc_304_7 : zCd 304 [0, 11, 18, 52, 62, 68, 76, 77] 77 xb_304_7 := zc_ireturn0 xj_304 78 rfl rfl (trivial)
noncomputable def xb_304_6 : List zF := zq_ild 3 :: xb_304_7
theorem xc_304_6 : zCd 304 [0, 11, 18, 52, 62, 68, 76, 77] 76 xb_304_6 := zc_iload_n xj_304 77 3 rfl rfl (xc_304_7)
noncomputable def xb_304_5 : List zF := [zq_ild 1, zq_if_ne 76, zq_ild 2, zq_goto 77]
theorem xc_304_5 : zCd 304 [0, 11, 18, 52, 62, 68, 76, 77] 68 xb_304_5 := zc_iload_n xj_304 69 1 rfl rfl (zc_if_ne xj_304 72 7 76 rfl rfl rfl (zc_iload_n xj_304 73 2 rfl rfl (zc_goto xj_304 74 4 77 rfl rfl rfl (trivial))))
noncomputable def xb_304_4 : List zF := [zq_inc 4 1, zq_goto 18]
theorem xc_304_4 : zCd 304 [0, 11, 18, 52, 62, 68, 76, 77] 62 xb_304_4 := zc_iinc xj_304 65 4 1 1 rfl rfl rfl (zc_goto xj_304 66 (-47) 18 rfl rfl rfl (trivial))
noncomputable def xb_304_3 : List zF := zq_ild 4 :: zq_ist 2 :: zq_ald 0 :: zq_ild 4 :: zq_calli 303 1 9 4 :: zq_ist 3 :: xb_304_4
theorem xc_304_3 : zCd 304 [0, 11, 18, 52, 62, 68, 76, 77] 52 xb_304_3 := zc_iload xj_304 54 4 rfl rfl (zc_istore_n xj_304 55 2 rfl rfl (zc_aload_n xj_304 56 0 rfl rfl (zc_iload xj_304 58 4 rfl rfl (zc_invokevirtual1 xj_304 61 320 303 1 373 9 4 rfl rfl rfl (zc_istore_n xj_304 62 3 rfl rfl (xc_304_4))))))
noncomputable def xb_304_2 : List zF := [zq_ild 4, zq_k 40, zq_ic_ge 68, zq_ald 0, zq_ild 4, zq_calli 191 1 9 2, zq_if_eq 62, zq_ild 2, zq_k 4294967295, zq_ic_eq 52, zq_ald 0, zq_ild 4, zq_calli 303 1 9 4, zq_ild 3, zq_ic_lt 52, zq_goto 62]
theorem xc_304_2 : zCd 304 [0, 11, 18, 52, 62, 68, 76, 77] 18 xb_304_2 := zc_iload xj_304 20 4 rfl rfl (zc_bipush xj_304 22 40 40 rfl rfl rfl (zc_ic_ge xj_304 25 46 68 rfl rfl rfl (zc_aload_n xj_304 26 0 rfl rfl (zc_iload xj_304 28 4 rfl rfl (zc_invokevirtual1 xj_304 31 71 191 1 264 9 2 rfl rfl rfl (zc_if_eq xj_304 34 31 62 rfl rfl rfl (zc_iload_n xj_304 35 2 rfl rfl (zc_iconst xj_304 36 (-1) 4294967295 rfl rfl rfl (zc_ic_eq xj_304 39 16 52 rfl rfl rfl (zc_aload_n xj_304 40 0 rfl rfl (zc_iload xj_304 42 4 rfl rfl (zc_invokevirtual1 xj_304 45 320 303 1 373 9 4 rfl rfl rfl (zc_iload_n xj_304 46 3 rfl rfl (zc_ic_lt xj_304 49 6 52 rfl rfl rfl (zc_goto xj_304 50 13 62 rfl rfl rfl (trivial))))))))))))))))
noncomputable def xb_304_1 : List zF := zq_k 4294967295 :: zq_ist 2 :: zq_k 0 :: zq_ist 3 :: zq_k 0 :: zq_ist 4 :: xb_304_2
theorem xc_304_1 : zCd 304 [0, 11, 18, 52, 62, 68, 76, 77] 11 xb_304_1 := zc_iconst xj_304 12 (-1) 4294967295 rfl rfl rfl (zc_istore_n xj_304 13 2 rfl rfl (zc_iconst xj_304 14 0 0 rfl rfl rfl (zc_istore_n xj_304 15 3 rfl rfl (zc_iconst xj_304 16 0 0 rfl rfl rfl (zc_istore xj_304 18 4 rfl rfl (xc_304_2))))))
noncomputable def xb_304_0 : List zF := [zq_ild 1, zq_k 0, zq_k 1, zq_calls 188 3 3, zq_if_ne 11, zq_k 4294967295, zq_iret 0]
theorem xc_304_0 : zCd 304 [0, 11, 18, 52, 62, 68, 76, 77] 0 xb_304_0 := zc_iload_n xj_304 1 1 rfl rfl (zc_iconst xj_304 2 0 0 rfl rfl rfl (zc_iconst xj_304 3 1 1 rfl rfl rfl (zc_invokestatic2 xj_304 6 67 188 3 265 0 3 rfl rfl rfl rfl (zc_if_ne xj_304 9 5 11 rfl rfl rfl (zc_iconst xj_304 10 (-1) 4294967295 rfl rfl rfl (zc_ireturn0 xj_304 11 rfl rfl (trivial)))))))
noncomputable def xm_304 : Lean.RArray (List zF) := .branch 62 (.branch 18 (.branch 11 (.leaf xb_304_0) (.leaf xb_304_1)) (.branch 52 (.leaf xb_304_2) (.leaf xb_304_3))) (.branch 76 (.branch 68 (.leaf xb_304_4) (.leaf xb_304_5)) (.branch 77 (.leaf xb_304_6) (.leaf xb_304_7)))
theorem xa_304 : zCdAll 304 [0, 11, 18, 52, 62, 68, 76, 77] xm_304 := zAll2_ok (P := fun t => zCd 304 [0, 11, 18, 52, 62, 68, 76, 77] t (xm_304.get t)) ⟨xc_304_0, xc_304_1, xc_304_2, xc_304_3, xc_304_4, xc_304_5, xc_304_6, xc_304_7, trivial⟩
/-- SquareMeshModel.lengthOf -/
theorem xj_305 : ∀ pc, pI 305 pc = pJ_305 pc := fun _ => rfl
noncomputable def xb_305_4 : List zF := [zq_ild 4, zq_iret 0]
theorem xc_305_4 : zCd 305 [0, 15, 49, 55, 58] 58 xb_305_4 := zc_iload xj_305 60 4 rfl rfl (zc_ireturn0 xj_305 61 rfl rfl (trivial))
noncomputable def xb_305_3 : List zF := [zq_goto 15]
theorem xc_305_3 : zCd 305 [0, 15, 49, 55, 58] 55 xb_305_3 := zc_goto xj_305 56 (-40) 15 rfl rfl rfl (trivial)
noncomputable def xb_305_2 : List zF := zq_ild 6 :: zq_k 1 :: zq_sub :: zq_ist 5 :: xb_305_3
theorem xc_305_2 : zCd 305 [0, 15, 49, 55, 58] 49 xb_305_2 := zc_iload xj_305 51 6 rfl rfl (zc_iconst xj_305 52 1 1 rfl rfl rfl (zc_isub xj_305 53 rfl rfl (zc_istore xj_305 55 5 rfl rfl (xc_305_3))))
noncomputable def xb_305_1 : List zF := [zq_ild 4, zq_ild 5, zq_ic_ge 58, zq_ild 4, zq_ild 5, zq_add, zq_k 1, zq_add, zq_k 2, zq_div, zq_ist 6, zq_ild 6, zq_ild 6, zq_mul, zq_ild 3, zq_ic_gt 49, zq_ild 6, zq_ist 4, zq_goto 55]
theorem xc_305_1 : zCd 305 [0, 15, 49, 55, 58] 15 xb_305_1 := zc_iload xj_305 17 4 rfl rfl (zc_iload xj_305 19 5 rfl rfl (zc_ic_ge xj_305 22 39 58 rfl rfl rfl (zc_iload xj_305 24 4 rfl rfl (zc_iload xj_305 26 5 rfl rfl (zc_iadd xj_305 27 rfl rfl (zc_iconst xj_305 28 1 1 rfl rfl rfl (zc_iadd xj_305 29 rfl rfl (zc_iconst xj_305 30 2 2 rfl rfl rfl (zc_idiv xj_305 31 rfl rfl (zc_istore xj_305 33 6 rfl rfl (zc_iload xj_305 35 6 rfl rfl (zc_iload xj_305 37 6 rfl rfl (zc_imul xj_305 38 rfl rfl (zc_iload_n xj_305 39 3 rfl rfl (zc_ic_gt xj_305 42 10 49 rfl rfl rfl (zc_iload xj_305 44 6 rfl rfl (zc_istore xj_305 46 4 rfl rfl (zc_goto xj_305 47 9 55 rfl rfl rfl (trivial)))))))))))))))))))
noncomputable def xb_305_0 : List zF := zq_ald 0 :: zq_ild 1 :: zq_ild 2 :: zq_calli 204 2 9 3 :: zq_ist 3 :: zq_k 0 :: zq_ist 4 :: zq_k 3000 :: zq_ist 5 :: xb_305_1
theorem xc_305_0 : zCd 305 [0, 15, 49, 55, 58] 0 xb_305_0 := zc_aload_n xj_305 1 0 rfl rfl (zc_iload_n xj_305 2 1 rfl rfl (zc_iload_n xj_305 3 2 rfl rfl (zc_invokevirtual1 xj_305 6 86 204 2 270 9 3 rfl rfl rfl (zc_istore_n xj_305 7 3 rfl rfl (zc_iconst xj_305 8 0 0 rfl rfl rfl (zc_istore xj_305 10 4 rfl rfl (zc_sipush xj_305 13 3000 3000 rfl rfl rfl (zc_istore xj_305 15 5 rfl rfl (xc_305_1)))))))))
noncomputable def xm_305 : Lean.RArray (List zF) := .branch 49 (.branch 15 (.leaf xb_305_0) (.leaf xb_305_1)) (.branch 55 (.leaf xb_305_2) (.branch 58 (.leaf xb_305_3) (.leaf xb_305_4)))
theorem xa_305 : zCdAll 305 [0, 15, 49, 55, 58] xm_305 := zAll2_ok (P := fun t => zCd 305 [0, 15, 49, 55, 58] t (xm_305.get t)) ⟨xc_305_0, xc_305_1, xc_305_2, xc_305_3, xc_305_4, trivial⟩
/-- SquareMeshModel.layLengths -/
theorem xj_306 : ∀ pc, pI 306 pc = pJ_306 pc := fun _ => rfl
noncomputable def xb_306_10 : List zF := [zq_vret]
theorem xc_306_10 : zCd 306 [0, 2, 21, 30, 38, 47, 112, 135, 141, 147, 150] 150 xb_306_10 := zc_return_ xj_306 151 rfl rfl (trivial)
noncomputable def xb_306_9 : List zF := [zq_goto 30]
theorem xc_306_9 : zCd 306 [0, 2, 21, 30, 38, 47, 112, 135, 141, 147, 150] 147 xb_306_9 := zc_goto xj_306 148 (-117) 30 rfl rfl rfl (trivial)
noncomputable def xb_306_8 : List zF := [zq_inc 3 1, zq_goto 38]
theorem xc_306_8 : zCd 306 [0, 2, 21, 30, 38, 47, 112, 135, 141, 147, 150] 141 xb_306_8 := zc_iinc xj_306 144 3 1 1 rfl rfl rfl (zc_goto xj_306 145 (-106) 38 rfl rfl rfl (trivial))
noncomputable def xb_306_7 : List zF := [zq_inc 4 1, zq_goto 47]
theorem xc_306_7 : zCd 306 [0, 2, 21, 30, 38, 47, 112, 135, 141, 147, 150] 135 xb_306_7 := zc_iinc xj_306 138 4 1 1 rfl rfl rfl (zc_goto xj_306 139 (-91) 47 rfl rfl rfl (trivial))
noncomputable def xb_306_6 : List zF := zq_ald 0 :: zq_getf 9 11 :: zq_ild 4 :: zq_ald 0 :: zq_getf 9 11 :: zq_ild 3 :: zq_ild_ 0 :: zq_ald 0 :: zq_ild 3 :: zq_ild 4 :: zq_calli 305 2 9 7 :: zq_add :: zq_iast :: zq_k 1 :: zq_ist 2 :: xb_306_7
theorem xc_306_6 : zCd 306 [0, 2, 21, 30, 38, 47, 112, 135, 141, 147, 150] 112 xb_306_6 := zc_aload_n xj_306 113 0 rfl rfl (zc_getf xj_306 116 42 9 11 105 rfl rfl (zc_iload xj_306 118 4 rfl rfl (zc_aload_n xj_306 119 0 rfl rfl (zc_getf xj_306 122 42 9 11 105 rfl rfl (zc_iload_n xj_306 123 3 rfl rfl (zc_iaload xj_306 124 rfl rfl (zc_aload_n xj_306 125 0 rfl rfl (zc_iload_n xj_306 126 3 rfl rfl (zc_iload xj_306 128 4 rfl rfl (zc_invokevirtual1 xj_306 131 323 305 2 376 9 7 rfl rfl rfl (zc_iadd xj_306 132 rfl rfl (zc_iastore xj_306 133 rfl rfl (zc_iconst xj_306 134 1 1 rfl rfl rfl (zc_istore_n xj_306 135 2 rfl rfl (xc_306_7)))))))))))))))
noncomputable def xb_306_5 : List zF := [zq_ild 4, zq_k 40, zq_ic_ge 141, zq_ald 0, zq_getf 9 11, zq_ild 3, zq_ild_ 0, zq_k 4294967295, zq_ic_eq 141, zq_ald 0, zq_ild 3, zq_ild 4, zq_calli 213 2 9 3, zq_if_eq 135, zq_ald 0, zq_getf 9 11, zq_ild 4, zq_ild_ 0, zq_k 4294967295, zq_ic_eq 112, zq_ald 0, zq_getf 9 11, zq_ild 4, zq_ild_ 0, zq_ald 0, zq_getf 9 11, zq_ild 3, zq_ild_ 0, zq_ald 0, zq_ild 3, zq_ild 4, zq_calli 305 2 9 7, zq_add, zq_ic_gt 112, zq_goto 135]
theorem xc_306_5 : zCd 306 [0, 2, 21, 30, 38, 47, 112, 135, 141, 147, 150] 47 xb_306_5 := zc_iload xj_306 49 4 rfl rfl (zc_bipush xj_306 51 40 40 rfl rfl rfl (zc_ic_ge xj_306 54 90 141 rfl rfl rfl (zc_aload_n xj_306 55 0 rfl rfl (zc_getf xj_306 58 42 9 11 105 rfl rfl (zc_iload_n xj_306 59 3 rfl rfl (zc_iaload xj_306 60 rfl rfl (zc_iconst xj_306 61 (-1) 4294967295 rfl rfl rfl (zc_ic_eq xj_306 64 80 141 rfl rfl rfl (zc_aload_n xj_306 65 0 rfl rfl (zc_iload_n xj_306 66 3 rfl rfl (zc_iload xj_306 68 4 rfl rfl (zc_invokevirtual1 xj_306 71 234 213 2 321 9 3 rfl rfl rfl (zc_if_eq xj_306 74 64 135 rfl rfl rfl (zc_aload_n xj_306 75 0 rfl rfl (zc_getf xj_306 78 42 9 11 105 rfl rfl (zc_iload xj_306 80 4 rfl rfl (zc_iaload xj_306 81 rfl rfl (zc_iconst xj_306 82 (-1) 4294967295 rfl rfl rfl (zc_ic_eq xj_306 85 30 112 rfl rfl rfl (zc_aload_n xj_306 86 0 rfl rfl (zc_getf xj_306 89 42 9 11 105 rfl rfl (zc_iload xj_306 91 4 rfl rfl (zc_iaload xj_306 92 rfl rfl (zc_aload_n xj_306 93 0 rfl rfl (zc_getf xj_306 96 42 9 11 105 rfl rfl (zc_iload_n xj_306 97 3 rfl rfl (zc_iaload xj_306 98 rfl rfl (zc_aload_n xj_306 99 0 rfl rfl (zc_iload_n xj_306 100 3 rfl rfl (zc_iload xj_306 102 4 rfl rfl (zc_invokevirtual1 xj_306 105 323 305 2 376 9 7 rfl rfl rfl (zc_iadd xj_306 106 rfl rfl (zc_ic_gt xj_306 109 6 112 rfl rfl rfl (zc_goto xj_306 110 26 135 rfl rfl rfl (trivial)))))))))))))))))))))))))))))))))))
noncomputable def xb_306_4 : List zF := zq_ild 3 :: zq_k 40 :: zq_ic_ge 147 :: zq_k 0 :: zq_ist 4 :: xb_306_5
theorem xc_306_4 : zCd 306 [0, 2, 21, 30, 38, 47, 112, 135, 141, 147, 150] 38 xb_306_4 := zc_iload_n xj_306 39 3 rfl rfl (zc_bipush xj_306 41 40 40 rfl rfl rfl (zc_ic_ge xj_306 44 106 147 rfl rfl rfl (zc_iconst xj_306 45 0 0 rfl rfl rfl (zc_istore xj_306 47 4 rfl rfl (xc_306_5)))))
noncomputable def xb_306_3 : List zF := zq_ild 2 :: zq_if_eq 150 :: zq_k 0 :: zq_ist 2 :: zq_k 0 :: zq_ist 3 :: xb_306_4
theorem xc_306_3 : zCd 306 [0, 2, 21, 30, 38, 47, 112, 135, 141, 147, 150] 30 xb_306_3 := zc_iload_n xj_306 31 2 rfl rfl (zc_if_eq xj_306 34 119 150 rfl rfl rfl (zc_iconst xj_306 35 0 0 rfl rfl rfl (zc_istore_n xj_306 36 2 rfl rfl (zc_iconst xj_306 37 0 0 rfl rfl rfl (zc_istore_n xj_306 38 3 rfl rfl (xc_306_4))))))
noncomputable def xb_306_2 : List zF := zq_ald 0 :: zq_getf 9 11 :: zq_ild 1 :: zq_k 0 :: zq_iast :: zq_k 1 :: zq_ist 2 :: xb_306_3
theorem xc_306_2 : zCd 306 [0, 2, 21, 30, 38, 47, 112, 135, 141, 147, 150] 21 xb_306_2 := zc_aload_n xj_306 22 0 rfl rfl (zc_getf xj_306 25 42 9 11 105 rfl rfl (zc_iload_n xj_306 26 1 rfl rfl (zc_iconst xj_306 27 0 0 rfl rfl rfl (zc_iastore xj_306 28 rfl rfl (zc_iconst xj_306 29 1 1 rfl rfl rfl (zc_istore_n xj_306 30 2 rfl rfl (xc_306_3)))))))
noncomputable def xb_306_1 : List zF := [zq_ild 2, zq_k 40, zq_ic_ge 21, zq_ald 0, zq_getf 9 11, zq_ild 2, zq_k 4294967295, zq_iast, zq_inc 2 1, zq_goto 2]
theorem xc_306_1 : zCd 306 [0, 2, 21, 30, 38, 47, 112, 135, 141, 147, 150] 2 xb_306_1 := zc_iload_n xj_306 3 2 rfl rfl (zc_bipush xj_306 5 40 40 rfl rfl rfl (zc_ic_ge xj_306 8 16 21 rfl rfl rfl (zc_aload_n xj_306 9 0 rfl rfl (zc_getf xj_306 12 42 9 11 105 rfl rfl (zc_iload_n xj_306 13 2 rfl rfl (zc_iconst xj_306 14 (-1) 4294967295 rfl rfl rfl (zc_iastore xj_306 15 rfl rfl (zc_iinc xj_306 18 2 1 1 rfl rfl rfl (zc_goto xj_306 19 (-16) 2 rfl rfl rfl (trivial))))))))))
noncomputable def xb_306_0 : List zF := zq_k 0 :: zq_ist 2 :: xb_306_1
theorem xc_306_0 : zCd 306 [0, 2, 21, 30, 38, 47, 112, 135, 141, 147, 150] 0 xb_306_0 := zc_iconst xj_306 1 0 0 rfl rfl rfl (zc_istore_n xj_306 2 2 rfl rfl (xc_306_1))
noncomputable def xm_306 : Lean.RArray (List zF) := .branch 47 (.branch 21 (.branch 2 (.leaf xb_306_0) (.leaf xb_306_1)) (.branch 30 (.leaf xb_306_2) (.branch 38 (.leaf xb_306_3) (.leaf xb_306_4)))) (.branch 141 (.branch 112 (.leaf xb_306_5) (.branch 135 (.leaf xb_306_6) (.leaf xb_306_7))) (.branch 147 (.leaf xb_306_8) (.branch 150 (.leaf xb_306_9) (.leaf xb_306_10))))
theorem xa_306 : zCdAll 306 [0, 2, 21, 30, 38, 47, 112, 135, 141, 147, 150] xm_306 := zAll2_ok (P := fun t => zCd 306 [0, 2, 21, 30, 38, 47, 112, 135, 141, 147, 150] t (xm_306.get t)) ⟨xc_306_0, xc_306_1, xc_306_2, xc_306_3, xc_306_4, xc_306_5, xc_306_6, xc_306_7, xc_306_8, xc_306_9, xc_306_10, trivial⟩
