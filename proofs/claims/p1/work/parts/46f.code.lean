/-! THE CODE OF EVERY METHOD AS LEAVES, with its proof. By program (wip/tools/mk46.py). -/
/-- SquareMeshModel.isBent -/
theorem xj_318 : ∀ pc, pI 318 pc = pJ_318 pc := fun _ => rfl
noncomputable def xb_318_10 : List zF := [zq_iret 1]
noncomputable def xf_318_10 : zE → zKn := fun E => zq_iret 1 (zNil) E
theorem xe_318_10 : xf_318_10 = zEx xb_318_10 := by
  unfold xf_318_10 xb_318_10
  rfl
theorem xc_318_10 : zCd 318 [0, 29, 31, 87, 88, 89, 102, 103, 126, 130, 131] 131 xb_318_10 := zc_ireturn1 xj_318 132 rfl rfl (trivial)
noncomputable def xb_318_9 : List zF := zq_k 0 :: xb_318_10
noncomputable def xf_318_9 : zE → zKn := fun E => zq_k 0 (xf_318_10 E) E
theorem xe_318_9 : xf_318_9 = zEx xb_318_9 := by
  unfold xf_318_9 xb_318_9
  rw [xe_318_10]
  rfl
theorem xc_318_9 : zCd 318 [0, 29, 31, 87, 88, 89, 102, 103, 126, 130, 131] 130 xb_318_9 := zc_iconst xj_318 131 0 0 rfl rfl rfl (xc_318_10)
noncomputable def xb_318_8 : List zF := [zq_k 1, zq_goto 131]
noncomputable def xf_318_8 : zE → zKn := fun E => zq_k 1 (zq_goto 131 (zNil) E) E
theorem xe_318_8 : xf_318_8 = zEx xb_318_8 := by
  unfold xf_318_8 xb_318_8
  rfl
theorem xc_318_8 : zCd 318 [0, 29, 31, 87, 88, 89, 102, 103, 126, 130, 131] 126 xb_318_8 := zc_iconst xj_318 127 1 1 rfl rfl rfl (zc_goto xj_318 128 4 131 rfl rfl rfl (trivial))
noncomputable def xb_318_7 : List zF := zq_istg zE7 :: zq_aldg zG0 :: zq_ildg zG3 :: zq_ildg zG7 :: zq_calli 200 2 9 3 :: zq_if_ne 126 :: zq_aldg zG0 :: zq_ildg zG4 :: zq_ildg zG7 :: zq_calli 200 2 9 3 :: zq_if_eq 130 :: xb_318_8
noncomputable def xf_318_7 : zE → zKn := fun E => zq_istg zE7 (zq_aldg zG0 (zq_ildg zG3 (zq_ildg zG7 (zq_calli 200 2 9 3 (zq_if_ne 126 (zq_aldg zG0 (zq_ildg zG4 (zq_ildg zG7 (zq_calli 200 2 9 3 (zq_if_eq 130 (xf_318_8 E) E) E) E) E) E) E) E) E) E) E) E
theorem xe_318_7 : xf_318_7 = zEx xb_318_7 := by
  unfold xf_318_7 xb_318_7
  rw [xe_318_8]
  rfl
theorem xc_318_7 : zCd 318 [0, 29, 31, 87, 88, 89, 102, 103, 126, 130, 131] 103 xb_318_7 := zc_istore xj_318 105 7 rfl rfl zf_ist_7 (zc_aload_n xj_318 106 0 rfl rfl zf_ald_0 (zc_iload_n xj_318 107 3 rfl rfl zf_ild_3 (zc_iload xj_318 109 7 rfl rfl zf_ild_7 (zc_invokevirtual1 xj_318 112 125 200 2 277 9 3 rfl rfl rfl rfl (zc_if_ne xj_318 115 14 126 rfl rfl rfl (zc_aload_n xj_318 116 0 rfl rfl zf_ald_0 (zc_iload xj_318 118 4 rfl rfl zf_ild_4 (zc_iload xj_318 120 7 rfl rfl zf_ild_7 (zc_invokevirtual1 xj_318 123 125 200 2 277 9 3 rfl rfl rfl rfl (zc_if_eq xj_318 126 7 130 rfl rfl rfl (xc_318_8)))))))))))
noncomputable def xb_318_6 : List zF := zq_ildg zG2 :: xb_318_7
noncomputable def xf_318_6 : zE → zKn := fun E => zq_ildg zG2 (xf_318_7 E) E
theorem xe_318_6 : xf_318_6 = zEx xb_318_6 := by
  unfold xf_318_6 xb_318_6
  rw [xe_318_7]
  rfl
theorem xc_318_6 : zCd 318 [0, 29, 31, 87, 88, 89, 102, 103, 126, 130, 131] 102 xb_318_6 := zc_iload_n xj_318 103 2 rfl rfl zf_ild_2 (xc_318_7)
noncomputable def xb_318_5 : List zF := [zq_aldg zG0, zq_ildg zG1, zq_ildg zG2, zq_calli 200 2 9 3, zq_if_eq 102, zq_ildg zG1, zq_goto 103]
noncomputable def xf_318_5 : zE → zKn := fun E => zq_aldg zG0 (zq_ildg zG1 (zq_ildg zG2 (zq_calli 200 2 9 3 (zq_if_eq 102 (zq_ildg zG1 (zq_goto 103 (zNil) E) E) E) E) E) E) E
theorem xe_318_5 : xf_318_5 = zEx xb_318_5 := by
  unfold xf_318_5 xb_318_5
  rfl
theorem xc_318_5 : zCd 318 [0, 29, 31, 87, 88, 89, 102, 103, 126, 130, 131] 89 xb_318_5 := zc_aload_n xj_318 90 0 rfl rfl zf_ald_0 (zc_iload_n xj_318 91 1 rfl rfl zf_ild_1 (zc_iload_n xj_318 92 2 rfl rfl zf_ild_2 (zc_invokevirtual1 xj_318 95 125 200 2 277 9 3 rfl rfl rfl rfl (zc_if_eq xj_318 98 7 102 rfl rfl rfl (zc_iload_n xj_318 99 1 rfl rfl zf_ild_1 (zc_goto xj_318 100 4 103 rfl rfl rfl (trivial)))))))
noncomputable def xb_318_4 : List zF := [zq_iret 1]
noncomputable def xf_318_4 : zE → zKn := fun E => zq_iret 1 (zNil) E
theorem xe_318_4 : xf_318_4 = zEx xb_318_4 := by
  unfold xf_318_4 xb_318_4
  rfl
theorem xc_318_4 : zCd 318 [0, 29, 31, 87, 88, 89, 102, 103, 126, 130, 131] 88 xb_318_4 := zc_ireturn1 xj_318 89 rfl rfl (trivial)
noncomputable def xb_318_3 : List zF := zq_k 0 :: xb_318_4
noncomputable def xf_318_3 : zE → zKn := fun E => zq_k 0 (xf_318_4 E) E
theorem xe_318_3 : xf_318_3 = zEx xb_318_3 := by
  unfold xf_318_3 xb_318_3
  rw [xe_318_4]
  rfl
theorem xc_318_3 : zCd 318 [0, 29, 31, 87, 88, 89, 102, 103, 126, 130, 131] 87 xb_318_3 := zc_iconst xj_318 88 0 0 rfl rfl rfl (xc_318_4)
noncomputable def xb_318_2 : List zF := [zq_aldg zG0, zq_aldg zG0, zq_ildg zG1, zq_ildg zG2, zN2 212 3 zg_212, zq_ildg zG1, zq_ildg zG2, zq_calli 317 3 9 5, zq_istg zE3, zq_aldg zG0, zq_aldg zG0, zq_ildg zG2, zq_ildg zG1, zN2 212 3 zg_212, zq_ildg zG1, zq_ildg zG2, zq_calli 317 3 9 5, zq_istg zE4, zq_aldg zG0, zq_ildg zG1, zq_ildg zG2, zq_ildg zG3, zq_ildg zG4, zq_calli 211 4 9 5, zq_lst 5, zq_lldg zG5, zq_kl 0, zq_lcmp, zq_if_eq 89, zq_lldg zG5, zq_kl 0, zq_lcmp, zq_if_le 87, zq_k 1, zq_goto 88]
noncomputable def xf_318_2 : zE → zKn := fun E => zq_aldg zG0 (zq_aldg zG0 (zq_ildg zG1 (zq_ildg zG2 (zN2 212 3 zg_212 (zq_ildg zG1 (zq_ildg zG2 (zq_calli 317 3 9 5 (zq_istg zE3 (zq_aldg zG0 (zq_aldg zG0 (zq_ildg zG2 (zq_ildg zG1 (zN2 212 3 zg_212 (zq_ildg zG1 (zq_ildg zG2 (zq_calli 317 3 9 5 (zq_istg zE4 (zq_aldg zG0 (zq_ildg zG1 (zq_ildg zG2 (zq_ildg zG3 (zq_ildg zG4 (zq_calli 211 4 9 5 (zq_lst 5 (zq_lldg zG5 (zq_kl 0 (zq_lcmp (zq_if_eq 89 (zq_lldg zG5 (zq_kl 0 (zq_lcmp (zq_if_le 87 (zq_k 1 (zq_goto 88 (zNil) E) E) E) E) E) E) E) E) E) E) E) E) E) E) E) E) E) E) E) E) E) E) E) E) E) E) E) E) E) E) E) E) E) E) E
set_option maxRecDepth 100000 in
theorem xe_318_2 : xf_318_2 = zEx xb_318_2 := by
  unfold xf_318_2 xb_318_2
  rfl
theorem xc_318_2 : zCd 318 [0, 29, 31, 87, 88, 89, 102, 103, 126, 130, 131] 31 xb_318_2 := zc_aload_n xj_318 32 0 rfl rfl zf_ald_0 (zc_aload_n xj_318 33 0 rfl rfl zf_ald_0 (zc_iload_n xj_318 34 1 rfl rfl zf_ild_1 (zc_iload_n xj_318 35 2 rfl rfl zf_ild_2 (zc_any xj_318 38 (.invokevirtual 118) [1, 212, 2, 262, 9, 3] rfl rfl (zN2 212 3 zg_212) rfl rfl (zc_iload_n xj_318 39 1 rfl rfl zf_ild_1 (zc_iload_n xj_318 40 2 rfl rfl zf_ild_2 (zc_invokevirtual1 xj_318 43 345 317 3 333 9 5 rfl rfl rfl rfl (zc_istore_n xj_318 44 3 rfl rfl zf_ist_3 (zc_aload_n xj_318 45 0 rfl rfl zf_ald_0 (zc_aload_n xj_318 46 0 rfl rfl zf_ald_0 (zc_iload_n xj_318 47 2 rfl rfl zf_ild_2 (zc_iload_n xj_318 48 1 rfl rfl zf_ild_1 (zc_any xj_318 51 (.invokevirtual 118) [1, 212, 2, 262, 9, 3] rfl rfl (zN2 212 3 zg_212) rfl rfl (zc_iload_n xj_318 52 1 rfl rfl zf_ild_1 (zc_iload_n xj_318 53 2 rfl rfl zf_ild_2 (zc_invokevirtual1 xj_318 56 345 317 3 333 9 5 rfl rfl rfl rfl (zc_istore xj_318 58 4 rfl rfl zf_ist_4 (zc_aload_n xj_318 59 0 rfl rfl zf_ald_0 (zc_iload_n xj_318 60 1 rfl rfl zf_ild_1 (zc_iload_n xj_318 61 2 rfl rfl zf_ild_2 (zc_iload_n xj_318 62 3 rfl rfl zf_ild_3 (zc_iload xj_318 64 4 rfl rfl zf_ild_4 (zc_invokevirtual1 xj_318 67 121 211 4 275 9 5 rfl rfl rfl rfl (zc_lstore xj_318 69 5 rfl rfl rfl (zc_lload xj_318 71 5 rfl rfl zf_lld_5 (zc_lconst xj_318 72 0 rfl rfl (zc_lcmp xj_318 73 rfl rfl (zc_if_eq xj_318 76 16 89 rfl rfl rfl (zc_lload xj_318 78 5 rfl rfl zf_lld_5 (zc_lconst xj_318 79 0 rfl rfl (zc_lcmp xj_318 80 rfl rfl (zc_if_le xj_318 83 7 87 rfl rfl rfl (zc_iconst xj_318 84 1 1 rfl rfl rfl (zc_goto xj_318 85 4 88 rfl rfl rfl (trivial)))))))))))))))))))))))))))))))))))
noncomputable def xb_318_1 : List zF := [zq_k 0, zq_iret 1]
noncomputable def xf_318_1 : zE → zKn := fun E => zq_k 0 (zq_iret 1 (zNil) E) E
theorem xe_318_1 : xf_318_1 = zEx xb_318_1 := by
  unfold xf_318_1 xb_318_1
  rfl
theorem xc_318_1 : zCd 318 [0, 29, 31, 87, 88, 89, 102, 103, 126, 130, 131] 29 xb_318_1 := zc_iconst xj_318 30 0 0 rfl rfl rfl (zc_ireturn1 xj_318 31 rfl rfl (trivial))
noncomputable def xb_318_0 : List zF := zq_aldg zG0 :: zq_ildg zG1 :: zq_ildg zG2 :: zN2 196 3 zg_196 :: zq_if_eq 29 :: zq_aldg zG0 :: zq_ildg zG1 :: zq_ildg zG2 :: zN2 212 3 zg_212 :: zq_k 4294967295 :: zq_ic_eq 29 :: zq_aldg zG0 :: zq_ildg zG2 :: zq_ildg zG1 :: zN2 212 3 zg_212 :: zq_k 4294967295 :: zq_ic_ne 31 :: xb_318_1
noncomputable def xf_318_0 : zE → zKn := fun E => zq_aldg zG0 (zq_ildg zG1 (zq_ildg zG2 (zN2 196 3 zg_196 (zq_if_eq 29 (zq_aldg zG0 (zq_ildg zG1 (zq_ildg zG2 (zN2 212 3 zg_212 (zq_k 4294967295 (zq_ic_eq 29 (zq_aldg zG0 (zq_ildg zG2 (zq_ildg zG1 (zN2 212 3 zg_212 (zq_k 4294967295 (zq_ic_ne 31 (xf_318_1 E) E) E) E) E) E) E) E) E) E) E) E) E) E) E) E) E) E
theorem xe_318_0 : xf_318_0 = zEx xb_318_0 := by
  unfold xf_318_0 xb_318_0
  rw [xe_318_1]
  rfl
theorem xc_318_0 : zCd 318 [0, 29, 31, 87, 88, 89, 102, 103, 126, 130, 131] 0 xb_318_0 := zc_aload_n xj_318 1 0 rfl rfl zf_ald_0 (zc_iload_n xj_318 2 1 rfl rfl zf_ild_1 (zc_iload_n xj_318 3 2 rfl rfl zf_ild_2 (zc_any xj_318 6 (.invokevirtual 102) [1, 196, 2, 258, 9, 3] rfl rfl (zN2 196 3 zg_196) rfl rfl (zc_if_eq xj_318 9 23 29 rfl rfl rfl (zc_aload_n xj_318 10 0 rfl rfl zf_ald_0 (zc_iload_n xj_318 11 1 rfl rfl zf_ild_1 (zc_iload_n xj_318 12 2 rfl rfl zf_ild_2 (zc_any xj_318 15 (.invokevirtual 118) [1, 212, 2, 262, 9, 3] rfl rfl (zN2 212 3 zg_212) rfl rfl (zc_iconst xj_318 16 (-1) 4294967295 rfl rfl rfl (zc_ic_eq xj_318 19 13 29 rfl rfl rfl (zc_aload_n xj_318 20 0 rfl rfl zf_ald_0 (zc_iload_n xj_318 21 2 rfl rfl zf_ild_2 (zc_iload_n xj_318 22 1 rfl rfl zf_ild_1 (zc_any xj_318 25 (.invokevirtual 118) [1, 212, 2, 262, 9, 3] rfl rfl (zN2 212 3 zg_212) rfl rfl (zc_iconst xj_318 26 (-1) 4294967295 rfl rfl rfl (zc_ic_ne xj_318 29 5 31 rfl rfl rfl (xc_318_1)))))))))))))))))
noncomputable def xm_318 : Lean.RArray (zE → zKn) := .branch 89 (.branch 31 (.branch 29 (.leaf xf_318_0) (.leaf xf_318_1)) (.branch 87 (.leaf xf_318_2) (.branch 88 (.leaf xf_318_3) (.leaf xf_318_4)))) (.branch 126 (.branch 102 (.leaf xf_318_5) (.branch 103 (.leaf xf_318_6) (.leaf xf_318_7))) (.branch 130 (.leaf xf_318_8) (.branch 131 (.leaf xf_318_9) (.leaf xf_318_10))))
theorem xa_318 : zCdAll 318 [0, 29, 31, 87, 88, 89, 102, 103, 126, 130, 131] xm_318 := zAll2_ok (P := fun t => ∃ c, zCd 318 [0, 29, 31, 87, 88, 89, 102, 103, 126, 130, 131] t c ∧ xm_318.get t = zEx c) ⟨⟨_, xc_318_0, xe_318_0⟩, ⟨_, xc_318_1, xe_318_1⟩, ⟨_, xc_318_2, xe_318_2⟩, ⟨_, xc_318_3, xe_318_3⟩, ⟨_, xc_318_4, xe_318_4⟩, ⟨_, xc_318_5, xe_318_5⟩, ⟨_, xc_318_6, xe_318_6⟩, ⟨_, xc_318_7, xe_318_7⟩, ⟨_, xc_318_8, xe_318_8⟩, ⟨_, xc_318_9, xe_318_9⟩, ⟨_, xc_318_10, xe_318_10⟩, trivial⟩
/-- SquareMeshModel.bents -/
theorem xj_319 : ∀ pc, pI 319 pc = pJ_319 pc := fun _ => rfl
noncomputable def xb_319_6 : List zF := [zq_ildg zG1, zq_iret 0]
noncomputable def xf_319_6 : zE → zKn := fun E => zq_ildg zG1 (zq_iret 0 (zNil) E) E
theorem xe_319_6 : xf_319_6 = zEx xb_319_6 := by
  unfold xf_319_6 xb_319_6
  rfl
theorem xc_319_6 : zCd 319 [0, 4, 14, 34, 35, 43, 49] 49 xb_319_6 := zc_iload_n xj_319 50 1 rfl rfl zf_ild_1 (zc_ireturn0 xj_319 51 rfl rfl (trivial))
noncomputable def xb_319_5 : List zF := [zq_incg zG2 zE2 1, zq_goto 4]
noncomputable def xf_319_5 : zE → zKn := fun E => zq_incg zG2 zE2 1 (zq_goto 4 (zNil) E) E
theorem xe_319_5 : xf_319_5 = zEx xb_319_5 := by
  unfold xf_319_5 xb_319_5
  rfl
theorem xc_319_5 : zCd 319 [0, 4, 14, 34, 35, 43, 49] 43 xb_319_5 := zc_iinc xj_319 46 2 1 1 rfl rfl rfl (zf_inc_2 _) (zc_goto xj_319 47 (-42) 4 rfl rfl rfl (trivial))
noncomputable def xb_319_4 : List zF := [zq_add, zq_istg zE1, zq_incg zG3 zE3 1, zq_goto 14]
noncomputable def xf_319_4 : zE → zKn := fun E => zq_add (zq_istg zE1 (zq_incg zG3 zE3 1 (zq_goto 14 (zNil) E) E) E) E
theorem xe_319_4 : xf_319_4 = zEx xb_319_4 := by
  unfold xf_319_4 xb_319_4
  rfl
theorem xc_319_4 : zCd 319 [0, 4, 14, 34, 35, 43, 49] 35 xb_319_4 := zc_iadd xj_319 36 rfl rfl (zc_istore_n xj_319 37 1 rfl rfl zf_ist_1 (zc_iinc xj_319 40 3 1 1 rfl rfl rfl (zf_inc_3 _) (zc_goto xj_319 41 (-26) 14 rfl rfl rfl (trivial))))
noncomputable def xb_319_3 : List zF := zq_k 0 :: xb_319_4
noncomputable def xf_319_3 : zE → zKn := fun E => zq_k 0 (xf_319_4 E) E
theorem xe_319_3 : xf_319_3 = zEx xb_319_3 := by
  unfold xf_319_3 xb_319_3
  rw [xe_319_4]
  rfl
theorem xc_319_3 : zCd 319 [0, 4, 14, 34, 35, 43, 49] 34 xb_319_3 := zc_iconst xj_319 35 0 0 rfl rfl rfl (xc_319_4)
noncomputable def xb_319_2 : List zF := [zq_ildg zG3, zq_k 40, zq_ic_ge 43, zq_ildg zG1, zq_aldg zG0, zq_ildg zG2, zq_ildg zG3, zq_calli 318 2 9 8, zq_if_eq 34, zq_k 1, zq_goto 35]
noncomputable def xf_319_2 : zE → zKn := fun E => zq_ildg zG3 (zq_k 40 (zq_ic_ge 43 (zq_ildg zG1 (zq_aldg zG0 (zq_ildg zG2 (zq_ildg zG3 (zq_calli 318 2 9 8 (zq_if_eq 34 (zq_k 1 (zq_goto 35 (zNil) E) E) E) E) E) E) E) E) E) E) E
theorem xe_319_2 : xf_319_2 = zEx xb_319_2 := by
  unfold xf_319_2 xb_319_2
  rfl
theorem xc_319_2 : zCd 319 [0, 4, 14, 34, 35, 43, 49] 14 xb_319_2 := zc_iload_n xj_319 15 3 rfl rfl zf_ild_3 (zc_bipush xj_319 17 40 40 rfl rfl rfl (zc_ic_ge xj_319 20 26 43 rfl rfl rfl (zc_iload_n xj_319 21 1 rfl rfl zf_ild_1 (zc_aload_n xj_319 22 0 rfl rfl zf_ald_0 (zc_iload_n xj_319 23 2 rfl rfl zf_ild_2 (zc_iload_n xj_319 24 3 rfl rfl zf_ild_3 (zc_invokevirtual1 xj_319 27 348 318 2 332 9 8 rfl rfl rfl rfl (zc_if_eq xj_319 30 7 34 rfl rfl rfl (zc_iconst xj_319 31 1 1 rfl rfl rfl (zc_goto xj_319 32 4 35 rfl rfl rfl (trivial)))))))))))
noncomputable def xb_319_1 : List zF := zq_ildg zG2 :: zq_k 40 :: zq_ic_ge 49 :: zq_ildg zG2 :: zq_k 1 :: zq_add :: zq_istg zE3 :: xb_319_2
noncomputable def xf_319_1 : zE → zKn := fun E => zq_ildg zG2 (zq_k 40 (zq_ic_ge 49 (zq_ildg zG2 (zq_k 1 (zq_add (zq_istg zE3 (xf_319_2 E) E) E) E) E) E) E) E
theorem xe_319_1 : xf_319_1 = zEx xb_319_1 := by
  unfold xf_319_1 xb_319_1
  rw [xe_319_2]
  rfl
theorem xc_319_1 : zCd 319 [0, 4, 14, 34, 35, 43, 49] 4 xb_319_1 := zc_iload_n xj_319 5 2 rfl rfl zf_ild_2 (zc_bipush xj_319 7 40 40 rfl rfl rfl (zc_ic_ge xj_319 10 42 49 rfl rfl rfl (zc_iload_n xj_319 11 2 rfl rfl zf_ild_2 (zc_iconst xj_319 12 1 1 rfl rfl rfl (zc_iadd xj_319 13 rfl rfl (zc_istore_n xj_319 14 3 rfl rfl zf_ist_3 (xc_319_2)))))))
noncomputable def xb_319_0 : List zF := zq_k 0 :: zq_istg zE1 :: zq_k 0 :: zq_istg zE2 :: xb_319_1
noncomputable def xf_319_0 : zE → zKn := fun E => zq_k 0 (zq_istg zE1 (zq_k 0 (zq_istg zE2 (xf_319_1 E) E) E) E) E
theorem xe_319_0 : xf_319_0 = zEx xb_319_0 := by
  unfold xf_319_0 xb_319_0
  rw [xe_319_1]
  rfl
theorem xc_319_0 : zCd 319 [0, 4, 14, 34, 35, 43, 49] 0 xb_319_0 := zc_iconst xj_319 1 0 0 rfl rfl rfl (zc_istore_n xj_319 2 1 rfl rfl zf_ist_1 (zc_iconst xj_319 3 0 0 rfl rfl rfl (zc_istore_n xj_319 4 2 rfl rfl zf_ist_2 (xc_319_1))))
noncomputable def xm_319 : Lean.RArray (zE → zKn) := .branch 34 (.branch 4 (.leaf xf_319_0) (.branch 14 (.leaf xf_319_1) (.leaf xf_319_2))) (.branch 43 (.branch 35 (.leaf xf_319_3) (.leaf xf_319_4)) (.branch 49 (.leaf xf_319_5) (.leaf xf_319_6)))
theorem xa_319 : zCdAll 319 [0, 4, 14, 34, 35, 43, 49] xm_319 := zAll2_ok (P := fun t => ∃ c, zCd 319 [0, 4, 14, 34, 35, 43, 49] t c ∧ xm_319.get t = zEx c) ⟨⟨_, xc_319_0, xe_319_0⟩, ⟨_, xc_319_1, xe_319_1⟩, ⟨_, xc_319_2, xe_319_2⟩, ⟨_, xc_319_3, xe_319_3⟩, ⟨_, xc_319_4, xe_319_4⟩, ⟨_, xc_319_5, xe_319_5⟩, ⟨_, xc_319_6, xe_319_6⟩, trivial⟩
/-- SquareMeshModel.bent -/
theorem xj_320 : ∀ pc, pI 320 pc = pJ_320 pc := fun _ => rfl
noncomputable def xb_320_7 : List zF := [zq_k 4294967295, zq_iret 0]
noncomputable def xf_320_7 : zE → zKn := fun E => zq_k 4294967295 (zq_iret 0 (zNil) E) E
theorem xe_320_7 : xf_320_7 = zEx xb_320_7 := by
  unfold xf_320_7 xb_320_7
  rfl
theorem xc_320_7 : zCd 320 [0, 4, 15, 35, 48, 51, 57, 63] 63 xb_320_7 := zc_iconst xj_320 64 (-1) 4294967295 rfl rfl rfl (zc_ireturn0 xj_320 65 rfl rfl (trivial))
noncomputable def xb_320_6 : List zF := [zq_incg zG3 zE3 1, zq_goto 4]
noncomputable def xf_320_6 : zE → zKn := fun E => zq_incg zG3 zE3 1 (zq_goto 4 (zNil) E) E
theorem xe_320_6 : xf_320_6 = zEx xb_320_6 := by
  unfold xf_320_6 xb_320_6
  rfl
theorem xc_320_6 : zCd 320 [0, 4, 15, 35, 48, 51, 57, 63] 57 xb_320_6 := zc_iinc xj_320 60 3 1 1 rfl rfl rfl (zf_inc_3 _) (zc_goto xj_320 61 (-56) 4 rfl rfl rfl (trivial))
noncomputable def xb_320_5 : List zF := [zq_incg zG4 zE4 1, zq_goto 15]
noncomputable def xf_320_5 : zE → zKn := fun E => zq_incg zG4 zE4 1 (zq_goto 15 (zNil) E) E
theorem xe_320_5 : xf_320_5 = zEx xb_320_5 := by
  unfold xf_320_5 xb_320_5
  rfl
theorem xc_320_5 : zCd 320 [0, 4, 15, 35, 48, 51, 57, 63] 51 xb_320_5 := zc_iinc xj_320 54 4 1 1 rfl rfl rfl (zf_inc_4 _) (zc_goto xj_320 55 (-39) 15 rfl rfl rfl (trivial))
noncomputable def xb_320_4 : List zF := zq_incg zG2 zE2 1 :: xb_320_5
noncomputable def xf_320_4 : zE → zKn := fun E => zq_incg zG2 zE2 1 (xf_320_5 E) E
theorem xe_320_4 : xf_320_4 = zEx xb_320_4 := by
  unfold xf_320_4 xb_320_4
  rw [xe_320_5]
  rfl
theorem xc_320_4 : zCd 320 [0, 4, 15, 35, 48, 51, 57, 63] 48 xb_320_4 := zc_iinc xj_320 51 2 1 1 rfl rfl rfl (zf_inc_2 _) (xc_320_5)
noncomputable def xb_320_3 : List zF := [zq_ildg zG2, zq_ildg zG1, zq_ic_ne 48, zq_k 100, zq_ildg zG3, zq_mul, zq_ildg zG4, zq_add, zq_iret 0]
noncomputable def xf_320_3 : zE → zKn := fun E => zq_ildg zG2 (zq_ildg zG1 (zq_ic_ne 48 (zq_k 100 (zq_ildg zG3 (zq_mul (zq_ildg zG4 (zq_add (zq_iret 0 (zNil) E) E) E) E) E) E) E) E) E
theorem xe_320_3 : xf_320_3 = zEx xb_320_3 := by
  unfold xf_320_3 xb_320_3
  rfl
theorem xc_320_3 : zCd 320 [0, 4, 15, 35, 48, 51, 57, 63] 35 xb_320_3 := zc_iload_n xj_320 36 2 rfl rfl zf_ild_2 (zc_iload_n xj_320 37 1 rfl rfl zf_ild_1 (zc_ic_ne xj_320 40 11 48 rfl rfl rfl (zc_bipush xj_320 42 100 100 rfl rfl rfl (zc_iload_n xj_320 43 3 rfl rfl zf_ild_3 (zc_imul xj_320 44 rfl rfl (zc_iload xj_320 46 4 rfl rfl zf_ild_4 (zc_iadd xj_320 47 rfl rfl (zc_ireturn0 xj_320 48 rfl rfl (trivial)))))))))
noncomputable def xb_320_2 : List zF := [zq_ildg zG4, zq_k 40, zq_ic_ge 57, zq_aldg zG0, zq_ildg zG3, zq_ildg zG4, zq_calli 318 2 9 8, zq_if_ne 35, zq_goto 51]
noncomputable def xf_320_2 : zE → zKn := fun E => zq_ildg zG4 (zq_k 40 (zq_ic_ge 57 (zq_aldg zG0 (zq_ildg zG3 (zq_ildg zG4 (zq_calli 318 2 9 8 (zq_if_ne 35 (zq_goto 51 (zNil) E) E) E) E) E) E) E) E) E
theorem xe_320_2 : xf_320_2 = zEx xb_320_2 := by
  unfold xf_320_2 xb_320_2
  rfl
theorem xc_320_2 : zCd 320 [0, 4, 15, 35, 48, 51, 57, 63] 15 xb_320_2 := zc_iload xj_320 17 4 rfl rfl zf_ild_4 (zc_bipush xj_320 19 40 40 rfl rfl rfl (zc_ic_ge xj_320 22 38 57 rfl rfl rfl (zc_aload_n xj_320 23 0 rfl rfl zf_ald_0 (zc_iload_n xj_320 24 3 rfl rfl zf_ild_3 (zc_iload xj_320 26 4 rfl rfl zf_ild_4 (zc_invokevirtual1 xj_320 29 348 318 2 332 9 8 rfl rfl rfl rfl (zc_if_ne xj_320 32 6 35 rfl rfl rfl (zc_goto xj_320 33 19 51 rfl rfl rfl (trivial)))))))))
noncomputable def xb_320_1 : List zF := zq_ildg zG3 :: zq_k 40 :: zq_ic_ge 63 :: zq_ildg zG3 :: zq_k 1 :: zq_add :: zq_istg zE4 :: xb_320_2
noncomputable def xf_320_1 : zE → zKn := fun E => zq_ildg zG3 (zq_k 40 (zq_ic_ge 63 (zq_ildg zG3 (zq_k 1 (zq_add (zq_istg zE4 (xf_320_2 E) E) E) E) E) E) E) E
theorem xe_320_1 : xf_320_1 = zEx xb_320_1 := by
  unfold xf_320_1 xb_320_1
  rw [xe_320_2]
  rfl
theorem xc_320_1 : zCd 320 [0, 4, 15, 35, 48, 51, 57, 63] 4 xb_320_1 := zc_iload_n xj_320 5 3 rfl rfl zf_ild_3 (zc_bipush xj_320 7 40 40 rfl rfl rfl (zc_ic_ge xj_320 10 56 63 rfl rfl rfl (zc_iload_n xj_320 11 3 rfl rfl zf_ild_3 (zc_iconst xj_320 12 1 1 rfl rfl rfl (zc_iadd xj_320 13 rfl rfl (zc_istore xj_320 15 4 rfl rfl zf_ist_4 (xc_320_2)))))))
noncomputable def xb_320_0 : List zF := zq_k 0 :: zq_istg zE2 :: zq_k 0 :: zq_istg zE3 :: xb_320_1
noncomputable def xf_320_0 : zE → zKn := fun E => zq_k 0 (zq_istg zE2 (zq_k 0 (zq_istg zE3 (xf_320_1 E) E) E) E) E
theorem xe_320_0 : xf_320_0 = zEx xb_320_0 := by
  unfold xf_320_0 xb_320_0
  rw [xe_320_1]
  rfl
theorem xc_320_0 : zCd 320 [0, 4, 15, 35, 48, 51, 57, 63] 0 xb_320_0 := zc_iconst xj_320 1 0 0 rfl rfl rfl (zc_istore_n xj_320 2 2 rfl rfl zf_ist_2 (zc_iconst xj_320 3 0 0 rfl rfl rfl (zc_istore_n xj_320 4 3 rfl rfl zf_ist_3 (xc_320_1))))
noncomputable def xm_320 : Lean.RArray (zE → zKn) := .branch 48 (.branch 15 (.branch 4 (.leaf xf_320_0) (.leaf xf_320_1)) (.branch 35 (.leaf xf_320_2) (.leaf xf_320_3))) (.branch 57 (.branch 51 (.leaf xf_320_4) (.leaf xf_320_5)) (.branch 63 (.leaf xf_320_6) (.leaf xf_320_7)))
theorem xa_320 : zCdAll 320 [0, 4, 15, 35, 48, 51, 57, 63] xm_320 := zAll2_ok (P := fun t => ∃ c, zCd 320 [0, 4, 15, 35, 48, 51, 57, 63] t c ∧ xm_320.get t = zEx c) ⟨⟨_, xc_320_0, xe_320_0⟩, ⟨_, xc_320_1, xe_320_1⟩, ⟨_, xc_320_2, xe_320_2⟩, ⟨_, xc_320_3, xe_320_3⟩, ⟨_, xc_320_4, xe_320_4⟩, ⟨_, xc_320_5, xe_320_5⟩, ⟨_, xc_320_6, xe_320_6⟩, ⟨_, xc_320_7, xe_320_7⟩, trivial⟩
/-- SquareMeshModel.thinnest -/
theorem xj_321 : ∀ pc, pI 321 pc = pJ_321 pc := fun _ => rfl
noncomputable def xb_321_0 : List zF := [zq_aldg zG0, zq_calli 251 0 9 3, zq_iret 0]
noncomputable def xf_321_0 : zE → zKn := fun E => zq_aldg zG0 (zq_calli 251 0 9 3 (zq_iret 0 (zNil) E) E) E
theorem xe_321_0 : xf_321_0 = zEx xb_321_0 := by
  unfold xf_321_0 xb_321_0
  rfl
theorem xc_321_0 : zCd 321 [0] 0 xb_321_0 := zc_aload_n xj_321 1 0 rfl rfl zf_ald_0 (zc_invokevirtual1 xj_321 4 218 251 0 311 9 3 rfl rfl rfl rfl (zc_ireturn0 xj_321 5 rfl rfl (trivial)))
noncomputable def xm_321 : Lean.RArray (zE → zKn) := .leaf xf_321_0
theorem xa_321 : zCdAll 321 [0] xm_321 := zAll2_ok (P := fun t => ∃ c, zCd 321 [0] t c ∧ xm_321.get t = zEx c) ⟨⟨_, xc_321_0, xe_321_0⟩, trivial⟩
/-- SquareMeshModel.circle -/
theorem xj_322 : ∀ pc, pI 322 pc = pJ_322 pc := fun _ => rfl
noncomputable def xb_322_5 : List zF := [zq_iret 0]
noncomputable def xf_322_5 : zE → zKn := fun E => zq_iret 0 (zNil) E
theorem xe_322_5 : xf_322_5 = zEx xb_322_5 := by
  unfold xf_322_5 xb_322_5
  rfl
theorem xc_322_5 : zCd 322 [0, 16, 19, 56, 67, 68] 68 xb_322_5 := zc_ireturn0 xj_322 69 rfl rfl (trivial)
noncomputable def xb_322_4 : List zF := zq_k 0 :: xb_322_5
noncomputable def xf_322_4 : zE → zKn := fun E => zq_k 0 (xf_322_5 E) E
theorem xe_322_4 : xf_322_4 = zEx xb_322_4 := by
  unfold xf_322_4 xb_322_4
  rw [xe_322_5]
  rfl
theorem xc_322_4 : zCd 322 [0, 16, 19, 56, 67, 68] 67 xb_322_4 := zc_iconst xj_322 68 0 0 rfl rfl rfl (xc_322_5)
noncomputable def xb_322_3 : List zF := [zq_lldg zG4, zq_kl 0, zq_lcmp, zq_if_ge 67, zq_k 4294967295, zq_goto 68]
noncomputable def xf_322_3 : zE → zKn := fun E => zq_lldg zG4 (zq_kl 0 (zq_lcmp (zq_if_ge 67 (zq_k 4294967295 (zq_goto 68 (zNil) E) E) E) E) E) E
theorem xe_322_3 : xf_322_3 = zEx xb_322_3 := by
  unfold xf_322_3 xb_322_3
  rfl
theorem xc_322_3 : zCd 322 [0, 16, 19, 56, 67, 68] 56 xb_322_3 := zc_lload xj_322 58 4 rfl rfl zf_lld_4 (zc_lconst xj_322 59 0 rfl rfl (zc_lcmp xj_322 60 rfl rfl (zc_if_ge xj_322 63 7 67 rfl rfl rfl (zc_iconst xj_322 64 (-1) 4294967295 rfl rfl rfl (zc_goto xj_322 65 4 68 rfl rfl rfl (trivial))))))
noncomputable def xb_322_2 : List zF := [zq_aldg zG0, zq_aldg zG0, zq_ildg zG1, zq_k 0, zq_calli 247 2 9 3, zq_aldg zG0, zq_ildg zG1, zq_k 1, zq_calli 247 2 9 3, zq_aldg zG0, zq_ildg zG1, zq_k 2, zq_calli 247 2 9 3, zq_ildg zG2, zq_ildg zG3, zq_calli 210 5 9 18, zq_lst 4, zq_lldg zG4, zq_kl 0, zq_lcmp, zq_if_le 56, zq_k 1, zq_goto 68]
noncomputable def xf_322_2 : zE → zKn := fun E => zq_aldg zG0 (zq_aldg zG0 (zq_ildg zG1 (zq_k 0 (zq_calli 247 2 9 3 (zq_aldg zG0 (zq_ildg zG1 (zq_k 1 (zq_calli 247 2 9 3 (zq_aldg zG0 (zq_ildg zG1 (zq_k 2 (zq_calli 247 2 9 3 (zq_ildg zG2 (zq_ildg zG3 (zq_calli 210 5 9 18 (zq_lst 4 (zq_lldg zG4 (zq_kl 0 (zq_lcmp (zq_if_le 56 (zq_k 1 (zq_goto 68 (zNil) E) E) E) E) E) E) E) E) E) E) E) E) E) E) E) E) E) E) E) E) E) E) E
theorem xe_322_2 : xf_322_2 = zEx xb_322_2 := by
  unfold xf_322_2 xb_322_2
  rfl
theorem xc_322_2 : zCd 322 [0, 16, 19, 56, 67, 68] 19 xb_322_2 := zc_aload_n xj_322 20 0 rfl rfl zf_ald_0 (zc_aload_n xj_322 21 0 rfl rfl zf_ald_0 (zc_iload_n xj_322 22 1 rfl rfl zf_ild_1 (zc_iconst xj_322 23 0 0 rfl rfl rfl (zc_invokevirtual1 xj_322 26 206 247 2 313 9 3 rfl rfl rfl rfl (zc_aload_n xj_322 27 0 rfl rfl zf_ald_0 (zc_iload_n xj_322 28 1 rfl rfl zf_ild_1 (zc_iconst xj_322 29 1 1 rfl rfl rfl (zc_invokevirtual1 xj_322 32 206 247 2 313 9 3 rfl rfl rfl rfl (zc_aload_n xj_322 33 0 rfl rfl zf_ald_0 (zc_iload_n xj_322 34 1 rfl rfl zf_ild_1 (zc_iconst xj_322 35 2 2 rfl rfl rfl (zc_invokevirtual1 xj_322 38 206 247 2 313 9 3 rfl rfl rfl rfl (zc_iload_n xj_322 39 2 rfl rfl zf_ild_2 (zc_iload_n xj_322 40 3 rfl rfl zf_ild_3 (zc_invokevirtual1 xj_322 43 114 210 5 276 9 18 rfl rfl rfl rfl (zc_lstore xj_322 45 4 rfl rfl rfl (zc_lload xj_322 47 4 rfl rfl zf_lld_4 (zc_lconst xj_322 48 0 rfl rfl (zc_lcmp xj_322 49 rfl rfl (zc_if_le xj_322 52 7 56 rfl rfl rfl (zc_iconst xj_322 53 1 1 rfl rfl rfl (zc_goto xj_322 54 15 68 rfl rfl rfl (trivial)))))))))))))))))))))))
noncomputable def xb_322_1 : List zF := [zq_k 4294967294, zq_iret 0]
noncomputable def xf_322_1 : zE → zKn := fun E => zq_k 4294967294 (zq_iret 0 (zNil) E) E
theorem xe_322_1 : xf_322_1 = zEx xb_322_1 := by
  unfold xf_322_1 xb_322_1
  rfl
theorem xc_322_1 : zCd 322 [0, 16, 19, 56, 67, 68] 16 xb_322_1 := zc_bipush xj_322 18 (-2) 4294967294 rfl rfl rfl (zc_ireturn0 xj_322 19 rfl rfl (trivial))
noncomputable def xb_322_0 : List zF := zq_aldg zG0 :: zq_ildg zG1 :: zq_calli 264 1 9 2 :: zq_if_eq 16 :: zq_ildg zG2 :: zq_ildg zG3 :: zq_calls 189 2 2 :: zq_if_ne 19 :: xb_322_1
noncomputable def xf_322_0 : zE → zKn := fun E => zq_aldg zG0 (zq_ildg zG1 (zq_calli 264 1 9 2 (zq_if_eq 16 (zq_ildg zG2 (zq_ildg zG3 (zq_calls 189 2 2 (zq_if_ne 19 (xf_322_1 E) E) E) E) E) E) E) E) E
theorem xe_322_0 : xf_322_0 = zEx xb_322_0 := by
  unfold xf_322_0 xb_322_0
  rw [xe_322_1]
  rfl
theorem xc_322_0 : zCd 322 [0, 16, 19, 56, 67, 68] 0 xb_322_0 := zc_aload_n xj_322 1 0 rfl rfl zf_ald_0 (zc_iload_n xj_322 2 1 rfl rfl zf_ild_1 (zc_invokevirtual1 xj_322 5 269 264 1 347 9 2 rfl rfl rfl rfl (zc_if_eq xj_322 8 11 16 rfl rfl rfl (zc_iload_n xj_322 9 2 rfl rfl zf_ild_2 (zc_iload_n xj_322 10 3 rfl rfl zf_ild_3 (zc_invokestatic2 xj_322 13 159 189 2 284 0 2 rfl rfl rfl rfl (zc_if_ne xj_322 16 6 19 rfl rfl rfl (xc_322_1))))))))
noncomputable def xm_322 : Lean.RArray (zE → zKn) := .branch 56 (.branch 16 (.leaf xf_322_0) (.branch 19 (.leaf xf_322_1) (.leaf xf_322_2))) (.branch 67 (.leaf xf_322_3) (.branch 68 (.leaf xf_322_4) (.leaf xf_322_5)))
theorem xa_322 : zCdAll 322 [0, 16, 19, 56, 67, 68] xm_322 := zAll2_ok (P := fun t => ∃ c, zCd 322 [0, 16, 19, 56, 67, 68] t c ∧ xm_322.get t = zEx c) ⟨⟨_, xc_322_0, xe_322_0⟩, ⟨_, xc_322_1, xe_322_1⟩, ⟨_, xc_322_2, xe_322_2⟩, ⟨_, xc_322_3, xe_322_3⟩, ⟨_, xc_322_4, xe_322_4⟩, ⟨_, xc_322_5, xe_322_5⟩, trivial⟩
/-- SquareMeshModel.heightAt -/
theorem xj_323 : ∀ pc, pI 323 pc = pJ_323 pc := fun _ => rfl
noncomputable def xb_323_5 : List zF := [zq_l2i, zq_iret 0]
noncomputable def xf_323_5 : zE → zKn := fun E => zq_l2i (zq_iret 0 (zNil) E) E
theorem xe_323_5 : xf_323_5 = zEx xb_323_5 := by
  unfold xf_323_5 xb_323_5
  rfl
theorem xc_323_5 : zCd 323 [0, 12, 25, 80, 103, 114] 114 xb_323_5 := zc_l2i xj_323 115 rfl rfl (zc_ireturn0 xj_323 116 rfl rfl (trivial))
noncomputable def xb_323_4 : List zF := zq_lldg zG6 :: zq_kl 1 :: zq_lsub :: zq_lldg zG4 :: zq_lsub :: zq_lldg zG6 :: zq_ldiv :: zq_lneg :: xb_323_5
noncomputable def xf_323_4 : zE → zKn := fun E => zq_lldg zG6 (zq_kl 1 (zq_lsub (zq_lldg zG4 (zq_lsub (zq_lldg zG6 (zq_ldiv (zq_lneg (xf_323_5 E) E) E) E) E) E) E) E) E
theorem xe_323_4 : xf_323_4 = zEx xb_323_4 := by
  unfold xf_323_4 xb_323_4
  rw [xe_323_5]
  rfl
theorem xc_323_4 : zCd 323 [0, 12, 25, 80, 103, 114] 103 xb_323_4 := zc_lload xj_323 105 6 rfl rfl zf_lld_6 (zc_lconst xj_323 106 1 rfl rfl (zc_lsub xj_323 107 rfl rfl (zc_lload xj_323 109 4 rfl rfl zf_lld_4 (zc_lsub xj_323 110 rfl rfl (zc_lload xj_323 112 6 rfl rfl zf_lld_6 (zc_ldiv xj_323 113 rfl rfl (zc_lneg xj_323 114 rfl rfl (xc_323_5))))))))
noncomputable def xb_323_3 : List zF := [zq_aldg zG0, zq_ildg zG3, zq_calli 250 1 9 2, zq_i2l, zq_lst 6, zq_lldg zG4, zq_kl 0, zq_lcmp, zq_if_lt 103, zq_lldg zG4, zq_lldg zG6, zq_ldiv, zq_goto 114]
noncomputable def xf_323_3 : zE → zKn := fun E => zq_aldg zG0 (zq_ildg zG3 (zq_calli 250 1 9 2 (zq_i2l (zq_lst 6 (zq_lldg zG4 (zq_kl 0 (zq_lcmp (zq_if_lt 103 (zq_lldg zG4 (zq_lldg zG6 (zq_ldiv (zq_goto 114 (zNil) E) E) E) E) E) E) E) E) E) E) E) E) E
theorem xe_323_3 : xf_323_3 = zEx xb_323_3 := by
  unfold xf_323_3 xb_323_3
  rfl
theorem xc_323_3 : zCd 323 [0, 12, 25, 80, 103, 114] 80 xb_323_3 := zc_aload_n xj_323 81 0 rfl rfl zf_ald_0 (zc_iload_n xj_323 82 3 rfl rfl zf_ild_3 (zc_invokevirtual1 xj_323 85 212 250 1 312 9 2 rfl rfl rfl rfl (zc_i2l xj_323 86 rfl rfl (zc_lstore xj_323 88 6 rfl rfl rfl (zc_lload xj_323 90 4 rfl rfl zf_lld_4 (zc_lconst xj_323 91 0 rfl rfl (zc_lcmp xj_323 92 rfl rfl (zc_if_lt xj_323 95 11 103 rfl rfl rfl (zc_lload xj_323 97 4 rfl rfl zf_lld_4 (zc_lload xj_323 99 6 rfl rfl zf_lld_6 (zc_ldiv xj_323 100 rfl rfl (zc_goto xj_323 101 14 114 rfl rfl rfl (trivial)))))))))))))
noncomputable def xb_323_2 : List zF := [zq_ildg zG6, zq_k 3, zq_ic_ge 80, zq_lldg zG4, zq_aldg zG0, zq_aldg zG0, zq_ildg zG3, zq_ildg zG6, zq_calli 247 2 9 3, zq_calli 194 1 9 2, zq_i2l, zq_aldg zG0, zq_aldg zG0, zq_ildg zG3, zq_ildg zG6, zq_k 1, zq_add, zq_calli 247 2 9 3, zq_aldg zG0, zq_ildg zG3, zq_ildg zG6, zq_k 2, zq_add, zq_calli 247 2 9 3, zq_ildg zG1, zq_ildg zG2, zq_calli 201 4 9 5, zq_i2l, zq_lmul, zq_ladd, zq_lst 4, zq_incg zG6 zE6 1, zq_goto 25]
noncomputable def xf_323_2 : zE → zKn := fun E => zq_ildg zG6 (zq_k 3 (zq_ic_ge 80 (zq_lldg zG4 (zq_aldg zG0 (zq_aldg zG0 (zq_ildg zG3 (zq_ildg zG6 (zq_calli 247 2 9 3 (zq_calli 194 1 9 2 (zq_i2l (zq_aldg zG0 (zq_aldg zG0 (zq_ildg zG3 (zq_ildg zG6 (zq_k 1 (zq_add (zq_calli 247 2 9 3 (zq_aldg zG0 (zq_ildg zG3 (zq_ildg zG6 (zq_k 2 (zq_add (zq_calli 247 2 9 3 (zq_ildg zG1 (zq_ildg zG2 (zq_calli 201 4 9 5 (zq_i2l (zq_lmul (zq_ladd (zq_lst 4 (zq_incg zG6 zE6 1 (zq_goto 25 (zNil) E) E) E) E) E) E) E) E) E) E) E) E) E) E) E) E) E) E) E) E) E) E) E) E) E) E) E) E) E) E) E) E) E
set_option maxRecDepth 100000 in
theorem xe_323_2 : xf_323_2 = zEx xb_323_2 := by
  unfold xf_323_2 xb_323_2
  rfl
theorem xc_323_2 : zCd 323 [0, 12, 25, 80, 103, 114] 25 xb_323_2 := zc_iload xj_323 27 6 rfl rfl zf_ild_6 (zc_iconst xj_323 28 3 3 rfl rfl rfl (zc_ic_ge xj_323 31 52 80 rfl rfl rfl (zc_lload xj_323 33 4 rfl rfl zf_lld_4 (zc_aload_n xj_323 34 0 rfl rfl zf_ald_0 (zc_aload_n xj_323 35 0 rfl rfl zf_ald_0 (zc_iload_n xj_323 36 3 rfl rfl zf_ild_3 (zc_iload xj_323 38 6 rfl rfl zf_ild_6 (zc_invokevirtual1 xj_323 41 206 247 2 313 9 3 rfl rfl rfl rfl (zc_invokevirtual1 xj_323 44 266 194 1 344 9 2 rfl rfl rfl rfl (zc_i2l xj_323 45 rfl rfl (zc_aload_n xj_323 46 0 rfl rfl zf_ald_0 (zc_aload_n xj_323 47 0 rfl rfl zf_ald_0 (zc_iload_n xj_323 48 3 rfl rfl zf_ild_3 (zc_iload xj_323 50 6 rfl rfl zf_ild_6 (zc_iconst xj_323 51 1 1 rfl rfl rfl (zc_iadd xj_323 52 rfl rfl (zc_invokevirtual1 xj_323 55 206 247 2 313 9 3 rfl rfl rfl rfl (zc_aload_n xj_323 56 0 rfl rfl zf_ald_0 (zc_iload_n xj_323 57 3 rfl rfl zf_ild_3 (zc_iload xj_323 59 6 rfl rfl zf_ild_6 (zc_iconst xj_323 60 2 2 rfl rfl rfl (zc_iadd xj_323 61 rfl rfl (zc_invokevirtual1 xj_323 64 206 247 2 313 9 3 rfl rfl rfl rfl (zc_iload_n xj_323 65 1 rfl rfl zf_ild_1 (zc_iload_n xj_323 66 2 rfl rfl zf_ild_2 (zc_invokevirtual1 xj_323 69 82 201 4 259 9 5 rfl rfl rfl rfl (zc_i2l xj_323 70 rfl rfl (zc_lmul xj_323 71 rfl rfl (zc_ladd xj_323 72 rfl rfl (zc_lstore xj_323 74 4 rfl rfl rfl (zc_iinc xj_323 77 6 1 1 rfl rfl rfl (zf_inc_6 _) (zc_goto xj_323 78 (-52) 25 rfl rfl rfl (trivial)))))))))))))))))))))))))))))))))
noncomputable def xb_323_1 : List zF := zq_aldg zG0 :: zq_ildg zG1 :: zq_ildg zG2 :: zq_calli 274 2 9 4 :: zq_istg zE3 :: zq_kl 0 :: zq_lst 4 :: zq_k 0 :: zq_istg zE6 :: xb_323_2
noncomputable def xf_323_1 : zE → zKn := fun E => zq_aldg zG0 (zq_ildg zG1 (zq_ildg zG2 (zq_calli 274 2 9 4 (zq_istg zE3 (zq_kl 0 (zq_lst 4 (zq_k 0 (zq_istg zE6 (xf_323_2 E) E) E) E) E) E) E) E) E) E
theorem xe_323_1 : xf_323_1 = zEx xb_323_1 := by
  unfold xf_323_1 xb_323_1
  rw [xe_323_2]
  rfl
theorem xc_323_1 : zCd 323 [0, 12, 25, 80, 103, 114] 12 xb_323_1 := zc_aload_n xj_323 13 0 rfl rfl zf_ald_0 (zc_iload_n xj_323 14 1 rfl rfl zf_ild_1 (zc_iload_n xj_323 15 2 rfl rfl zf_ild_2 (zc_invokevirtual1 xj_323 18 281 274 2 336 9 4 rfl rfl rfl rfl (zc_istore_n xj_323 19 3 rfl rfl zf_ist_3 (zc_lconst xj_323 20 0 rfl rfl (zc_lstore xj_323 22 4 rfl rfl rfl (zc_iconst xj_323 23 0 0 rfl rfl rfl (zc_istore xj_323 25 6 rfl rfl zf_ist_6 (xc_323_2)))))))))
noncomputable def xb_323_0 : List zF := [zq_ildg zG1, zq_ildg zG2, zq_calls 189 2 2, zq_if_ne 12, zq_k 4294867296, zq_iret 0]
noncomputable def xf_323_0 : zE → zKn := fun E => zq_ildg zG1 (zq_ildg zG2 (zq_calls 189 2 2 (zq_if_ne 12 (zq_k 4294867296 (zq_iret 0 (zNil) E) E) E) E) E) E
theorem xe_323_0 : xf_323_0 = zEx xb_323_0 := by
  unfold xf_323_0 xb_323_0
  rfl
theorem xc_323_0 : zCd 323 [0, 12, 25, 80, 103, 114] 0 xb_323_0 := zc_iload_n xj_323 1 1 rfl rfl zf_ild_1 (zc_iload_n xj_323 2 2 rfl rfl zf_ild_2 (zc_invokestatic2 xj_323 5 159 189 2 284 0 2 rfl rfl rfl rfl (zc_if_ne xj_323 8 7 12 rfl rfl rfl (zc_ldc_w xj_323 11 262 4294867296 3 rfl rfl rfl (zc_ireturn0 xj_323 12 rfl rfl (trivial))))))
noncomputable def xm_323 : Lean.RArray (zE → zKn) := .branch 80 (.branch 12 (.leaf xf_323_0) (.branch 25 (.leaf xf_323_1) (.leaf xf_323_2))) (.branch 103 (.leaf xf_323_3) (.branch 114 (.leaf xf_323_4) (.leaf xf_323_5)))
theorem xa_323 : zCdAll 323 [0, 12, 25, 80, 103, 114] xm_323 := zAll2_ok (P := fun t => ∃ c, zCd 323 [0, 12, 25, 80, 103, 114] t c ∧ xm_323.get t = zEx c) ⟨⟨_, xc_323_0, xe_323_0⟩, ⟨_, xc_323_1, xe_323_1⟩, ⟨_, xc_323_2, xe_323_2⟩, ⟨_, xc_323_3, xe_323_3⟩, ⟨_, xc_323_4, xe_323_4⟩, ⟨_, xc_323_5, xe_323_5⟩, trivial⟩
/-- SquareMeshModel.level -/
theorem xj_324 : ∀ pc, pI 324 pc = pJ_324 pc := fun _ => rfl
noncomputable def xb_324_10 : List zF := [zq_ildg zG2, zq_iret 0]
noncomputable def xf_324_10 : zE → zKn := fun E => zq_ildg zG2 (zq_iret 0 (zNil) E) E
theorem xe_324_10 : xf_324_10 = zEx xb_324_10 := by
  unfold xf_324_10 xb_324_10
  rfl
theorem xc_324_10 : zCd 324 [0, 4, 13, 43, 44, 58, 59, 66, 67, 75, 81] 81 xb_324_10 := zc_iload_n xj_324 82 2 rfl rfl zf_ild_2 (zc_ireturn0 xj_324 83 rfl rfl (trivial))
noncomputable def xb_324_9 : List zF := [zq_incg zG3 zE3 1, zq_goto 4]
noncomputable def xf_324_9 : zE → zKn := fun E => zq_incg zG3 zE3 1 (zq_goto 4 (zNil) E) E
theorem xe_324_9 : xf_324_9 = zEx xb_324_9 := by
  unfold xf_324_9 xb_324_9
  rfl
theorem xc_324_9 : zCd 324 [0, 4, 13, 43, 44, 58, 59, 66, 67, 75, 81] 75 xb_324_9 := zc_iinc xj_324 78 3 1 1 rfl rfl rfl (zf_inc_3 _) (zc_goto xj_324 79 (-74) 4 rfl rfl rfl (trivial))
noncomputable def xb_324_8 : List zF := [zq_add, zq_istg zE2, zq_incg zG4 zE4 1, zq_goto 13]
noncomputable def xf_324_8 : zE → zKn := fun E => zq_add (zq_istg zE2 (zq_incg zG4 zE4 1 (zq_goto 13 (zNil) E) E) E) E
theorem xe_324_8 : xf_324_8 = zEx xb_324_8 := by
  unfold xf_324_8 xb_324_8
  rfl
theorem xc_324_8 : zCd 324 [0, 4, 13, 43, 44, 58, 59, 66, 67, 75, 81] 67 xb_324_8 := zc_iadd xj_324 68 rfl rfl (zc_istore_n xj_324 69 2 rfl rfl zf_ist_2 (zc_iinc xj_324 72 4 1 1 rfl rfl rfl (zf_inc_4 _) (zc_goto xj_324 73 (-59) 13 rfl rfl rfl (trivial))))
noncomputable def xb_324_7 : List zF := zq_k 0 :: xb_324_8
noncomputable def xf_324_7 : zE → zKn := fun E => zq_k 0 (xf_324_8 E) E
theorem xe_324_7 : xf_324_7 = zEx xb_324_7 := by
  unfold xf_324_7 xb_324_7
  rw [xe_324_8]
  rfl
theorem xc_324_7 : zCd 324 [0, 4, 13, 43, 44, 58, 59, 66, 67, 75, 81] 66 xb_324_7 := zc_iconst xj_324 67 0 0 rfl rfl rfl (xc_324_8)
noncomputable def xb_324_6 : List zF := [zq_ic_eq 66, zq_k 1, zq_goto 67]
noncomputable def xf_324_6 : zE → zKn := fun E => zq_ic_eq 66 (zq_k 1 (zq_goto 67 (zNil) E) E) E
theorem xe_324_6 : xf_324_6 = zEx xb_324_6 := by
  unfold xf_324_6 xb_324_6
  rfl
theorem xc_324_6 : zCd 324 [0, 4, 13, 43, 44, 58, 59, 66, 67, 75, 81] 59 xb_324_6 := zc_ic_eq xj_324 62 7 66 rfl rfl rfl (zc_iconst xj_324 63 1 1 rfl rfl rfl (zc_goto xj_324 64 4 67 rfl rfl rfl (trivial)))
noncomputable def xb_324_5 : List zF := zq_k 0 :: xb_324_6
noncomputable def xf_324_5 : zE → zKn := fun E => zq_k 0 (xf_324_6 E) E
theorem xe_324_5 : xf_324_5 = zEx xb_324_5 := by
  unfold xf_324_5 xb_324_5
  rw [xe_324_6]
  rfl
theorem xc_324_5 : zCd 324 [0, 4, 13, 43, 44, 58, 59, 66, 67, 75, 81] 58 xb_324_5 := zc_iconst xj_324 59 0 0 rfl rfl rfl (xc_324_6)
noncomputable def xb_324_4 : List zF := [zq_aldg zG0, zq_ildg zG4, zq_calli 194 1 9 2, zq_ildg zG1, zq_ic_le 58, zq_k 1, zq_goto 59]
noncomputable def xf_324_4 : zE → zKn := fun E => zq_aldg zG0 (zq_ildg zG4 (zq_calli 194 1 9 2 (zq_ildg zG1 (zq_ic_le 58 (zq_k 1 (zq_goto 59 (zNil) E) E) E) E) E) E) E
theorem xe_324_4 : xf_324_4 = zEx xb_324_4 := by
  unfold xf_324_4 xb_324_4
  rfl
theorem xc_324_4 : zCd 324 [0, 4, 13, 43, 44, 58, 59, 66, 67, 75, 81] 44 xb_324_4 := zc_aload_n xj_324 45 0 rfl rfl zf_ald_0 (zc_iload xj_324 47 4 rfl rfl zf_ild_4 (zc_invokevirtual1 xj_324 50 266 194 1 344 9 2 rfl rfl rfl rfl (zc_iload_n xj_324 51 1 rfl rfl zf_ild_1 (zc_ic_le xj_324 54 7 58 rfl rfl rfl (zc_iconst xj_324 55 1 1 rfl rfl rfl (zc_goto xj_324 56 4 59 rfl rfl rfl (trivial)))))))
noncomputable def xb_324_3 : List zF := zq_k 0 :: xb_324_4
noncomputable def xf_324_3 : zE → zKn := fun E => zq_k 0 (xf_324_4 E) E
theorem xe_324_3 : xf_324_3 = zEx xb_324_3 := by
  unfold xf_324_3 xb_324_3
  rw [xe_324_4]
  rfl
theorem xc_324_3 : zCd 324 [0, 4, 13, 43, 44, 58, 59, 66, 67, 75, 81] 43 xb_324_3 := zc_iconst xj_324 44 0 0 rfl rfl rfl (xc_324_4)
noncomputable def xb_324_2 : List zF := [zq_ildg zG4, zq_ildg zG3, zq_ic_ge 75, zq_ildg zG2, zq_aldg zG0, zq_ildg zG3, zq_ildg zG4, zN2 213 3 zg_213, zq_if_eq 66, zq_aldg zG0, zq_ildg zG3, zq_calli 194 1 9 2, zq_ildg zG1, zq_ic_le 43, zq_k 1, zq_goto 44]
noncomputable def xf_324_2 : zE → zKn := fun E => zq_ildg zG4 (zq_ildg zG3 (zq_ic_ge 75 (zq_ildg zG2 (zq_aldg zG0 (zq_ildg zG3 (zq_ildg zG4 (zN2 213 3 zg_213 (zq_if_eq 66 (zq_aldg zG0 (zq_ildg zG3 (zq_calli 194 1 9 2 (zq_ildg zG1 (zq_ic_le 43 (zq_k 1 (zq_goto 44 (zNil) E) E) E) E) E) E) E) E) E) E) E) E) E) E) E) E
theorem xe_324_2 : xf_324_2 = zEx xb_324_2 := by
  unfold xf_324_2 xb_324_2
  rfl
theorem xc_324_2 : zCd 324 [0, 4, 13, 43, 44, 58, 59, 66, 67, 75, 81] 13 xb_324_2 := zc_iload xj_324 15 4 rfl rfl zf_ild_4 (zc_iload_n xj_324 16 3 rfl rfl zf_ild_3 (zc_ic_ge xj_324 19 59 75 rfl rfl rfl (zc_iload_n xj_324 20 2 rfl rfl zf_ild_2 (zc_aload_n xj_324 21 0 rfl rfl zf_ald_0 (zc_iload_n xj_324 22 3 rfl rfl zf_ild_3 (zc_iload xj_324 24 4 rfl rfl zf_ild_4 (zc_any xj_324 27 (.invokevirtual 234) [1, 213, 2, 321, 9, 3] rfl rfl (zN2 213 3 zg_213) rfl rfl (zc_if_eq xj_324 30 39 66 rfl rfl rfl (zc_aload_n xj_324 31 0 rfl rfl zf_ald_0 (zc_iload_n xj_324 32 3 rfl rfl zf_ild_3 (zc_invokevirtual1 xj_324 35 266 194 1 344 9 2 rfl rfl rfl rfl (zc_iload_n xj_324 36 1 rfl rfl zf_ild_1 (zc_ic_le xj_324 39 7 43 rfl rfl rfl (zc_iconst xj_324 40 1 1 rfl rfl rfl (zc_goto xj_324 41 4 44 rfl rfl rfl (trivial))))))))))))))))
noncomputable def xb_324_1 : List zF := zq_ildg zG3 :: zq_k 40 :: zq_ic_ge 81 :: zq_k 0 :: zq_istg zE4 :: xb_324_2
noncomputable def xf_324_1 : zE → zKn := fun E => zq_ildg zG3 (zq_k 40 (zq_ic_ge 81 (zq_k 0 (zq_istg zE4 (xf_324_2 E) E) E) E) E) E
theorem xe_324_1 : xf_324_1 = zEx xb_324_1 := by
  unfold xf_324_1 xb_324_1
  rw [xe_324_2]
  rfl
theorem xc_324_1 : zCd 324 [0, 4, 13, 43, 44, 58, 59, 66, 67, 75, 81] 4 xb_324_1 := zc_iload_n xj_324 5 3 rfl rfl zf_ild_3 (zc_bipush xj_324 7 40 40 rfl rfl rfl (zc_ic_ge xj_324 10 74 81 rfl rfl rfl (zc_iconst xj_324 11 0 0 rfl rfl rfl (zc_istore xj_324 13 4 rfl rfl zf_ist_4 (xc_324_2)))))
noncomputable def xb_324_0 : List zF := zq_k 0 :: zq_istg zE2 :: zq_k 0 :: zq_istg zE3 :: xb_324_1
noncomputable def xf_324_0 : zE → zKn := fun E => zq_k 0 (zq_istg zE2 (zq_k 0 (zq_istg zE3 (xf_324_1 E) E) E) E) E
theorem xe_324_0 : xf_324_0 = zEx xb_324_0 := by
  unfold xf_324_0 xb_324_0
  rw [xe_324_1]
  rfl
theorem xc_324_0 : zCd 324 [0, 4, 13, 43, 44, 58, 59, 66, 67, 75, 81] 0 xb_324_0 := zc_iconst xj_324 1 0 0 rfl rfl rfl (zc_istore_n xj_324 2 2 rfl rfl zf_ist_2 (zc_iconst xj_324 3 0 0 rfl rfl rfl (zc_istore_n xj_324 4 3 rfl rfl zf_ist_3 (xc_324_1))))
noncomputable def xm_324 : Lean.RArray (zE → zKn) := .branch 58 (.branch 13 (.branch 4 (.leaf xf_324_0) (.leaf xf_324_1)) (.branch 43 (.leaf xf_324_2) (.branch 44 (.leaf xf_324_3) (.leaf xf_324_4)))) (.branch 67 (.branch 59 (.leaf xf_324_5) (.branch 66 (.leaf xf_324_6) (.leaf xf_324_7))) (.branch 75 (.leaf xf_324_8) (.branch 81 (.leaf xf_324_9) (.leaf xf_324_10))))
theorem xa_324 : zCdAll 324 [0, 4, 13, 43, 44, 58, 59, 66, 67, 75, 81] xm_324 := zAll2_ok (P := fun t => ∃ c, zCd 324 [0, 4, 13, 43, 44, 58, 59, 66, 67, 75, 81] t c ∧ xm_324.get t = zEx c) ⟨⟨_, xc_324_0, xe_324_0⟩, ⟨_, xc_324_1, xe_324_1⟩, ⟨_, xc_324_2, xe_324_2⟩, ⟨_, xc_324_3, xe_324_3⟩, ⟨_, xc_324_4, xe_324_4⟩, ⟨_, xc_324_5, xe_324_5⟩, ⟨_, xc_324_6, xe_324_6⟩, ⟨_, xc_324_7, xe_324_7⟩, ⟨_, xc_324_8, xe_324_8⟩, ⟨_, xc_324_9, xe_324_9⟩, ⟨_, xc_324_10, xe_324_10⟩, trivial⟩
/-- SquareMeshModel.downOf -/
theorem xj_325 : ∀ pc, pI 325 pc = pJ_325 pc := fun _ => rfl
noncomputable def xb_325_6 : List zF := [zq_iret 0]
noncomputable def xf_325_6 : zE → zKn := fun E => zq_iret 0 (zNil) E
theorem xe_325_6 : xf_325_6 = zEx xb_325_6 := by
  unfold xf_325_6 xb_325_6
  rfl
theorem xc_325_6 : zCd 325 [0, 4, 37, 39, 45, 62, 63] 63 xb_325_6 := zc_ireturn0 xj_325 64 rfl rfl (trivial)
noncomputable def xb_325_5 : List zF := zq_ildg zG1 :: xb_325_6
noncomputable def xf_325_5 : zE → zKn := fun E => zq_ildg zG1 (xf_325_6 E) E
theorem xe_325_5 : xf_325_5 = zEx xb_325_5 := by
  unfold xf_325_5 xb_325_5
  rw [xe_325_6]
  rfl
theorem xc_325_5 : zCd 325 [0, 4, 37, 39, 45, 62, 63] 62 xb_325_5 := zc_iload_n xj_325 63 1 rfl rfl zf_ild_1 (xc_325_6)
noncomputable def xb_325_4 : List zF := [zq_aldg zG0, zq_ildg zG2, zq_calli 194 1 9 2, zq_aldg zG0, zq_ildg zG1, zq_calli 194 1 9 2, zq_ic_ge 62, zq_ildg zG2, zq_goto 63]
noncomputable def xf_325_4 : zE → zKn := fun E => zq_aldg zG0 (zq_ildg zG2 (zq_calli 194 1 9 2 (zq_aldg zG0 (zq_ildg zG1 (zq_calli 194 1 9 2 (zq_ic_ge 62 (zq_ildg zG2 (zq_goto 63 (zNil) E) E) E) E) E) E) E) E) E
theorem xe_325_4 : xf_325_4 = zEx xb_325_4 := by
  unfold xf_325_4 xb_325_4
  rfl
theorem xc_325_4 : zCd 325 [0, 4, 37, 39, 45, 62, 63] 45 xb_325_4 := zc_aload_n xj_325 46 0 rfl rfl zf_ald_0 (zc_iload_n xj_325 47 2 rfl rfl zf_ild_2 (zc_invokevirtual1 xj_325 50 266 194 1 344 9 2 rfl rfl rfl rfl (zc_aload_n xj_325 51 0 rfl rfl zf_ald_0 (zc_iload_n xj_325 52 1 rfl rfl zf_ild_1 (zc_invokevirtual1 xj_325 55 266 194 1 344 9 2 rfl rfl rfl rfl (zc_ic_ge xj_325 58 7 62 rfl rfl rfl (zc_iload_n xj_325 59 2 rfl rfl zf_ild_2 (zc_goto xj_325 60 4 63 rfl rfl rfl (trivial)))))))))
noncomputable def xb_325_3 : List zF := [zq_incg zG3 zE3 1, zq_goto 4]
noncomputable def xf_325_3 : zE → zKn := fun E => zq_incg zG3 zE3 1 (zq_goto 4 (zNil) E) E
theorem xe_325_3 : xf_325_3 = zEx xb_325_3 := by
  unfold xf_325_3 xb_325_3
  rfl
theorem xc_325_3 : zCd 325 [0, 4, 37, 39, 45, 62, 63] 39 xb_325_3 := zc_iinc xj_325 42 3 1 1 rfl rfl rfl (zf_inc_3 _) (zc_goto xj_325 43 (-38) 4 rfl rfl rfl (trivial))
noncomputable def xb_325_2 : List zF := zq_ildg zG3 :: zq_istg zE2 :: xb_325_3
noncomputable def xf_325_2 : zE → zKn := fun E => zq_ildg zG3 (zq_istg zE2 (xf_325_3 E) E) E
theorem xe_325_2 : xf_325_2 = zEx xb_325_2 := by
  unfold xf_325_2 xb_325_2
  rw [xe_325_3]
  rfl
theorem xc_325_2 : zCd 325 [0, 4, 37, 39, 45, 62, 63] 37 xb_325_2 := zc_iload_n xj_325 38 3 rfl rfl zf_ild_3 (zc_istore_n xj_325 39 2 rfl rfl zf_ist_2 (xc_325_3))
noncomputable def xb_325_1 : List zF := zq_ildg zG3 :: zq_k 40 :: zq_ic_ge 45 :: zq_aldg zG0 :: zq_ildg zG1 :: zq_ildg zG3 :: zN2 213 3 zg_213 :: zq_if_eq 39 :: zq_ildg zG2 :: zq_k 4294967295 :: zq_ic_eq 37 :: zq_aldg zG0 :: zq_ildg zG3 :: zq_calli 194 1 9 2 :: zq_aldg zG0 :: zq_ildg zG2 :: zq_calli 194 1 9 2 :: zq_ic_ge 39 :: xb_325_2
noncomputable def xf_325_1 : zE → zKn := fun E => zq_ildg zG3 (zq_k 40 (zq_ic_ge 45 (zq_aldg zG0 (zq_ildg zG1 (zq_ildg zG3 (zN2 213 3 zg_213 (zq_if_eq 39 (zq_ildg zG2 (zq_k 4294967295 (zq_ic_eq 37 (zq_aldg zG0 (zq_ildg zG3 (zq_calli 194 1 9 2 (zq_aldg zG0 (zq_ildg zG2 (zq_calli 194 1 9 2 (zq_ic_ge 39 (xf_325_2 E) E) E) E) E) E) E) E) E) E) E) E) E) E) E) E) E) E) E
theorem xe_325_1 : xf_325_1 = zEx xb_325_1 := by
  unfold xf_325_1 xb_325_1
  rw [xe_325_2]
  rfl
theorem xc_325_1 : zCd 325 [0, 4, 37, 39, 45, 62, 63] 4 xb_325_1 := zc_iload_n xj_325 5 3 rfl rfl zf_ild_3 (zc_bipush xj_325 7 40 40 rfl rfl rfl (zc_ic_ge xj_325 10 38 45 rfl rfl rfl (zc_aload_n xj_325 11 0 rfl rfl zf_ald_0 (zc_iload_n xj_325 12 1 rfl rfl zf_ild_1 (zc_iload_n xj_325 13 3 rfl rfl zf_ild_3 (zc_any xj_325 16 (.invokevirtual 234) [1, 213, 2, 321, 9, 3] rfl rfl (zN2 213 3 zg_213) rfl rfl (zc_if_eq xj_325 19 23 39 rfl rfl rfl (zc_iload_n xj_325 20 2 rfl rfl zf_ild_2 (zc_iconst xj_325 21 (-1) 4294967295 rfl rfl rfl (zc_ic_eq xj_325 24 16 37 rfl rfl rfl (zc_aload_n xj_325 25 0 rfl rfl zf_ald_0 (zc_iload_n xj_325 26 3 rfl rfl zf_ild_3 (zc_invokevirtual1 xj_325 29 266 194 1 344 9 2 rfl rfl rfl rfl (zc_aload_n xj_325 30 0 rfl rfl zf_ald_0 (zc_iload_n xj_325 31 2 rfl rfl zf_ild_2 (zc_invokevirtual1 xj_325 34 266 194 1 344 9 2 rfl rfl rfl rfl (zc_ic_ge xj_325 37 5 39 rfl rfl rfl (xc_325_2))))))))))))))))))
noncomputable def xb_325_0 : List zF := zq_k 4294967295 :: zq_istg zE2 :: zq_k 0 :: zq_istg zE3 :: xb_325_1
noncomputable def xf_325_0 : zE → zKn := fun E => zq_k 4294967295 (zq_istg zE2 (zq_k 0 (zq_istg zE3 (xf_325_1 E) E) E) E) E
theorem xe_325_0 : xf_325_0 = zEx xb_325_0 := by
  unfold xf_325_0 xb_325_0
  rw [xe_325_1]
  rfl
theorem xc_325_0 : zCd 325 [0, 4, 37, 39, 45, 62, 63] 0 xb_325_0 := zc_iconst xj_325 1 (-1) 4294967295 rfl rfl rfl (zc_istore_n xj_325 2 2 rfl rfl zf_ist_2 (zc_iconst xj_325 3 0 0 rfl rfl rfl (zc_istore_n xj_325 4 3 rfl rfl zf_ist_3 (xc_325_1))))
noncomputable def xm_325 : Lean.RArray (zE → zKn) := .branch 39 (.branch 4 (.leaf xf_325_0) (.branch 37 (.leaf xf_325_1) (.leaf xf_325_2))) (.branch 62 (.branch 45 (.leaf xf_325_3) (.leaf xf_325_4)) (.branch 63 (.leaf xf_325_5) (.leaf xf_325_6)))
theorem xa_325 : zCdAll 325 [0, 4, 37, 39, 45, 62, 63] xm_325 := zAll2_ok (P := fun t => ∃ c, zCd 325 [0, 4, 37, 39, 45, 62, 63] t c ∧ xm_325.get t = zEx c) ⟨⟨_, xc_325_0, xe_325_0⟩, ⟨_, xc_325_1, xe_325_1⟩, ⟨_, xc_325_2, xe_325_2⟩, ⟨_, xc_325_3, xe_325_3⟩, ⟨_, xc_325_4, xe_325_4⟩, ⟨_, xc_325_5, xe_325_5⟩, ⟨_, xc_325_6, xe_325_6⟩, trivial⟩
/-- SquareMeshModel.drain -/
theorem xj_326 : ∀ pc, pI 326 pc = pJ_326 pc := fun _ => rfl
noncomputable def xb_326_6 : List zF := [zq_iret 0]
noncomputable def xf_326_6 : zE → zKn := fun E => zq_iret 0 (zNil) E
theorem xe_326_6 : xf_326_6 = zEx xb_326_6 := by
  unfold xf_326_6 xb_326_6
  rfl
theorem xc_326_6 : zCd 326 [0, 17, 19, 24, 45, 53, 55] 55 xb_326_6 := zc_ireturn0 xj_326 56 rfl rfl (trivial)
noncomputable def xb_326_5 : List zF := zq_ildg zG4 :: xb_326_6
noncomputable def xf_326_5 : zE → zKn := fun E => zq_ildg zG4 (xf_326_6 E) E
theorem xe_326_5 : xf_326_5 = zEx xb_326_5 := by
  unfold xf_326_5 xb_326_5
  rw [xe_326_6]
  rfl
theorem xc_326_5 : zCd 326 [0, 17, 19, 24, 45, 53, 55] 53 xb_326_5 := zc_iload xj_326 55 4 rfl rfl zf_ild_4 (xc_326_6)
noncomputable def xb_326_4 : List zF := [zq_ildg zG2, zq_if_ne 53, zq_ildg zG3, zq_goto 55]
noncomputable def xf_326_4 : zE → zKn := fun E => zq_ildg zG2 (zq_if_ne 53 (zq_ildg zG3 (zq_goto 55 (zNil) E) E) E) E
theorem xe_326_4 : xf_326_4 = zEx xb_326_4 := by
  unfold xf_326_4 xb_326_4
  rfl
theorem xc_326_4 : zCd 326 [0, 17, 19, 24, 45, 53, 55] 45 xb_326_4 := zc_iload_n xj_326 46 2 rfl rfl zf_ild_2 (zc_if_ne xj_326 49 7 53 rfl rfl rfl (zc_iload_n xj_326 50 3 rfl rfl zf_ild_3 (zc_goto xj_326 51 5 55 rfl rfl rfl (trivial))))
noncomputable def xb_326_3 : List zF := [zq_aldg zG0, zq_ildg zG3, zq_calli 325 1 9 4, zq_ildg zG3, zq_ic_eq 45, zq_aldg zG0, zq_ildg zG3, zq_calli 325 1 9 4, zq_istg zE3, zq_incg zG4 zE4 1, zq_goto 24]
noncomputable def xf_326_3 : zE → zKn := fun E => zq_aldg zG0 (zq_ildg zG3 (zq_calli 325 1 9 4 (zq_ildg zG3 (zq_ic_eq 45 (zq_aldg zG0 (zq_ildg zG3 (zq_calli 325 1 9 4 (zq_istg zE3 (zq_incg zG4 zE4 1 (zq_goto 24 (zNil) E) E) E) E) E) E) E) E) E) E) E
theorem xe_326_3 : xf_326_3 = zEx xb_326_3 := by
  unfold xf_326_3 xb_326_3
  rfl
theorem xc_326_3 : zCd 326 [0, 17, 19, 24, 45, 53, 55] 24 xb_326_3 := zc_aload_n xj_326 25 0 rfl rfl zf_ald_0 (zc_iload_n xj_326 26 3 rfl rfl zf_ild_3 (zc_invokevirtual1 xj_326 29 351 325 1 392 9 4 rfl rfl rfl rfl (zc_iload_n xj_326 30 3 rfl rfl zf_ild_3 (zc_ic_eq xj_326 33 15 45 rfl rfl rfl (zc_aload_n xj_326 34 0 rfl rfl zf_ald_0 (zc_iload_n xj_326 35 3 rfl rfl zf_ild_3 (zc_invokevirtual1 xj_326 38 351 325 1 392 9 4 rfl rfl rfl rfl (zc_istore_n xj_326 39 3 rfl rfl zf_ist_3 (zc_iinc xj_326 42 4 1 1 rfl rfl rfl (zf_inc_4 _) (zc_goto xj_326 43 (-18) 24 rfl rfl rfl (trivial)))))))))))
noncomputable def xb_326_2 : List zF := zq_ildg zG1 :: zq_istg zE3 :: zq_k 0 :: zq_istg zE4 :: xb_326_3
noncomputable def xf_326_2 : zE → zKn := fun E => zq_ildg zG1 (zq_istg zE3 (zq_k 0 (zq_istg zE4 (xf_326_3 E) E) E) E) E
theorem xe_326_2 : xf_326_2 = zEx xb_326_2 := by
  unfold xf_326_2 xb_326_2
  rw [xe_326_3]
  rfl
theorem xc_326_2 : zCd 326 [0, 17, 19, 24, 45, 53, 55] 19 xb_326_2 := zc_iload_n xj_326 20 1 rfl rfl zf_ild_1 (zc_istore_n xj_326 21 3 rfl rfl zf_ist_3 (zc_iconst xj_326 22 0 0 rfl rfl rfl (zc_istore xj_326 24 4 rfl rfl zf_ist_4 (xc_326_3))))
noncomputable def xb_326_1 : List zF := [zq_k 4294967295, zq_iret 0]
noncomputable def xf_326_1 : zE → zKn := fun E => zq_k 4294967295 (zq_iret 0 (zNil) E) E
theorem xe_326_1 : xf_326_1 = zEx xb_326_1 := by
  unfold xf_326_1 xb_326_1
  rfl
theorem xc_326_1 : zCd 326 [0, 17, 19, 24, 45, 53, 55] 17 xb_326_1 := zc_iconst xj_326 18 (-1) 4294967295 rfl rfl rfl (zc_ireturn0 xj_326 19 rfl rfl (trivial))
noncomputable def xb_326_0 : List zF := zq_aldg zG0 :: zq_ildg zG1 :: zN1 191 2 zg_191 :: zq_if_eq 17 :: zq_ildg zG2 :: zq_k 0 :: zq_k 1 :: zq_calls 188 3 3 :: zq_if_ne 19 :: xb_326_1
noncomputable def xf_326_0 : zE → zKn := fun E => zq_aldg zG0 (zq_ildg zG1 (zN1 191 2 zg_191 (zq_if_eq 17 (zq_ildg zG2 (zq_k 0 (zq_k 1 (zq_calls 188 3 3 (zq_if_ne 19 (xf_326_1 E) E) E) E) E) E) E) E) E) E
theorem xe_326_0 : xf_326_0 = zEx xb_326_0 := by
  unfold xf_326_0 xb_326_0
  rw [xe_326_1]
  rfl
theorem xc_326_0 : zCd 326 [0, 17, 19, 24, 45, 53, 55] 0 xb_326_0 := zc_aload_n xj_326 1 0 rfl rfl zf_ald_0 (zc_iload_n xj_326 2 1 rfl rfl zf_ild_1 (zc_any xj_326 5 (.invokevirtual 71) [1, 191, 1, 264, 9, 2] rfl rfl (zN1 191 2 zg_191) rfl rfl (zc_if_eq xj_326 8 12 17 rfl rfl rfl (zc_iload_n xj_326 9 2 rfl rfl zf_ild_2 (zc_iconst xj_326 10 0 0 rfl rfl rfl (zc_iconst xj_326 11 1 1 rfl rfl rfl (zc_invokestatic2 xj_326 14 67 188 3 265 0 3 rfl rfl rfl rfl (zc_if_ne xj_326 17 5 19 rfl rfl rfl (xc_326_1)))))))))
noncomputable def xm_326 : Lean.RArray (zE → zKn) := .branch 24 (.branch 17 (.leaf xf_326_0) (.branch 19 (.leaf xf_326_1) (.leaf xf_326_2))) (.branch 53 (.branch 45 (.leaf xf_326_3) (.leaf xf_326_4)) (.branch 55 (.leaf xf_326_5) (.leaf xf_326_6)))
theorem xa_326 : zCdAll 326 [0, 17, 19, 24, 45, 53, 55] xm_326 := zAll2_ok (P := fun t => ∃ c, zCd 326 [0, 17, 19, 24, 45, 53, 55] t c ∧ xm_326.get t = zEx c) ⟨⟨_, xc_326_0, xe_326_0⟩, ⟨_, xc_326_1, xe_326_1⟩, ⟨_, xc_326_2, xe_326_2⟩, ⟨_, xc_326_3, xe_326_3⟩, ⟨_, xc_326_4, xe_326_4⟩, ⟨_, xc_326_5, xe_326_5⟩, ⟨_, xc_326_6, xe_326_6⟩, trivial⟩
/-- SquareMeshModel.volume -/
theorem xj_327 : ∀ pc, pI 327 pc = pJ_327 pc := fun _ => rfl
noncomputable def xb_327_2 : List zF := [zq_lldg zG1, zq_lret]
noncomputable def xf_327_2 : zE → zKn := fun E => zq_lldg zG1 (zq_lret (zNil) E) E
theorem xe_327_2 : xf_327_2 = zEx xb_327_2 := by
  unfold xf_327_2 xb_327_2
  rfl
theorem xc_327_2 : zCd 327 [0, 4, 61] 61 xb_327_2 := zc_lload_n xj_327 62 1 rfl rfl zf_lld_1 (zc_lreturn xj_327 63 rfl rfl (trivial))
noncomputable def xb_327_1 : List zF := [zq_ildg zG3, zq_aldg zG0, zq_getfg 9 zG4, zq_ic_ge 61, zq_lldg zG1, zq_aldg zG0, zq_ildg zG3, zq_calli 250 1 9 2, zq_i2l, zq_aldg zG0, zq_aldg zG0, zq_ildg zG3, zq_k 0, zq_calli 247 2 9 3, zq_calli 194 1 9 2, zq_aldg zG0, zq_aldg zG0, zq_ildg zG3, zq_k 1, zq_calli 247 2 9 3, zq_calli 194 1 9 2, zq_add, zq_aldg zG0, zq_aldg zG0, zq_ildg zG3, zq_k 2, zq_calli 247 2 9 3, zq_calli 194 1 9 2, zq_add, zq_i2l, zq_lmul, zq_ladd, zq_lst 1, zq_incg zG3 zE3 1, zq_goto 4]
noncomputable def xf_327_1 : zE → zKn := fun E => zq_ildg zG3 (zq_aldg zG0 (zq_getfg 9 zG4 (zq_ic_ge 61 (zq_lldg zG1 (zq_aldg zG0 (zq_ildg zG3 (zq_calli 250 1 9 2 (zq_i2l (zq_aldg zG0 (zq_aldg zG0 (zq_ildg zG3 (zq_k 0 (zq_calli 247 2 9 3 (zq_calli 194 1 9 2 (zq_aldg zG0 (zq_aldg zG0 (zq_ildg zG3 (zq_k 1 (zq_calli 247 2 9 3 (zq_calli 194 1 9 2 (zq_add (zq_aldg zG0 (zq_aldg zG0 (zq_ildg zG3 (zq_k 2 (zq_calli 247 2 9 3 (zq_calli 194 1 9 2 (zq_add (zq_i2l (zq_lmul (zq_ladd (zq_lst 1 (zq_incg zG3 zE3 1 (zq_goto 4 (zNil) E) E) E) E) E) E) E) E) E) E) E) E) E) E) E) E) E) E) E) E) E) E) E) E) E) E) E) E) E) E) E) E) E) E) E
set_option maxRecDepth 100000 in
theorem xe_327_1 : xf_327_1 = zEx xb_327_1 := by
  unfold xf_327_1 xb_327_1
  rfl
theorem xc_327_1 : zCd 327 [0, 4, 61] 4 xb_327_1 := zc_iload_n xj_327 5 3 rfl rfl zf_ild_3 (zc_aload_n xj_327 6 0 rfl rfl zf_ald_0 (zc_getf xj_327 9 134 9 4 98 rfl rfl (zf_getf_4 _) (zc_ic_ge xj_327 12 52 61 rfl rfl rfl (zc_lload_n xj_327 13 1 rfl rfl zf_lld_1 (zc_aload_n xj_327 14 0 rfl rfl zf_ald_0 (zc_iload_n xj_327 15 3 rfl rfl zf_ild_3 (zc_invokevirtual1 xj_327 18 212 250 1 312 9 2 rfl rfl rfl rfl (zc_i2l xj_327 19 rfl rfl (zc_aload_n xj_327 20 0 rfl rfl zf_ald_0 (zc_aload_n xj_327 21 0 rfl rfl zf_ald_0 (zc_iload_n xj_327 22 3 rfl rfl zf_ild_3 (zc_iconst xj_327 23 0 0 rfl rfl rfl (zc_invokevirtual1 xj_327 26 206 247 2 313 9 3 rfl rfl rfl rfl (zc_invokevirtual1 xj_327 29 266 194 1 344 9 2 rfl rfl rfl rfl (zc_aload_n xj_327 30 0 rfl rfl zf_ald_0 (zc_aload_n xj_327 31 0 rfl rfl zf_ald_0 (zc_iload_n xj_327 32 3 rfl rfl zf_ild_3 (zc_iconst xj_327 33 1 1 rfl rfl rfl (zc_invokevirtual1 xj_327 36 206 247 2 313 9 3 rfl rfl rfl rfl (zc_invokevirtual1 xj_327 39 266 194 1 344 9 2 rfl rfl rfl rfl (zc_iadd xj_327 40 rfl rfl (zc_aload_n xj_327 41 0 rfl rfl zf_ald_0 (zc_aload_n xj_327 42 0 rfl rfl zf_ald_0 (zc_iload_n xj_327 43 3 rfl rfl zf_ild_3 (zc_iconst xj_327 44 2 2 rfl rfl rfl (zc_invokevirtual1 xj_327 47 206 247 2 313 9 3 rfl rfl rfl rfl (zc_invokevirtual1 xj_327 50 266 194 1 344 9 2 rfl rfl rfl rfl (zc_iadd xj_327 51 rfl rfl (zc_i2l xj_327 52 rfl rfl (zc_lmul xj_327 53 rfl rfl (zc_ladd xj_327 54 rfl rfl (zc_lstore_n xj_327 55 1 rfl rfl rfl (zc_iinc xj_327 58 3 1 1 rfl rfl rfl (zf_inc_3 _) (zc_goto xj_327 59 (-54) 4 rfl rfl rfl (trivial)))))))))))))))))))))))))))))))))))
noncomputable def xb_327_0 : List zF := zq_kl 0 :: zq_lst 1 :: zq_k 0 :: zq_istg zE3 :: xb_327_1
noncomputable def xf_327_0 : zE → zKn := fun E => zq_kl 0 (zq_lst 1 (zq_k 0 (zq_istg zE3 (xf_327_1 E) E) E) E) E
theorem xe_327_0 : xf_327_0 = zEx xb_327_0 := by
  unfold xf_327_0 xb_327_0
  rw [xe_327_1]
  rfl
theorem xc_327_0 : zCd 327 [0, 4, 61] 0 xb_327_0 := zc_lconst xj_327 1 0 rfl rfl (zc_lstore_n xj_327 2 1 rfl rfl rfl (zc_iconst xj_327 3 0 0 rfl rfl rfl (zc_istore_n xj_327 4 3 rfl rfl zf_ist_3 (xc_327_1))))
noncomputable def xm_327 : Lean.RArray (zE → zKn) := .branch 4 (.leaf xf_327_0) (.branch 61 (.leaf xf_327_1) (.leaf xf_327_2))
theorem xa_327 : zCdAll 327 [0, 4, 61] xm_327 := zAll2_ok (P := fun t => ∃ c, zCd 327 [0, 4, 61] t c ∧ xm_327.get t = zEx c) ⟨⟨_, xc_327_0, xe_327_0⟩, ⟨_, xc_327_1, xe_327_1⟩, ⟨_, xc_327_2, xe_327_2⟩, trivial⟩
/-- SquareMeshModel.layPassages -/
theorem xj_328 : ∀ pc, pI 328 pc = pJ_328 pc := fun _ => rfl
noncomputable def xb_328_10 : List zF := [zq_vret]
noncomputable def xf_328_10 : zE → zKn := fun E => zq_vret (zNil) E
theorem xe_328_10 : xf_328_10 = zEx xb_328_10 := by
  unfold xf_328_10 xb_328_10
  rfl
theorem xc_328_10 : zCd 328 [0, 2, 23, 34, 43, 55, 103, 121, 127, 133, 139] 139 xb_328_10 := zc_return_ xj_328 140 rfl rfl (trivial)
noncomputable def xb_328_9 : List zF := [zq_incg zG3 zE3 1, zq_goto 34]
noncomputable def xf_328_9 : zE → zKn := fun E => zq_incg zG3 zE3 1 (zq_goto 34 (zNil) E) E
theorem xe_328_9 : xf_328_9 = zEx xb_328_9 := by
  unfold xf_328_9 xb_328_9
  rfl
theorem xc_328_9 : zCd 328 [0, 2, 23, 34, 43, 55, 103, 121, 127, 133, 139] 133 xb_328_9 := zc_iinc xj_328 136 3 1 1 rfl rfl rfl (zf_inc_3 _) (zc_goto xj_328 137 (-102) 34 rfl rfl rfl (trivial))
noncomputable def xb_328_8 : List zF := [zq_incg zG4 zE4 1, zq_goto 43]
noncomputable def xf_328_8 : zE → zKn := fun E => zq_incg zG4 zE4 1 (zq_goto 43 (zNil) E) E
theorem xe_328_8 : xf_328_8 = zEx xb_328_8 := by
  unfold xf_328_8 xb_328_8
  rfl
theorem xc_328_8 : zCd 328 [0, 2, 23, 34, 43, 55, 103, 121, 127, 133, 139] 127 xb_328_8 := zc_iinc xj_328 130 4 1 1 rfl rfl rfl (zf_inc_4 _) (zc_goto xj_328 131 (-87) 43 rfl rfl rfl (trivial))
noncomputable def xb_328_7 : List zF := [zq_incg zG5 zE5 1, zq_goto 55]
noncomputable def xf_328_7 : zE → zKn := fun E => zq_incg zG5 zE5 1 (zq_goto 55 (zNil) E) E
theorem xe_328_7 : xf_328_7 = zEx xb_328_7 := by
  unfold xf_328_7 xb_328_7
  rfl
theorem xc_328_7 : zCd 328 [0, 2, 23, 34, 43, 55, 103, 121, 127, 133, 139] 121 xb_328_7 := zc_iinc xj_328 124 5 1 1 rfl rfl rfl (zf_inc_5 _) (zc_goto xj_328 125 (-69) 55 rfl rfl rfl (trivial))
noncomputable def xb_328_6 : List zF := zq_aldg zG0 :: zq_getfg 9 zG8 :: zq_aldg zG0 :: zq_ildg zG4 :: zq_ildg zG5 :: zq_calli 266 2 9 3 :: zq_ildg zG3 :: zq_k 1 :: zq_add :: zq_iast :: zq_k 1 :: zq_istg zE2 :: xb_328_7
noncomputable def xf_328_6 : zE → zKn := fun E => zq_aldg zG0 (zq_getfg 9 zG8 (zq_aldg zG0 (zq_ildg zG4 (zq_ildg zG5 (zq_calli 266 2 9 3 (zq_ildg zG3 (zq_k 1 (zq_add (zq_iast (zq_k 1 (zq_istg zE2 (xf_328_7 E) E) E) E) E) E) E) E) E) E) E) E) E
theorem xe_328_6 : xf_328_6 = zEx xb_328_6 := by
  unfold xf_328_6 xb_328_6
  rw [xe_328_7]
  rfl
theorem xc_328_6 : zCd 328 [0, 2, 23, 34, 43, 55, 103, 121, 127, 133, 139] 103 xb_328_6 := zc_aload_n xj_328 104 0 rfl rfl zf_ald_0 (zc_getf xj_328 107 33 9 8 102 rfl rfl (zf_getf_8 _) (zc_aload_n xj_328 108 0 rfl rfl zf_ald_0 (zc_iload xj_328 110 4 rfl rfl zf_ild_4 (zc_iload xj_328 112 5 rfl rfl zf_ild_5 (zc_invokevirtual1 xj_328 115 272 266 2 330 9 3 rfl rfl rfl rfl (zc_iload_n xj_328 116 3 rfl rfl zf_ild_3 (zc_iconst xj_328 117 1 1 rfl rfl rfl (zc_iadd xj_328 118 rfl rfl (zc_iastore xj_328 119 rfl rfl (zc_iconst xj_328 120 1 1 rfl rfl rfl (zc_istore_n xj_328 121 2 rfl rfl zf_ist_2 (xc_328_7))))))))))))
noncomputable def xb_328_5 : List zF := [zq_ildg zG5, zq_k 3, zq_ic_ge 127, zq_aldg zG0, zq_getfg 9 zG8, zq_ildg zG4, zq_ild_ 0, zq_ildg zG3, zq_ic_ne 127, zq_aldg zG0, zq_ildg zG4, zq_ildg zG5, zq_calli 288 2 9 3, zq_if_ne 121, zq_aldg zG0, zq_getfg 9 zG8, zq_aldg zG0, zq_ildg zG4, zq_ildg zG5, zq_calli 266 2 9 3, zq_ild_ 0, zq_k 4294967295, zq_ic_eq 103, zq_goto 121]
noncomputable def xf_328_5 : zE → zKn := fun E => zq_ildg zG5 (zq_k 3 (zq_ic_ge 127 (zq_aldg zG0 (zq_getfg 9 zG8 (zq_ildg zG4 (zq_ild_ 0 (zq_ildg zG3 (zq_ic_ne 127 (zq_aldg zG0 (zq_ildg zG4 (zq_ildg zG5 (zq_calli 288 2 9 3 (zq_if_ne 121 (zq_aldg zG0 (zq_getfg 9 zG8 (zq_aldg zG0 (zq_ildg zG4 (zq_ildg zG5 (zq_calli 266 2 9 3 (zq_ild_ 0 (zq_k 4294967295 (zq_ic_eq 103 (zq_goto 121 (zNil) E) E) E) E) E) E) E) E) E) E) E) E) E) E) E) E) E) E) E) E) E) E) E) E
theorem xe_328_5 : xf_328_5 = zEx xb_328_5 := by
  unfold xf_328_5 xb_328_5
  rfl
theorem xc_328_5 : zCd 328 [0, 2, 23, 34, 43, 55, 103, 121, 127, 133, 139] 55 xb_328_5 := zc_iload xj_328 57 5 rfl rfl zf_ild_5 (zc_iconst xj_328 58 3 3 rfl rfl rfl (zc_ic_ge xj_328 61 69 127 rfl rfl rfl (zc_aload_n xj_328 62 0 rfl rfl zf_ald_0 (zc_getf xj_328 65 33 9 8 102 rfl rfl (zf_getf_8 _) (zc_iload xj_328 67 4 rfl rfl zf_ild_4 (zc_iaload xj_328 68 rfl rfl (zc_iload_n xj_328 69 3 rfl rfl zf_ild_3 (zc_ic_ne xj_328 72 58 127 rfl rfl rfl (zc_aload_n xj_328 73 0 rfl rfl zf_ald_0 (zc_iload xj_328 75 4 rfl rfl zf_ild_4 (zc_iload xj_328 77 5 rfl rfl zf_ild_5 (zc_invokevirtual1 xj_328 80 299 288 2 329 9 3 rfl rfl rfl rfl (zc_if_ne xj_328 83 41 121 rfl rfl rfl (zc_aload_n xj_328 84 0 rfl rfl zf_ald_0 (zc_getf xj_328 87 33 9 8 102 rfl rfl (zf_getf_8 _) (zc_aload_n xj_328 88 0 rfl rfl zf_ald_0 (zc_iload xj_328 90 4 rfl rfl zf_ild_4 (zc_iload xj_328 92 5 rfl rfl zf_ild_5 (zc_invokevirtual1 xj_328 95 272 266 2 330 9 3 rfl rfl rfl rfl (zc_iaload xj_328 96 rfl rfl (zc_iconst xj_328 97 (-1) 4294967295 rfl rfl rfl (zc_ic_eq xj_328 100 6 103 rfl rfl rfl (zc_goto xj_328 101 21 121 rfl rfl rfl (trivial))))))))))))))))))))))))
noncomputable def xb_328_4 : List zF := zq_ildg zG4 :: zq_aldg zG0 :: zq_getfg 9 zG4 :: zq_ic_ge 133 :: zq_k 0 :: zq_istg zE5 :: xb_328_5
noncomputable def xf_328_4 : zE → zKn := fun E => zq_ildg zG4 (zq_aldg zG0 (zq_getfg 9 zG4 (zq_ic_ge 133 (zq_k 0 (zq_istg zE5 (xf_328_5 E) E) E) E) E) E) E
theorem xe_328_4 : xf_328_4 = zEx xb_328_4 := by
  unfold xf_328_4 xb_328_4
  rw [xe_328_5]
  rfl
theorem xc_328_4 : zCd 328 [0, 2, 23, 34, 43, 55, 103, 121, 127, 133, 139] 43 xb_328_4 := zc_iload xj_328 45 4 rfl rfl zf_ild_4 (zc_aload_n xj_328 46 0 rfl rfl zf_ald_0 (zc_getf xj_328 49 134 9 4 98 rfl rfl (zf_getf_4 _) (zc_ic_ge xj_328 52 84 133 rfl rfl rfl (zc_iconst xj_328 53 0 0 rfl rfl rfl (zc_istore xj_328 55 5 rfl rfl zf_ist_5 (xc_328_5))))))
noncomputable def xb_328_3 : List zF := zq_ildg zG2 :: zq_if_eq 139 :: zq_k 0 :: zq_istg zE2 :: zq_k 0 :: zq_istg zE4 :: xb_328_4
noncomputable def xf_328_3 : zE → zKn := fun E => zq_ildg zG2 (zq_if_eq 139 (zq_k 0 (zq_istg zE2 (zq_k 0 (zq_istg zE4 (xf_328_4 E) E) E) E) E) E) E
theorem xe_328_3 : xf_328_3 = zEx xb_328_3 := by
  unfold xf_328_3 xb_328_3
  rw [xe_328_4]
  rfl
theorem xc_328_3 : zCd 328 [0, 2, 23, 34, 43, 55, 103, 121, 127, 133, 139] 34 xb_328_3 := zc_iload_n xj_328 35 2 rfl rfl zf_ild_2 (zc_if_eq xj_328 38 104 139 rfl rfl rfl (zc_iconst xj_328 39 0 0 rfl rfl rfl (zc_istore_n xj_328 40 2 rfl rfl zf_ist_2 (zc_iconst xj_328 41 0 0 rfl rfl rfl (zc_istore xj_328 43 4 rfl rfl zf_ist_4 (xc_328_4))))))
noncomputable def xb_328_2 : List zF := zq_aldg zG0 :: zq_getfg 9 zG8 :: zq_ildg zG1 :: zq_k 0 :: zq_iast :: zq_k 1 :: zq_istg zE2 :: zq_k 0 :: zq_istg zE3 :: xb_328_3
noncomputable def xf_328_2 : zE → zKn := fun E => zq_aldg zG0 (zq_getfg 9 zG8 (zq_ildg zG1 (zq_k 0 (zq_iast (zq_k 1 (zq_istg zE2 (zq_k 0 (zq_istg zE3 (xf_328_3 E) E) E) E) E) E) E) E) E) E
theorem xe_328_2 : xf_328_2 = zEx xb_328_2 := by
  unfold xf_328_2 xb_328_2
  rw [xe_328_3]
  rfl
theorem xc_328_2 : zCd 328 [0, 2, 23, 34, 43, 55, 103, 121, 127, 133, 139] 23 xb_328_2 := zc_aload_n xj_328 24 0 rfl rfl zf_ald_0 (zc_getf xj_328 27 33 9 8 102 rfl rfl (zf_getf_8 _) (zc_iload_n xj_328 28 1 rfl rfl zf_ild_1 (zc_iconst xj_328 29 0 0 rfl rfl rfl (zc_iastore xj_328 30 rfl rfl (zc_iconst xj_328 31 1 1 rfl rfl rfl (zc_istore_n xj_328 32 2 rfl rfl zf_ist_2 (zc_iconst xj_328 33 0 0 rfl rfl rfl (zc_istore_n xj_328 34 3 rfl rfl zf_ist_3 (xc_328_3)))))))))
noncomputable def xb_328_1 : List zF := [zq_ildg zG2, zq_aldg zG0, zq_getfg 9 zG4, zq_ic_ge 23, zq_aldg zG0, zq_getfg 9 zG8, zq_ildg zG2, zq_k 4294967295, zq_iast, zq_incg zG2 zE2 1, zq_goto 2]
noncomputable def xf_328_1 : zE → zKn := fun E => zq_ildg zG2 (zq_aldg zG0 (zq_getfg 9 zG4 (zq_ic_ge 23 (zq_aldg zG0 (zq_getfg 9 zG8 (zq_ildg zG2 (zq_k 4294967295 (zq_iast (zq_incg zG2 zE2 1 (zq_goto 2 (zNil) E) E) E) E) E) E) E) E) E) E) E
theorem xe_328_1 : xf_328_1 = zEx xb_328_1 := by
  unfold xf_328_1 xb_328_1
  rfl
theorem xc_328_1 : zCd 328 [0, 2, 23, 34, 43, 55, 103, 121, 127, 133, 139] 2 xb_328_1 := zc_iload_n xj_328 3 2 rfl rfl zf_ild_2 (zc_aload_n xj_328 4 0 rfl rfl zf_ald_0 (zc_getf xj_328 7 134 9 4 98 rfl rfl (zf_getf_4 _) (zc_ic_ge xj_328 10 16 23 rfl rfl rfl (zc_aload_n xj_328 11 0 rfl rfl zf_ald_0 (zc_getf xj_328 14 33 9 8 102 rfl rfl (zf_getf_8 _) (zc_iload_n xj_328 15 2 rfl rfl zf_ild_2 (zc_iconst xj_328 16 (-1) 4294967295 rfl rfl rfl (zc_iastore xj_328 17 rfl rfl (zc_iinc xj_328 20 2 1 1 rfl rfl rfl (zf_inc_2 _) (zc_goto xj_328 21 (-18) 2 rfl rfl rfl (trivial)))))))))))
noncomputable def xb_328_0 : List zF := zq_k 0 :: zq_istg zE2 :: xb_328_1
noncomputable def xf_328_0 : zE → zKn := fun E => zq_k 0 (zq_istg zE2 (xf_328_1 E) E) E
theorem xe_328_0 : xf_328_0 = zEx xb_328_0 := by
  unfold xf_328_0 xb_328_0
  rw [xe_328_1]
  rfl
theorem xc_328_0 : zCd 328 [0, 2, 23, 34, 43, 55, 103, 121, 127, 133, 139] 0 xb_328_0 := zc_iconst xj_328 1 0 0 rfl rfl rfl (zc_istore_n xj_328 2 2 rfl rfl zf_ist_2 (xc_328_1))
noncomputable def xm_328 : Lean.RArray (zE → zKn) := .branch 55 (.branch 23 (.branch 2 (.leaf xf_328_0) (.leaf xf_328_1)) (.branch 34 (.leaf xf_328_2) (.branch 43 (.leaf xf_328_3) (.leaf xf_328_4)))) (.branch 127 (.branch 103 (.leaf xf_328_5) (.branch 121 (.leaf xf_328_6) (.leaf xf_328_7))) (.branch 133 (.leaf xf_328_8) (.branch 139 (.leaf xf_328_9) (.leaf xf_328_10))))
theorem xa_328 : zCdAll 328 [0, 2, 23, 34, 43, 55, 103, 121, 127, 133, 139] xm_328 := zAll2_ok (P := fun t => ∃ c, zCd 328 [0, 2, 23, 34, 43, 55, 103, 121, 127, 133, 139] t c ∧ xm_328.get t = zEx c) ⟨⟨_, xc_328_0, xe_328_0⟩, ⟨_, xc_328_1, xe_328_1⟩, ⟨_, xc_328_2, xe_328_2⟩, ⟨_, xc_328_3, xe_328_3⟩, ⟨_, xc_328_4, xe_328_4⟩, ⟨_, xc_328_5, xe_328_5⟩, ⟨_, xc_328_6, xe_328_6⟩, ⟨_, xc_328_7, xe_328_7⟩, ⟨_, xc_328_8, xe_328_8⟩, ⟨_, xc_328_9, xe_328_9⟩, ⟨_, xc_328_10, xe_328_10⟩, trivial⟩
/-- SquareMeshModel.nearerOf -/
theorem xj_329 : ∀ pc, pI 329 pc = pJ_329 pc := fun _ => rfl
noncomputable def xb_329_4 : List zF := [zq_ildg zG2, zq_iret 0]
noncomputable def xf_329_4 : zE → zKn := fun E => zq_ildg zG2 (zq_iret 0 (zNil) E) E
theorem xe_329_4 : xf_329_4 = zEx xb_329_4 := by
  unfold xf_329_4 xb_329_4
  rfl
theorem xc_329_4 : zCd 329 [0, 4, 55, 58, 64] 64 xb_329_4 := zc_iload_n xj_329 65 2 rfl rfl zf_ild_2 (zc_ireturn0 xj_329 66 rfl rfl (trivial))
noncomputable def xb_329_3 : List zF := [zq_incg zG3 zE3 1, zq_goto 4]
noncomputable def xf_329_3 : zE → zKn := fun E => zq_incg zG3 zE3 1 (zq_goto 4 (zNil) E) E
theorem xe_329_3 : xf_329_3 = zEx xb_329_3 := by
  unfold xf_329_3 xb_329_3
  rfl
theorem xc_329_3 : zCd 329 [0, 4, 55, 58, 64] 58 xb_329_3 := zc_iinc xj_329 61 3 1 1 rfl rfl rfl (zf_inc_3 _) (zc_goto xj_329 62 (-57) 4 rfl rfl rfl (trivial))
noncomputable def xb_329_2 : List zF := zq_ildg zG4 :: zq_istg zE2 :: xb_329_3
noncomputable def xf_329_2 : zE → zKn := fun E => zq_ildg zG4 (zq_istg zE2 (xf_329_3 E) E) E
theorem xe_329_2 : xf_329_2 = zEx xb_329_2 := by
  unfold xf_329_2 xb_329_2
  rw [xe_329_3]
  rfl
theorem xc_329_2 : zCd 329 [0, 4, 55, 58, 64] 55 xb_329_2 := zc_iload xj_329 57 4 rfl rfl zf_ild_4 (zc_istore_n xj_329 58 2 rfl rfl zf_ist_2 (xc_329_3))
noncomputable def xb_329_1 : List zF := zq_ildg zG3 :: zq_k 3 :: zq_ic_ge 64 :: zq_aldg zG0 :: zq_ildg zG1 :: zq_ildg zG3 :: zq_calli 266 2 9 3 :: zq_istg zE4 :: zq_aldg zG0 :: zq_ildg zG1 :: zq_ildg zG3 :: zq_calli 288 2 9 3 :: zq_if_ne 58 :: zq_aldg zG0 :: zq_getfg 9 zG8 :: zq_ildg zG4 :: zq_ild_ 0 :: zq_aldg zG0 :: zq_getfg 9 zG8 :: zq_ildg zG1 :: zq_ild_ 0 :: zq_k 1 :: zq_sub :: zq_ic_ne 58 :: zq_ildg zG2 :: zq_k 4294967295 :: zq_ic_eq 55 :: zq_ildg zG4 :: zq_ildg zG2 :: zq_ic_ge 58 :: xb_329_2
noncomputable def xf_329_1 : zE → zKn := fun E => zq_ildg zG3 (zq_k 3 (zq_ic_ge 64 (zq_aldg zG0 (zq_ildg zG1 (zq_ildg zG3 (zq_calli 266 2 9 3 (zq_istg zE4 (zq_aldg zG0 (zq_ildg zG1 (zq_ildg zG3 (zq_calli 288 2 9 3 (zq_if_ne 58 (zq_aldg zG0 (zq_getfg 9 zG8 (zq_ildg zG4 (zq_ild_ 0 (zq_aldg zG0 (zq_getfg 9 zG8 (zq_ildg zG1 (zq_ild_ 0 (zq_k 1 (zq_sub (zq_ic_ne 58 (zq_ildg zG2 (zq_k 4294967295 (zq_ic_eq 55 (zq_ildg zG4 (zq_ildg zG2 (zq_ic_ge 58 (xf_329_2 E) E) E) E) E) E) E) E) E) E) E) E) E) E) E) E) E) E) E) E) E) E) E) E) E) E) E) E) E) E) E
theorem xe_329_1 : xf_329_1 = zEx xb_329_1 := by
  unfold xf_329_1 xb_329_1
  rw [xe_329_2]
  rfl
theorem xc_329_1 : zCd 329 [0, 4, 55, 58, 64] 4 xb_329_1 := zc_iload_n xj_329 5 3 rfl rfl zf_ild_3 (zc_iconst xj_329 6 3 3 rfl rfl rfl (zc_ic_ge xj_329 9 58 64 rfl rfl rfl (zc_aload_n xj_329 10 0 rfl rfl zf_ald_0 (zc_iload_n xj_329 11 1 rfl rfl zf_ild_1 (zc_iload_n xj_329 12 3 rfl rfl zf_ild_3 (zc_invokevirtual1 xj_329 15 272 266 2 330 9 3 rfl rfl rfl rfl (zc_istore xj_329 17 4 rfl rfl zf_ist_4 (zc_aload_n xj_329 18 0 rfl rfl zf_ald_0 (zc_iload_n xj_329 19 1 rfl rfl zf_ild_1 (zc_iload_n xj_329 20 3 rfl rfl zf_ild_3 (zc_invokevirtual1 xj_329 23 299 288 2 329 9 3 rfl rfl rfl rfl (zc_if_ne xj_329 26 35 58 rfl rfl rfl (zc_aload_n xj_329 27 0 rfl rfl zf_ald_0 (zc_getf xj_329 30 33 9 8 102 rfl rfl (zf_getf_8 _) (zc_iload xj_329 32 4 rfl rfl zf_ild_4 (zc_iaload xj_329 33 rfl rfl (zc_aload_n xj_329 34 0 rfl rfl zf_ald_0 (zc_getf xj_329 37 33 9 8 102 rfl rfl (zf_getf_8 _) (zc_iload_n xj_329 38 1 rfl rfl zf_ild_1 (zc_iaload xj_329 39 rfl rfl (zc_iconst xj_329 40 1 1 rfl rfl rfl (zc_isub xj_329 41 rfl rfl (zc_ic_ne xj_329 44 17 58 rfl rfl rfl (zc_iload_n xj_329 45 2 rfl rfl zf_ild_2 (zc_iconst xj_329 46 (-1) 4294967295 rfl rfl rfl (zc_ic_eq xj_329 49 9 55 rfl rfl rfl (zc_iload xj_329 51 4 rfl rfl zf_ild_4 (zc_iload_n xj_329 52 2 rfl rfl zf_ild_2 (zc_ic_ge xj_329 55 6 58 rfl rfl rfl (xc_329_2))))))))))))))))))))))))))))))
noncomputable def xb_329_0 : List zF := zq_k 4294967295 :: zq_istg zE2 :: zq_k 0 :: zq_istg zE3 :: xb_329_1
noncomputable def xf_329_0 : zE → zKn := fun E => zq_k 4294967295 (zq_istg zE2 (zq_k 0 (zq_istg zE3 (xf_329_1 E) E) E) E) E
theorem xe_329_0 : xf_329_0 = zEx xb_329_0 := by
  unfold xf_329_0 xb_329_0
  rw [xe_329_1]
  rfl
theorem xc_329_0 : zCd 329 [0, 4, 55, 58, 64] 0 xb_329_0 := zc_iconst xj_329 1 (-1) 4294967295 rfl rfl rfl (zc_istore_n xj_329 2 2 rfl rfl zf_ist_2 (zc_iconst xj_329 3 0 0 rfl rfl rfl (zc_istore_n xj_329 4 3 rfl rfl zf_ist_3 (xc_329_1))))
noncomputable def xm_329 : Lean.RArray (zE → zKn) := .branch 55 (.branch 4 (.leaf xf_329_0) (.leaf xf_329_1)) (.branch 58 (.leaf xf_329_2) (.branch 64 (.leaf xf_329_3) (.leaf xf_329_4)))
theorem xa_329 : zCdAll 329 [0, 4, 55, 58, 64] xm_329 := zAll2_ok (P := fun t => ∃ c, zCd 329 [0, 4, 55, 58, 64] t c ∧ xm_329.get t = zEx c) ⟨⟨_, xc_329_0, xe_329_0⟩, ⟨_, xc_329_1, xe_329_1⟩, ⟨_, xc_329_2, xe_329_2⟩, ⟨_, xc_329_3, xe_329_3⟩, ⟨_, xc_329_4, xe_329_4⟩, trivial⟩
/-- SquareMeshModel.passage -/
theorem xj_330 : ∀ pc, pI 330 pc = pJ_330 pc := fun _ => rfl
noncomputable def xb_330_7 : List zF := [zq_ildg zG6, zq_iret 0]
noncomputable def xf_330_7 : zE → zKn := fun E => zq_ildg zG6 (zq_iret 0 (zNil) E) E
theorem xe_330_7 : xf_330_7 = zEx xb_330_7 := by
  unfold xf_330_7 xb_330_7
  rfl
theorem xc_330_7 : zCd 330 [0, 17, 19, 55, 63, 81, 84, 105] 105 xb_330_7 := zc_iload xj_330 107 6 rfl rfl zf_ild_6 (zc_ireturn0 xj_330 108 rfl rfl (trivial))
noncomputable def xb_330_6 : List zF := [zq_ildg zG7, zq_ildg zG5, zq_ic_ge 105, zq_aldg zG0, zq_ildg zG6, zq_calli 329 1 9 5, zq_istg zE6, zq_incg zG7 zE7 1, zq_goto 84]
noncomputable def xf_330_6 : zE → zKn := fun E => zq_ildg zG7 (zq_ildg zG5 (zq_ic_ge 105 (zq_aldg zG0 (zq_ildg zG6 (zq_calli 329 1 9 5 (zq_istg zE6 (zq_incg zG7 zE7 1 (zq_goto 84 (zNil) E) E) E) E) E) E) E) E) E
theorem xe_330_6 : xf_330_6 = zEx xb_330_6 := by
  unfold xf_330_6 xb_330_6
  rfl
theorem xc_330_6 : zCd 330 [0, 17, 19, 55, 63, 81, 84, 105] 84 xb_330_6 := zc_iload xj_330 86 7 rfl rfl zf_ild_7 (zc_iload xj_330 88 5 rfl rfl zf_ild_5 (zc_ic_ge xj_330 91 17 105 rfl rfl rfl (zc_aload_n xj_330 92 0 rfl rfl zf_ald_0 (zc_iload xj_330 94 6 rfl rfl zf_ild_6 (zc_invokevirtual1 xj_330 97 357 329 1 396 9 5 rfl rfl rfl rfl (zc_istore xj_330 99 6 rfl rfl zf_ist_6 (zc_iinc xj_330 102 7 1 1 rfl rfl rfl (zf_inc_7 _) (zc_goto xj_330 103 (-18) 84 rfl rfl rfl (trivial)))))))))
noncomputable def xb_330_5 : List zF := zq_k 0 :: zq_istg zE7 :: xb_330_6
noncomputable def xf_330_5 : zE → zKn := fun E => zq_k 0 (zq_istg zE7 (xf_330_6 E) E) E
theorem xe_330_5 : xf_330_5 = zEx xb_330_5 := by
  unfold xf_330_5 xb_330_5
  rw [xe_330_6]
  rfl
theorem xc_330_5 : zCd 330 [0, 17, 19, 55, 63, 81, 84, 105] 81 xb_330_5 := zc_iconst xj_330 82 0 0 rfl rfl rfl (zc_istore xj_330 84 7 rfl rfl zf_ist_7 (xc_330_6))
noncomputable def xb_330_4 : List zF := [zq_ildg zG5, zq_k 0, zq_aldg zG0, zq_getfg 9 zG8, zq_ildg zG6, zq_ild_ 0, zq_calls 188 3 3, zq_if_ne 81, zq_k 4294967295, zq_iret 0]
noncomputable def xf_330_4 : zE → zKn := fun E => zq_ildg zG5 (zq_k 0 (zq_aldg zG0 (zq_getfg 9 zG8 (zq_ildg zG6 (zq_ild_ 0 (zq_calls 188 3 3 (zq_if_ne 81 (zq_k 4294967295 (zq_iret 0 (zNil) E) E) E) E) E) E) E) E) E) E
theorem xe_330_4 : xf_330_4 = zEx xb_330_4 := by
  unfold xf_330_4 xb_330_4
  rfl
theorem xc_330_4 : zCd 330 [0, 17, 19, 55, 63, 81, 84, 105] 63 xb_330_4 := zc_iload xj_330 65 5 rfl rfl zf_ild_5 (zc_iconst xj_330 66 0 0 rfl rfl rfl (zc_aload_n xj_330 67 0 rfl rfl zf_ald_0 (zc_getf xj_330 70 33 9 8 102 rfl rfl (zf_getf_8 _) (zc_iload xj_330 72 6 rfl rfl zf_ild_6 (zc_iaload xj_330 73 rfl rfl (zc_invokestatic2 xj_330 76 67 188 3 265 0 3 rfl rfl rfl rfl (zc_if_ne xj_330 79 5 81 rfl rfl rfl (zc_iconst xj_330 80 (-1) 4294967295 rfl rfl rfl (zc_ireturn0 xj_330 81 rfl rfl (trivial))))))))))
noncomputable def xb_330_3 : List zF := [zq_aldg zG0, zq_getfg 9 zG8, zq_ildg zG6, zq_ild_ 0, zq_iret 0]
noncomputable def xf_330_3 : zE → zKn := fun E => zq_aldg zG0 (zq_getfg 9 zG8 (zq_ildg zG6 (zq_ild_ 0 (zq_iret 0 (zNil) E) E) E) E) E
theorem xe_330_3 : xf_330_3 = zEx xb_330_3 := by
  unfold xf_330_3 xb_330_3
  rfl
theorem xc_330_3 : zCd 330 [0, 17, 19, 55, 63, 81, 84, 105] 55 xb_330_3 := zc_aload_n xj_330 56 0 rfl rfl zf_ald_0 (zc_getf xj_330 59 33 9 8 102 rfl rfl (zf_getf_8 _) (zc_iload xj_330 61 6 rfl rfl zf_ild_6 (zc_iaload xj_330 62 rfl rfl (zc_ireturn0 xj_330 63 rfl rfl (trivial)))))
noncomputable def xb_330_2 : List zF := zq_aldg zG0 :: zq_aldg zG0 :: zq_ildg zG3 :: zq_ildg zG4 :: zq_calli 274 2 9 4 :: zq_calli 328 1 9 6 :: zq_aldg zG0 :: zq_ildg zG1 :: zq_ildg zG2 :: zq_calli 274 2 9 4 :: zq_istg zE6 :: zq_ildg zG5 :: zq_k 4294967295 :: zq_ic_eq 55 :: zq_aldg zG0 :: zq_getfg 9 zG8 :: zq_ildg zG6 :: zq_ild_ 0 :: zq_k 4294967295 :: zq_ic_ne 63 :: xb_330_3
noncomputable def xf_330_2 : zE → zKn := fun E => zq_aldg zG0 (zq_aldg zG0 (zq_ildg zG3 (zq_ildg zG4 (zq_calli 274 2 9 4 (zq_calli 328 1 9 6 (zq_aldg zG0 (zq_ildg zG1 (zq_ildg zG2 (zq_calli 274 2 9 4 (zq_istg zE6 (zq_ildg zG5 (zq_k 4294967295 (zq_ic_eq 55 (zq_aldg zG0 (zq_getfg 9 zG8 (zq_ildg zG6 (zq_ild_ 0 (zq_k 4294967295 (zq_ic_ne 63 (xf_330_3 E) E) E) E) E) E) E) E) E) E) E) E) E) E) E) E) E) E) E) E) E
theorem xe_330_2 : xf_330_2 = zEx xb_330_2 := by
  unfold xf_330_2 xb_330_2
  rw [xe_330_3]
  rfl
theorem xc_330_2 : zCd 330 [0, 17, 19, 55, 63, 81, 84, 105] 19 xb_330_2 := zc_aload_n xj_330 20 0 rfl rfl zf_ald_0 (zc_aload_n xj_330 21 0 rfl rfl zf_ald_0 (zc_iload_n xj_330 22 3 rfl rfl zf_ild_3 (zc_iload xj_330 24 4 rfl rfl zf_ild_4 (zc_invokevirtual1 xj_330 27 281 274 2 336 9 4 rfl rfl rfl rfl (zc_invokevirtual1 xj_330 30 354 328 1 395 9 6 rfl rfl rfl rfl (zc_aload_n xj_330 31 0 rfl rfl zf_ald_0 (zc_iload_n xj_330 32 1 rfl rfl zf_ild_1 (zc_iload_n xj_330 33 2 rfl rfl zf_ild_2 (zc_invokevirtual1 xj_330 36 281 274 2 336 9 4 rfl rfl rfl rfl (zc_istore xj_330 38 6 rfl rfl zf_ist_6 (zc_iload xj_330 40 5 rfl rfl zf_ild_5 (zc_iconst xj_330 41 (-1) 4294967295 rfl rfl rfl (zc_ic_eq xj_330 44 14 55 rfl rfl rfl (zc_aload_n xj_330 45 0 rfl rfl zf_ald_0 (zc_getf xj_330 48 33 9 8 102 rfl rfl (zf_getf_8 _) (zc_iload xj_330 50 6 rfl rfl zf_ild_6 (zc_iaload xj_330 51 rfl rfl (zc_iconst xj_330 52 (-1) 4294967295 rfl rfl rfl (zc_ic_ne xj_330 55 11 63 rfl rfl rfl (xc_330_3))))))))))))))))))))
noncomputable def xb_330_1 : List zF := [zq_k 4294967295, zq_iret 0]
noncomputable def xf_330_1 : zE → zKn := fun E => zq_k 4294967295 (zq_iret 0 (zNil) E) E
theorem xe_330_1 : xf_330_1 = zEx xb_330_1 := by
  unfold xf_330_1 xb_330_1
  rfl
theorem xc_330_1 : zCd 330 [0, 17, 19, 55, 63, 81, 84, 105] 17 xb_330_1 := zc_iconst xj_330 18 (-1) 4294967295 rfl rfl rfl (zc_ireturn0 xj_330 19 rfl rfl (trivial))
noncomputable def xb_330_0 : List zF := zq_ildg zG1 :: zq_ildg zG2 :: zq_calls 189 2 2 :: zq_if_eq 17 :: zq_ildg zG3 :: zq_ildg zG4 :: zq_calls 189 2 2 :: zq_if_ne 19 :: xb_330_1
noncomputable def xf_330_0 : zE → zKn := fun E => zq_ildg zG1 (zq_ildg zG2 (zq_calls 189 2 2 (zq_if_eq 17 (zq_ildg zG3 (zq_ildg zG4 (zq_calls 189 2 2 (zq_if_ne 19 (xf_330_1 E) E) E) E) E) E) E) E) E
theorem xe_330_0 : xf_330_0 = zEx xb_330_0 := by
  unfold xf_330_0 xb_330_0
  rw [xe_330_1]
  rfl
theorem xc_330_0 : zCd 330 [0, 17, 19, 55, 63, 81, 84, 105] 0 xb_330_0 := zc_iload_n xj_330 1 1 rfl rfl zf_ild_1 (zc_iload_n xj_330 2 2 rfl rfl zf_ild_2 (zc_invokestatic2 xj_330 5 159 189 2 284 0 2 rfl rfl rfl rfl (zc_if_eq xj_330 8 12 17 rfl rfl rfl (zc_iload_n xj_330 9 3 rfl rfl zf_ild_3 (zc_iload xj_330 11 4 rfl rfl zf_ild_4 (zc_invokestatic2 xj_330 14 159 189 2 284 0 2 rfl rfl rfl rfl (zc_if_ne xj_330 17 5 19 rfl rfl rfl (xc_330_1))))))))
noncomputable def xm_330 : Lean.RArray (zE → zKn) := .branch 63 (.branch 19 (.branch 17 (.leaf xf_330_0) (.leaf xf_330_1)) (.branch 55 (.leaf xf_330_2) (.leaf xf_330_3))) (.branch 84 (.branch 81 (.leaf xf_330_4) (.leaf xf_330_5)) (.branch 105 (.leaf xf_330_6) (.leaf xf_330_7)))
theorem xa_330 : zCdAll 330 [0, 17, 19, 55, 63, 81, 84, 105] xm_330 := zAll2_ok (P := fun t => ∃ c, zCd 330 [0, 17, 19, 55, 63, 81, 84, 105] t c ∧ xm_330.get t = zEx c) ⟨⟨_, xc_330_0, xe_330_0⟩, ⟨_, xc_330_1, xe_330_1⟩, ⟨_, xc_330_2, xe_330_2⟩, ⟨_, xc_330_3, xe_330_3⟩, ⟨_, xc_330_4, xe_330_4⟩, ⟨_, xc_330_5, xe_330_5⟩, ⟨_, xc_330_6, xe_330_6⟩, ⟨_, xc_330_7, xe_330_7⟩, trivial⟩
/-- SquareMeshModel.hullNext -/
theorem xj_331 : ∀ pc, pI 331 pc = pJ_331 pc := fun _ => rfl
noncomputable def xb_331_7 : List zF := [zq_ildg zG2, zq_iret 0]
noncomputable def xf_331_7 : zE → zKn := fun E => zq_ildg zG2 (zq_iret 0 (zNil) E) E
theorem xe_331_7 : xf_331_7 = zEx xb_331_7 := by
  unfold xf_331_7 xb_331_7
  rfl
theorem xc_331_7 : zCd 331 [0, 4, 26, 35, 42, 69, 71, 77] 77 xb_331_7 := zc_iload_n xj_331 78 2 rfl rfl zf_ild_2 (zc_ireturn0 xj_331 79 rfl rfl (trivial))
noncomputable def xb_331_6 : List zF := [zq_incg zG3 zE3 1, zq_goto 4]
noncomputable def xf_331_6 : zE → zKn := fun E => zq_incg zG3 zE3 1 (zq_goto 4 (zNil) E) E
theorem xe_331_6 : xf_331_6 = zEx xb_331_6 := by
  unfold xf_331_6 xb_331_6
  rfl
theorem xc_331_6 : zCd 331 [0, 4, 26, 35, 42, 69, 71, 77] 71 xb_331_6 := zc_iinc xj_331 74 3 1 1 rfl rfl rfl (zf_inc_3 _) (zc_goto xj_331 75 (-70) 4 rfl rfl rfl (trivial))
noncomputable def xb_331_5 : List zF := zq_ildg zG3 :: zq_istg zE2 :: xb_331_6
noncomputable def xf_331_5 : zE → zKn := fun E => zq_ildg zG3 (zq_istg zE2 (xf_331_6 E) E) E
theorem xe_331_5 : xf_331_5 = zEx xb_331_5 := by
  unfold xf_331_5 xb_331_5
  rw [xe_331_6]
  rfl
theorem xc_331_5 : zCd 331 [0, 4, 26, 35, 42, 69, 71, 77] 69 xb_331_5 := zc_iload_n xj_331 70 3 rfl rfl zf_ild_3 (zc_istore_n xj_331 71 2 rfl rfl zf_ist_2 (xc_331_6))
noncomputable def xb_331_4 : List zF := zq_istg zE4 :: zq_ildg zG4 :: zq_if_lt 69 :: zq_ildg zG4 :: zq_if_ne 71 :: zq_aldg zG0 :: zq_ildg zG1 :: zq_ildg zG3 :: zq_calli 204 2 9 3 :: zq_aldg zG0 :: zq_ildg zG1 :: zq_ildg zG2 :: zq_calli 204 2 9 3 :: zq_ic_le 71 :: xb_331_5
noncomputable def xf_331_4 : zE → zKn := fun E => zq_istg zE4 (zq_ildg zG4 (zq_if_lt 69 (zq_ildg zG4 (zq_if_ne 71 (zq_aldg zG0 (zq_ildg zG1 (zq_ildg zG3 (zq_calli 204 2 9 3 (zq_aldg zG0 (zq_ildg zG1 (zq_ildg zG2 (zq_calli 204 2 9 3 (zq_ic_le 71 (xf_331_5 E) E) E) E) E) E) E) E) E) E) E) E) E) E) E
theorem xe_331_4 : xf_331_4 = zEx xb_331_4 := by
  unfold xf_331_4 xb_331_4
  rw [xe_331_5]
  rfl
theorem xc_331_4 : zCd 331 [0, 4, 26, 35, 42, 69, 71, 77] 42 xb_331_4 := zc_istore xj_331 44 4 rfl rfl zf_ist_4 (zc_iload xj_331 46 4 rfl rfl zf_ild_4 (zc_if_lt xj_331 49 23 69 rfl rfl rfl (zc_iload xj_331 51 4 rfl rfl zf_ild_4 (zc_if_ne xj_331 54 20 71 rfl rfl rfl (zc_aload_n xj_331 55 0 rfl rfl zf_ald_0 (zc_iload_n xj_331 56 1 rfl rfl zf_ild_1 (zc_iload_n xj_331 57 3 rfl rfl zf_ild_3 (zc_invokevirtual1 xj_331 60 86 204 2 270 9 3 rfl rfl rfl rfl (zc_aload_n xj_331 61 0 rfl rfl zf_ald_0 (zc_iload_n xj_331 62 1 rfl rfl zf_ild_1 (zc_iload_n xj_331 63 2 rfl rfl zf_ild_2 (zc_invokevirtual1 xj_331 66 86 204 2 270 9 3 rfl rfl rfl rfl (zc_ic_le xj_331 69 5 71 rfl rfl rfl (xc_331_5))))))))))))))
noncomputable def xb_331_3 : List zF := zq_aldg zG0 :: zq_ildg zG1 :: zq_ildg zG2 :: zq_ildg zG3 :: zq_calli 202 3 9 4 :: xb_331_4
noncomputable def xf_331_3 : zE → zKn := fun E => zq_aldg zG0 (zq_ildg zG1 (zq_ildg zG2 (zq_ildg zG3 (zq_calli 202 3 9 4 (xf_331_4 E) E) E) E) E) E
theorem xe_331_3 : xf_331_3 = zEx xb_331_3 := by
  unfold xf_331_3 xb_331_3
  rw [xe_331_4]
  rfl
theorem xc_331_3 : zCd 331 [0, 4, 26, 35, 42, 69, 71, 77] 35 xb_331_3 := zc_aload_n xj_331 36 0 rfl rfl zf_ald_0 (zc_iload_n xj_331 37 1 rfl rfl zf_ild_1 (zc_iload_n xj_331 38 2 rfl rfl zf_ild_2 (zc_iload_n xj_331 39 3 rfl rfl zf_ild_3 (zc_invokevirtual1 xj_331 42 90 202 3 266 9 4 rfl rfl rfl rfl (xc_331_4)))))
noncomputable def xb_331_2 : List zF := [zq_ildg zG2, zq_k 4294967295, zq_ic_ne 35, zq_k 4294967295, zq_goto 42]
noncomputable def xf_331_2 : zE → zKn := fun E => zq_ildg zG2 (zq_k 4294967295 (zq_ic_ne 35 (zq_k 4294967295 (zq_goto 42 (zNil) E) E) E) E) E
theorem xe_331_2 : xf_331_2 = zEx xb_331_2 := by
  unfold xf_331_2 xb_331_2
  rfl
theorem xc_331_2 : zCd 331 [0, 4, 26, 35, 42, 69, 71, 77] 26 xb_331_2 := zc_iload_n xj_331 27 2 rfl rfl zf_ild_2 (zc_iconst xj_331 28 (-1) 4294967295 rfl rfl rfl (zc_ic_ne xj_331 31 7 35 rfl rfl rfl (zc_iconst xj_331 32 (-1) 4294967295 rfl rfl rfl (zc_goto xj_331 33 10 42 rfl rfl rfl (trivial)))))
noncomputable def xb_331_1 : List zF := [zq_ildg zG3, zq_k 40, zq_ic_ge 77, zq_aldg zG0, zq_ildg zG3, zN1 191 2 zg_191, zq_if_eq 71, zq_ildg zG3, zq_ildg zG1, zq_ic_ne 26, zq_goto 71]
noncomputable def xf_331_1 : zE → zKn := fun E => zq_ildg zG3 (zq_k 40 (zq_ic_ge 77 (zq_aldg zG0 (zq_ildg zG3 (zN1 191 2 zg_191 (zq_if_eq 71 (zq_ildg zG3 (zq_ildg zG1 (zq_ic_ne 26 (zq_goto 71 (zNil) E) E) E) E) E) E) E) E) E) E) E
theorem xe_331_1 : xf_331_1 = zEx xb_331_1 := by
  unfold xf_331_1 xb_331_1
  rfl
theorem xc_331_1 : zCd 331 [0, 4, 26, 35, 42, 69, 71, 77] 4 xb_331_1 := zc_iload_n xj_331 5 3 rfl rfl zf_ild_3 (zc_bipush xj_331 7 40 40 rfl rfl rfl (zc_ic_ge xj_331 10 70 77 rfl rfl rfl (zc_aload_n xj_331 11 0 rfl rfl zf_ald_0 (zc_iload_n xj_331 12 3 rfl rfl zf_ild_3 (zc_any xj_331 15 (.invokevirtual 71) [1, 191, 1, 264, 9, 2] rfl rfl (zN1 191 2 zg_191) rfl rfl (zc_if_eq xj_331 18 56 71 rfl rfl rfl (zc_iload_n xj_331 19 3 rfl rfl zf_ild_3 (zc_iload_n xj_331 20 1 rfl rfl zf_ild_1 (zc_ic_ne xj_331 23 6 26 rfl rfl rfl (zc_goto xj_331 24 48 71 rfl rfl rfl (trivial)))))))))))
noncomputable def xb_331_0 : List zF := zq_k 4294967295 :: zq_istg zE2 :: zq_k 4 :: zq_istg zE3 :: xb_331_1
noncomputable def xf_331_0 : zE → zKn := fun E => zq_k 4294967295 (zq_istg zE2 (zq_k 4 (zq_istg zE3 (xf_331_1 E) E) E) E) E
theorem xe_331_0 : xf_331_0 = zEx xb_331_0 := by
  unfold xf_331_0 xb_331_0
  rw [xe_331_1]
  rfl
theorem xc_331_0 : zCd 331 [0, 4, 26, 35, 42, 69, 71, 77] 0 xb_331_0 := zc_iconst xj_331 1 (-1) 4294967295 rfl rfl rfl (zc_istore_n xj_331 2 2 rfl rfl zf_ist_2 (zc_iconst xj_331 3 4 4 rfl rfl rfl (zc_istore_n xj_331 4 3 rfl rfl zf_ist_3 (xc_331_1))))
noncomputable def xm_331 : Lean.RArray (zE → zKn) := .branch 42 (.branch 26 (.branch 4 (.leaf xf_331_0) (.leaf xf_331_1)) (.branch 35 (.leaf xf_331_2) (.leaf xf_331_3))) (.branch 71 (.branch 69 (.leaf xf_331_4) (.leaf xf_331_5)) (.branch 77 (.leaf xf_331_6) (.leaf xf_331_7)))
theorem xa_331 : zCdAll 331 [0, 4, 26, 35, 42, 69, 71, 77] xm_331 := zAll2_ok (P := fun t => ∃ c, zCd 331 [0, 4, 26, 35, 42, 69, 71, 77] t c ∧ xm_331.get t = zEx c) ⟨⟨_, xc_331_0, xe_331_0⟩, ⟨_, xc_331_1, xe_331_1⟩, ⟨_, xc_331_2, xe_331_2⟩, ⟨_, xc_331_3, xe_331_3⟩, ⟨_, xc_331_4, xe_331_4⟩, ⟨_, xc_331_5, xe_331_5⟩, ⟨_, xc_331_6, xe_331_6⟩, ⟨_, xc_331_7, xe_331_7⟩, trivial⟩
/-- SquareMeshModel.hull -/
theorem xj_332 : ∀ pc, pI 332 pc = pJ_332 pc := fun _ => rfl
noncomputable def xb_332_13 : List zF := [zq_iret 0]
noncomputable def xf_332_13 : zE → zKn := fun E => zq_iret 0 (zNil) E
theorem xe_332_13 : xf_332_13 = zEx xb_332_13 := by
  unfold xf_332_13 xb_332_13
  rfl
theorem xc_332_13 : zCd 332 [0, 4, 32, 34, 40, 54, 55, 56, 61, 77, 85, 99, 108, 109] 109 xb_332_13 := zc_ireturn0 xj_332 110 rfl rfl (trivial)
noncomputable def xb_332_12 : List zF := zq_k 4294967295 :: xb_332_13
noncomputable def xf_332_12 : zE → zKn := fun E => zq_k 4294967295 (xf_332_13 E) E
theorem xe_332_12 : xf_332_12 = zEx xb_332_12 := by
  unfold xf_332_12 xb_332_12
  rw [xe_332_13]
  rfl
theorem xc_332_12 : zCd 332 [0, 4, 32, 34, 40, 54, 55, 56, 61, 77, 85, 99, 108, 109] 108 xb_332_12 := zc_iconst xj_332 109 (-1) 4294967295 rfl rfl rfl (xc_332_13)
noncomputable def xb_332_11 : List zF := [zq_ildg zG1, zq_k 4294967295, zq_ic_ne 108, zq_ildg zG3, zq_goto 109]
noncomputable def xf_332_11 : zE → zKn := fun E => zq_ildg zG1 (zq_k 4294967295 (zq_ic_ne 108 (zq_ildg zG3 (zq_goto 109 (zNil) E) E) E) E) E
theorem xe_332_11 : xf_332_11 = zEx xb_332_11 := by
  unfold xf_332_11 xb_332_11
  rfl
theorem xc_332_11 : zCd 332 [0, 4, 32, 34, 40, 54, 55, 56, 61, 77, 85, 99, 108, 109] 99 xb_332_11 := zc_iload_n xj_332 100 1 rfl rfl zf_ild_1 (zc_iconst xj_332 101 (-1) 4294967295 rfl rfl rfl (zc_ic_ne xj_332 104 7 108 rfl rfl rfl (zc_iload_n xj_332 105 3 rfl rfl zf_ild_3 (zc_goto xj_332 106 4 109 rfl rfl rfl (trivial)))))
noncomputable def xb_332_10 : List zF := [zq_incg zG3 zE3 1, zq_aldg zG0, zq_ildg zG4, zq_calli 331 1 9 5, zq_istg zE4, zq_goto 61]
noncomputable def xf_332_10 : zE → zKn := fun E => zq_incg zG3 zE3 1 (zq_aldg zG0 (zq_ildg zG4 (zq_calli 331 1 9 5 (zq_istg zE4 (zq_goto 61 (zNil) E) E) E) E) E) E
theorem xe_332_10 : xf_332_10 = zEx xb_332_10 := by
  unfold xf_332_10 xb_332_10
  rfl
theorem xc_332_10 : zCd 332 [0, 4, 32, 34, 40, 54, 55, 56, 61, 77, 85, 99, 108, 109] 85 xb_332_10 := zc_iinc xj_332 88 3 1 1 rfl rfl rfl (zf_inc_3 _) (zc_aload_n xj_332 89 0 rfl rfl zf_ald_0 (zc_iload xj_332 91 4 rfl rfl zf_ild_4 (zc_invokevirtual1 xj_332 94 360 331 1 398 9 5 rfl rfl rfl rfl (zc_istore xj_332 96 4 rfl rfl zf_ist_4 (zc_goto xj_332 97 (-35) 61 rfl rfl rfl (trivial))))))
noncomputable def xb_332_9 : List zF := [zq_ildg zG3, zq_ildg zG1, zq_ic_ne 85, zq_ildg zG4, zq_iret 0]
noncomputable def xf_332_9 : zE → zKn := fun E => zq_ildg zG3 (zq_ildg zG1 (zq_ic_ne 85 (zq_ildg zG4 (zq_iret 0 (zNil) E) E) E) E) E
theorem xe_332_9 : xf_332_9 = zEx xb_332_9 := by
  unfold xf_332_9 xb_332_9
  rfl
theorem xc_332_9 : zCd 332 [0, 4, 32, 34, 40, 54, 55, 56, 61, 77, 85, 99, 108, 109] 77 xb_332_9 := zc_iload_n xj_332 78 3 rfl rfl zf_ild_3 (zc_iload_n xj_332 79 1 rfl rfl zf_ild_1 (zc_ic_ne xj_332 82 6 85 rfl rfl rfl (zc_iload xj_332 84 4 rfl rfl zf_ild_4 (zc_ireturn0 xj_332 85 rfl rfl (trivial)))))
noncomputable def xb_332_8 : List zF := zq_ildg zG4 :: zq_k 4294967295 :: zq_ic_eq 99 :: zq_ildg zG3 :: zq_if_eq 77 :: zq_ildg zG4 :: zq_ildg zG2 :: zq_ic_eq 99 :: xb_332_9
noncomputable def xf_332_8 : zE → zKn := fun E => zq_ildg zG4 (zq_k 4294967295 (zq_ic_eq 99 (zq_ildg zG3 (zq_if_eq 77 (zq_ildg zG4 (zq_ildg zG2 (zq_ic_eq 99 (xf_332_9 E) E) E) E) E) E) E) E) E
theorem xe_332_8 : xf_332_8 = zEx xb_332_8 := by
  unfold xf_332_8 xb_332_8
  rw [xe_332_9]
  rfl
theorem xc_332_8 : zCd 332 [0, 4, 32, 34, 40, 54, 55, 56, 61, 77, 85, 99, 108, 109] 61 xb_332_8 := zc_iload xj_332 63 4 rfl rfl zf_ild_4 (zc_iconst xj_332 64 (-1) 4294967295 rfl rfl rfl (zc_ic_eq xj_332 67 35 99 rfl rfl rfl (zc_iload_n xj_332 68 3 rfl rfl zf_ild_3 (zc_if_eq xj_332 71 9 77 rfl rfl rfl (zc_iload xj_332 73 4 rfl rfl zf_ild_4 (zc_iload_n xj_332 74 2 rfl rfl zf_ild_2 (zc_ic_eq xj_332 77 25 99 rfl rfl rfl (xc_332_9))))))))
noncomputable def xb_332_7 : List zF := zq_k 0 :: zq_istg zE3 :: zq_ildg zG2 :: zq_istg zE4 :: xb_332_8
noncomputable def xf_332_7 : zE → zKn := fun E => zq_k 0 (zq_istg zE3 (zq_ildg zG2 (zq_istg zE4 (xf_332_8 E) E) E) E) E
theorem xe_332_7 : xf_332_7 = zEx xb_332_7 := by
  unfold xf_332_7 xb_332_7
  rw [xe_332_8]
  rfl
theorem xc_332_7 : zCd 332 [0, 4, 32, 34, 40, 54, 55, 56, 61, 77, 85, 99, 108, 109] 56 xb_332_7 := zc_iconst xj_332 57 0 0 rfl rfl rfl (zc_istore_n xj_332 58 3 rfl rfl zf_ist_3 (zc_iload_n xj_332 59 2 rfl rfl zf_ild_2 (zc_istore xj_332 61 4 rfl rfl zf_ist_4 (xc_332_8))))
noncomputable def xb_332_6 : List zF := [zq_iret 0]
noncomputable def xf_332_6 : zE → zKn := fun E => zq_iret 0 (zNil) E
theorem xe_332_6 : xf_332_6 = zEx xb_332_6 := by
  unfold xf_332_6 xb_332_6
  rfl
theorem xc_332_6 : zCd 332 [0, 4, 32, 34, 40, 54, 55, 56, 61, 77, 85, 99, 108, 109] 55 xb_332_6 := zc_ireturn0 xj_332 56 rfl rfl (trivial)
noncomputable def xb_332_5 : List zF := zq_k 4294967295 :: xb_332_6
noncomputable def xf_332_5 : zE → zKn := fun E => zq_k 4294967295 (xf_332_6 E) E
theorem xe_332_5 : xf_332_5 = zEx xb_332_5 := by
  unfold xf_332_5 xb_332_5
  rw [xe_332_6]
  rfl
theorem xc_332_5 : zCd 332 [0, 4, 32, 34, 40, 54, 55, 56, 61, 77, 85, 99, 108, 109] 54 xb_332_5 := zc_iconst xj_332 55 (-1) 4294967295 rfl rfl rfl (xc_332_6)
noncomputable def xb_332_4 : List zF := [zq_ildg zG2, zq_k 4294967295, zq_ic_ne 56, zq_ildg zG1, zq_k 4294967295, zq_ic_ne 54, zq_k 0, zq_goto 55]
noncomputable def xf_332_4 : zE → zKn := fun E => zq_ildg zG2 (zq_k 4294967295 (zq_ic_ne 56 (zq_ildg zG1 (zq_k 4294967295 (zq_ic_ne 54 (zq_k 0 (zq_goto 55 (zNil) E) E) E) E) E) E) E) E
theorem xe_332_4 : xf_332_4 = zEx xb_332_4 := by
  unfold xf_332_4 xb_332_4
  rfl
theorem xc_332_4 : zCd 332 [0, 4, 32, 34, 40, 54, 55, 56, 61, 77, 85, 99, 108, 109] 40 xb_332_4 := zc_iload_n xj_332 41 2 rfl rfl zf_ild_2 (zc_iconst xj_332 42 (-1) 4294967295 rfl rfl rfl (zc_ic_ne xj_332 45 14 56 rfl rfl rfl (zc_iload_n xj_332 46 1 rfl rfl zf_ild_1 (zc_iconst xj_332 47 (-1) 4294967295 rfl rfl rfl (zc_ic_ne xj_332 50 7 54 rfl rfl rfl (zc_iconst xj_332 51 0 0 rfl rfl rfl (zc_goto xj_332 52 4 55 rfl rfl rfl (trivial))))))))
noncomputable def xb_332_3 : List zF := [zq_incg zG3 zE3 1, zq_goto 4]
noncomputable def xf_332_3 : zE → zKn := fun E => zq_incg zG3 zE3 1 (zq_goto 4 (zNil) E) E
theorem xe_332_3 : xf_332_3 = zEx xb_332_3 := by
  unfold xf_332_3 xb_332_3
  rfl
theorem xc_332_3 : zCd 332 [0, 4, 32, 34, 40, 54, 55, 56, 61, 77, 85, 99, 108, 109] 34 xb_332_3 := zc_iinc xj_332 37 3 1 1 rfl rfl rfl (zf_inc_3 _) (zc_goto xj_332 38 (-33) 4 rfl rfl rfl (trivial))
noncomputable def xb_332_2 : List zF := zq_ildg zG3 :: zq_istg zE2 :: xb_332_3
noncomputable def xf_332_2 : zE → zKn := fun E => zq_ildg zG3 (zq_istg zE2 (xf_332_3 E) E) E
theorem xe_332_2 : xf_332_2 = zEx xb_332_2 := by
  unfold xf_332_2 xb_332_2
  rw [xe_332_3]
  rfl
theorem xc_332_2 : zCd 332 [0, 4, 32, 34, 40, 54, 55, 56, 61, 77, 85, 99, 108, 109] 32 xb_332_2 := zc_iload_n xj_332 33 3 rfl rfl zf_ild_3 (zc_istore_n xj_332 34 2 rfl rfl zf_ist_2 (xc_332_3))
noncomputable def xb_332_1 : List zF := zq_ildg zG3 :: zq_k 40 :: zq_ic_ge 40 :: zq_aldg zG0 :: zq_ildg zG3 :: zN1 191 2 zg_191 :: zq_if_eq 34 :: zq_ildg zG2 :: zq_k 4294967295 :: zq_ic_eq 32 :: zq_aldg zG0 :: zq_ildg zG3 :: zq_ildg zG2 :: zq_calli 200 2 9 3 :: zq_if_eq 34 :: xb_332_2
noncomputable def xf_332_1 : zE → zKn := fun E => zq_ildg zG3 (zq_k 40 (zq_ic_ge 40 (zq_aldg zG0 (zq_ildg zG3 (zN1 191 2 zg_191 (zq_if_eq 34 (zq_ildg zG2 (zq_k 4294967295 (zq_ic_eq 32 (zq_aldg zG0 (zq_ildg zG3 (zq_ildg zG2 (zq_calli 200 2 9 3 (zq_if_eq 34 (xf_332_2 E) E) E) E) E) E) E) E) E) E) E) E) E) E) E) E
theorem xe_332_1 : xf_332_1 = zEx xb_332_1 := by
  unfold xf_332_1 xb_332_1
  rw [xe_332_2]
  rfl
theorem xc_332_1 : zCd 332 [0, 4, 32, 34, 40, 54, 55, 56, 61, 77, 85, 99, 108, 109] 4 xb_332_1 := zc_iload_n xj_332 5 3 rfl rfl zf_ild_3 (zc_bipush xj_332 7 40 40 rfl rfl rfl (zc_ic_ge xj_332 10 33 40 rfl rfl rfl (zc_aload_n xj_332 11 0 rfl rfl zf_ald_0 (zc_iload_n xj_332 12 3 rfl rfl zf_ild_3 (zc_any xj_332 15 (.invokevirtual 71) [1, 191, 1, 264, 9, 2] rfl rfl (zN1 191 2 zg_191) rfl rfl (zc_if_eq xj_332 18 19 34 rfl rfl rfl (zc_iload_n xj_332 19 2 rfl rfl zf_ild_2 (zc_iconst xj_332 20 (-1) 4294967295 rfl rfl rfl (zc_ic_eq xj_332 23 12 32 rfl rfl rfl (zc_aload_n xj_332 24 0 rfl rfl zf_ald_0 (zc_iload_n xj_332 25 3 rfl rfl zf_ild_3 (zc_iload_n xj_332 26 2 rfl rfl zf_ild_2 (zc_invokevirtual1 xj_332 29 125 200 2 277 9 3 rfl rfl rfl rfl (zc_if_eq xj_332 32 5 34 rfl rfl rfl (xc_332_2)))))))))))))))
noncomputable def xb_332_0 : List zF := zq_k 4294967295 :: zq_istg zE2 :: zq_k 4 :: zq_istg zE3 :: xb_332_1
noncomputable def xf_332_0 : zE → zKn := fun E => zq_k 4294967295 (zq_istg zE2 (zq_k 4 (zq_istg zE3 (xf_332_1 E) E) E) E) E
theorem xe_332_0 : xf_332_0 = zEx xb_332_0 := by
  unfold xf_332_0 xb_332_0
  rw [xe_332_1]
  rfl
theorem xc_332_0 : zCd 332 [0, 4, 32, 34, 40, 54, 55, 56, 61, 77, 85, 99, 108, 109] 0 xb_332_0 := zc_iconst xj_332 1 (-1) 4294967295 rfl rfl rfl (zc_istore_n xj_332 2 2 rfl rfl zf_ist_2 (zc_iconst xj_332 3 4 4 rfl rfl rfl (zc_istore_n xj_332 4 3 rfl rfl zf_ist_3 (xc_332_1))))
noncomputable def xm_332 : Lean.RArray (zE → zKn) := .branch 56 (.branch 34 (.branch 4 (.leaf xf_332_0) (.branch 32 (.leaf xf_332_1) (.leaf xf_332_2))) (.branch 54 (.branch 40 (.leaf xf_332_3) (.leaf xf_332_4)) (.branch 55 (.leaf xf_332_5) (.leaf xf_332_6)))) (.branch 85 (.branch 61 (.leaf xf_332_7) (.branch 77 (.leaf xf_332_8) (.leaf xf_332_9))) (.branch 108 (.branch 99 (.leaf xf_332_10) (.leaf xf_332_11)) (.branch 109 (.leaf xf_332_12) (.leaf xf_332_13))))
theorem xa_332 : zCdAll 332 [0, 4, 32, 34, 40, 54, 55, 56, 61, 77, 85, 99, 108, 109] xm_332 := zAll2_ok (P := fun t => ∃ c, zCd 332 [0, 4, 32, 34, 40, 54, 55, 56, 61, 77, 85, 99, 108, 109] t c ∧ xm_332.get t = zEx c) ⟨⟨_, xc_332_0, xe_332_0⟩, ⟨_, xc_332_1, xe_332_1⟩, ⟨_, xc_332_2, xe_332_2⟩, ⟨_, xc_332_3, xe_332_3⟩, ⟨_, xc_332_4, xe_332_4⟩, ⟨_, xc_332_5, xe_332_5⟩, ⟨_, xc_332_6, xe_332_6⟩, ⟨_, xc_332_7, xe_332_7⟩, ⟨_, xc_332_8, xe_332_8⟩, ⟨_, xc_332_9, xe_332_9⟩, ⟨_, xc_332_10, xe_332_10⟩, ⟨_, xc_332_11, xe_332_11⟩, ⟨_, xc_332_12, xe_332_12⟩, ⟨_, xc_332_13, xe_332_13⟩, trivial⟩
/-- SquareMeshModel.keepTriangles -/
theorem xj_333 : ∀ pc, pI 333 pc = pJ_333 pc := fun _ => rfl
noncomputable def xb_333_2 : List zF := [zq_vret]
noncomputable def xf_333_2 : zE → zKn := fun E => zq_vret (zNil) E
theorem xe_333_2 : xf_333_2 = zEx xb_333_2 := by
  unfold xf_333_2 xb_333_2
  rfl
theorem xc_333_2 : zCd 333 [0, 14, 39] 39 xb_333_2 := zc_return_ xj_333 40 rfl rfl (trivial)
noncomputable def xb_333_1 : List zF := [zq_ildg zG1, zq_aldg zG0, zq_getfg 9 zG4, zq_ic_ge 39, zq_aldg zG0, zq_getfg 9 zG15, zq_ildg zG1, zq_aldg zG0, zq_ildg zG1, zq_calli 221 1 9 2, zq_iast, zq_incg zG1 zE1 1, zq_goto 14]
noncomputable def xf_333_1 : zE → zKn := fun E => zq_ildg zG1 (zq_aldg zG0 (zq_getfg 9 zG4 (zq_ic_ge 39 (zq_aldg zG0 (zq_getfg 9 zG15 (zq_ildg zG1 (zq_aldg zG0 (zq_ildg zG1 (zq_calli 221 1 9 2 (zq_iast (zq_incg zG1 zE1 1 (zq_goto 14 (zNil) E) E) E) E) E) E) E) E) E) E) E) E) E
theorem xe_333_1 : xf_333_1 = zEx xb_333_1 := by
  unfold xf_333_1 xb_333_1
  rfl
theorem xc_333_1 : zCd 333 [0, 14, 39] 14 xb_333_1 := zc_iload_n xj_333 15 1 rfl rfl zf_ild_1 (zc_aload_n xj_333 16 0 rfl rfl zf_ald_0 (zc_getf xj_333 19 134 9 4 98 rfl rfl (zf_getf_4 _) (zc_ic_ge xj_333 22 20 39 rfl rfl rfl (zc_aload_n xj_333 23 0 rfl rfl zf_ald_0 (zc_getf xj_333 26 48 9 15 109 rfl rfl (zf_getf_15 _) (zc_iload_n xj_333 27 1 rfl rfl zf_ild_1 (zc_aload_n xj_333 28 0 rfl rfl zf_ald_0 (zc_iload_n xj_333 29 1 rfl rfl zf_ild_1 (zc_invokevirtual1 xj_333 32 153 221 1 280 9 2 rfl rfl rfl rfl (zc_iastore xj_333 33 rfl rfl (zc_iinc xj_333 36 1 1 1 rfl rfl rfl (zf_inc_1 _) (zc_goto xj_333 37 (-22) 14 rfl rfl rfl (trivial)))))))))))))
noncomputable def xb_333_0 : List zF := zq_aldg zG0 :: zq_calli 222 0 9 2 :: zq_aldg zG0 :: zq_aldg zG0 :: zq_getfg 9 zG4 :: zq_putf 9 16 0 :: zq_k 0 :: zq_istg zE1 :: xb_333_1
noncomputable def xf_333_0 : zE → zKn := fun E => zq_aldg zG0 (zq_calli 222 0 9 2 (zq_aldg zG0 (zq_aldg zG0 (zq_getfg 9 zG4 (zq_putf 9 16 0 (zq_k 0 (zq_istg zE1 (xf_333_1 E) E) E) E) E) E) E) E) E
theorem xe_333_0 : xf_333_0 = zEx xb_333_0 := by
  unfold xf_333_0 xb_333_0
  rw [xe_333_1]
  rfl
theorem xc_333_0 : zCd 333 [0, 14, 39] 0 xb_333_0 := zc_aload_n xj_333 1 0 rfl rfl zf_ald_0 (zc_invokevirtual1 xj_333 4 363 222 0 401 9 2 rfl rfl rfl rfl (zc_aload_n xj_333 5 0 rfl rfl zf_ald_0 (zc_aload_n xj_333 6 0 rfl rfl zf_ald_0 (zc_getf xj_333 9 134 9 4 98 rfl rfl (zf_getf_4 _) (zc_putf xj_333 12 366 9 16 110 0 rfl rfl rfl (zc_iconst xj_333 13 0 0 rfl rfl rfl (zc_istore_n xj_333 14 1 rfl rfl zf_ist_1 (xc_333_1))))))))
noncomputable def xm_333 : Lean.RArray (zE → zKn) := .branch 14 (.leaf xf_333_0) (.branch 39 (.leaf xf_333_1) (.leaf xf_333_2))
theorem xa_333 : zCdAll 333 [0, 14, 39] xm_333 := zAll2_ok (P := fun t => ∃ c, zCd 333 [0, 14, 39] t c ∧ xm_333.get t = zEx c) ⟨⟨_, xc_333_0, xe_333_0⟩, ⟨_, xc_333_1, xe_333_1⟩, ⟨_, xc_333_2, xe_333_2⟩, trivial⟩
/-- SquareMeshModel.isAmong -/
theorem xj_334 : ∀ pc, pI 334 pc = pJ_334 pc := fun _ => rfl
noncomputable def xb_334_3 : List zF := [zq_k 0, zq_iret 1]
noncomputable def xf_334_3 : zE → zKn := fun E => zq_k 0 (zq_iret 1 (zNil) E) E
theorem xe_334_3 : xf_334_3 = zEx xb_334_3 := by
  unfold xf_334_3 xb_334_3
  rfl
theorem xc_334_3 : zCd 334 [0, 2, 16, 22] 22 xb_334_3 := zc_iconst xj_334 23 0 0 rfl rfl rfl (zc_ireturn1 xj_334 24 rfl rfl (trivial))
noncomputable def xb_334_2 : List zF := [zq_incg zG3 zE3 1, zq_goto 2]
noncomputable def xf_334_2 : zE → zKn := fun E => zq_incg zG3 zE3 1 (zq_goto 2 (zNil) E) E
theorem xe_334_2 : xf_334_2 = zEx xb_334_2 := by
  unfold xf_334_2 xb_334_2
  rfl
theorem xc_334_2 : zCd 334 [0, 2, 16, 22] 16 xb_334_2 := zc_iinc xj_334 19 3 1 1 rfl rfl rfl (zf_inc_3 _) (zc_goto xj_334 20 (-17) 2 rfl rfl rfl (trivial))
noncomputable def xb_334_1 : List zF := [zq_ildg zG3, zq_ildg zG1, zq_ic_ge 22, zq_aldg zG0, zq_ildg zG3, zq_ild_ 0, zq_ildg zG2, zq_ic_ne 16, zq_k 1, zq_iret 1]
noncomputable def xf_334_1 : zE → zKn := fun E => zq_ildg zG3 (zq_ildg zG1 (zq_ic_ge 22 (zq_aldg zG0 (zq_ildg zG3 (zq_ild_ 0 (zq_ildg zG2 (zq_ic_ne 16 (zq_k 1 (zq_iret 1 (zNil) E) E) E) E) E) E) E) E) E) E
theorem xe_334_1 : xf_334_1 = zEx xb_334_1 := by
  unfold xf_334_1 xb_334_1
  rfl
theorem xc_334_1 : zCd 334 [0, 2, 16, 22] 2 xb_334_1 := zc_iload_n xj_334 3 3 rfl rfl zf_ild_3 (zc_iload_n xj_334 4 1 rfl rfl zf_ild_1 (zc_ic_ge xj_334 7 18 22 rfl rfl rfl (zc_aload_n xj_334 8 0 rfl rfl zf_ald_0 (zc_iload_n xj_334 9 3 rfl rfl zf_ild_3 (zc_iaload xj_334 10 rfl rfl (zc_iload_n xj_334 11 2 rfl rfl zf_ild_2 (zc_ic_ne xj_334 14 5 16 rfl rfl rfl (zc_iconst xj_334 15 1 1 rfl rfl rfl (zc_ireturn1 xj_334 16 rfl rfl (trivial))))))))))
noncomputable def xb_334_0 : List zF := zq_k 0 :: zq_istg zE3 :: xb_334_1
noncomputable def xf_334_0 : zE → zKn := fun E => zq_k 0 (zq_istg zE3 (xf_334_1 E) E) E
theorem xe_334_0 : xf_334_0 = zEx xb_334_0 := by
  unfold xf_334_0 xb_334_0
  rw [xe_334_1]
  rfl
theorem xc_334_0 : zCd 334 [0, 2, 16, 22] 0 xb_334_0 := zc_iconst xj_334 1 0 0 rfl rfl rfl (zc_istore_n xj_334 2 3 rfl rfl zf_ist_3 (xc_334_1))
noncomputable def xm_334 : Lean.RArray (zE → zKn) := .branch 16 (.branch 2 (.leaf xf_334_0) (.leaf xf_334_1)) (.branch 22 (.leaf xf_334_2) (.leaf xf_334_3))
theorem xa_334 : zCdAll 334 [0, 2, 16, 22] xm_334 := zAll2_ok (P := fun t => ∃ c, zCd 334 [0, 2, 16, 22] t c ∧ xm_334.get t = zEx c) ⟨⟨_, xc_334_0, xe_334_0⟩, ⟨_, xc_334_1, xe_334_1⟩, ⟨_, xc_334_2, xe_334_2⟩, ⟨_, xc_334_3, xe_334_3⟩, trivial⟩
/-- SquareMeshModel.freshOnes -/
theorem xj_335 : ∀ pc, pI 335 pc = pJ_335 pc := fun _ => rfl
noncomputable def xb_335_4 : List zF := [zq_aldg zG0, zq_calli 223 0 9 2, zq_ildg zG1, zq_iret 0]
noncomputable def xf_335_4 : zE → zKn := fun E => zq_aldg zG0 (zq_calli 223 0 9 2 (zq_ildg zG1 (zq_iret 0 (zNil) E) E) E) E
theorem xe_335_4 : xf_335_4 = zEx xb_335_4 := by
  unfold xf_335_4 xb_335_4
  rfl
theorem xc_335_4 : zCd 335 [0, 8, 40, 41, 49] 49 xb_335_4 := zc_aload_n xj_335 50 0 rfl rfl zf_ald_0 (zc_invokevirtual1 xj_335 53 373 223 0 404 9 2 rfl rfl rfl rfl (zc_iload_n xj_335 54 1 rfl rfl zf_ild_1 (zc_ireturn0 xj_335 55 rfl rfl (trivial))))
noncomputable def xb_335_3 : List zF := [zq_add, zq_istg zE1, zq_incg zG2 zE2 1, zq_goto 8]
noncomputable def xf_335_3 : zE → zKn := fun E => zq_add (zq_istg zE1 (zq_incg zG2 zE2 1 (zq_goto 8 (zNil) E) E) E) E
theorem xe_335_3 : xf_335_3 = zEx xb_335_3 := by
  unfold xf_335_3 xb_335_3
  rfl
theorem xc_335_3 : zCd 335 [0, 8, 40, 41, 49] 41 xb_335_3 := zc_iadd xj_335 42 rfl rfl (zc_istore_n xj_335 43 1 rfl rfl zf_ist_1 (zc_iinc xj_335 46 2 1 1 rfl rfl rfl (zf_inc_2 _) (zc_goto xj_335 47 (-38) 8 rfl rfl rfl (trivial))))
noncomputable def xb_335_2 : List zF := zq_k 1 :: xb_335_3
noncomputable def xf_335_2 : zE → zKn := fun E => zq_k 1 (xf_335_3 E) E
theorem xe_335_2 : xf_335_2 = zEx xb_335_2 := by
  unfold xf_335_2 xb_335_2
  rw [xe_335_3]
  rfl
theorem xc_335_2 : zCd 335 [0, 8, 40, 41, 49] 40 xb_335_2 := zc_iconst xj_335 41 1 1 rfl rfl rfl (xc_335_3)
noncomputable def xb_335_1 : List zF := [zq_ildg zG2, zq_aldg zG0, zq_getfg 9 zG4, zq_ic_ge 49, zq_ildg zG1, zq_aldg zG0, zq_getfg 9 zG15, zq_aldg zG0, zq_getfg 9 zG16, zq_aldg zG0, zq_ildg zG2, zq_calli 221 1 9 2, zq_calls 334 3 4, zq_if_eq 40, zq_k 0, zq_goto 41]
noncomputable def xf_335_1 : zE → zKn := fun E => zq_ildg zG2 (zq_aldg zG0 (zq_getfg 9 zG4 (zq_ic_ge 49 (zq_ildg zG1 (zq_aldg zG0 (zq_getfg 9 zG15 (zq_aldg zG0 (zq_getfg 9 zG16 (zq_aldg zG0 (zq_ildg zG2 (zq_calli 221 1 9 2 (zq_calls 334 3 4 (zq_if_eq 40 (zq_k 0 (zq_goto 41 (zNil) E) E) E) E) E) E) E) E) E) E) E) E) E) E) E) E
theorem xe_335_1 : xf_335_1 = zEx xb_335_1 := by
  unfold xf_335_1 xb_335_1
  rfl
theorem xc_335_1 : zCd 335 [0, 8, 40, 41, 49] 8 xb_335_1 := zc_iload_n xj_335 9 2 rfl rfl zf_ild_2 (zc_aload_n xj_335 10 0 rfl rfl zf_ald_0 (zc_getf xj_335 13 134 9 4 98 rfl rfl (zf_getf_4 _) (zc_ic_ge xj_335 16 36 49 rfl rfl rfl (zc_iload_n xj_335 17 1 rfl rfl zf_ild_1 (zc_aload_n xj_335 18 0 rfl rfl zf_ald_0 (zc_getf xj_335 21 48 9 15 109 rfl rfl (zf_getf_15 _) (zc_aload_n xj_335 22 0 rfl rfl zf_ald_0 (zc_getf xj_335 25 366 9 16 110 rfl rfl (zf_getf_16 _) (zc_aload_n xj_335 26 0 rfl rfl zf_ald_0 (zc_iload_n xj_335 27 2 rfl rfl zf_ild_2 (zc_invokevirtual1 xj_335 30 153 221 1 280 9 2 rfl rfl rfl rfl (zc_invokestatic2 xj_335 33 369 334 3 403 0 4 rfl rfl rfl rfl (zc_if_eq xj_335 36 7 40 rfl rfl rfl (zc_iconst xj_335 37 0 0 rfl rfl rfl (zc_goto xj_335 38 4 41 rfl rfl rfl (trivial))))))))))))))))
noncomputable def xb_335_0 : List zF := zq_aldg zG0 :: zq_calli 219 0 9 5 :: zq_k 0 :: zq_istg zE1 :: zq_k 0 :: zq_istg zE2 :: xb_335_1
noncomputable def xf_335_0 : zE → zKn := fun E => zq_aldg zG0 (zq_calli 219 0 9 5 (zq_k 0 (zq_istg zE1 (zq_k 0 (zq_istg zE2 (xf_335_1 E) E) E) E) E) E) E
theorem xe_335_0 : xf_335_0 = zEx xb_335_0 := by
  unfold xf_335_0 xb_335_0
  rw [xe_335_1]
  rfl
theorem xc_335_0 : zCd 335 [0, 8, 40, 41, 49] 0 xb_335_0 := zc_aload_n xj_335 1 0 rfl rfl zf_ald_0 (zc_invokevirtual1 xj_335 4 61 219 0 255 9 5 rfl rfl rfl rfl (zc_iconst xj_335 5 0 0 rfl rfl rfl (zc_istore_n xj_335 6 1 rfl rfl zf_ist_1 (zc_iconst xj_335 7 0 0 rfl rfl rfl (zc_istore_n xj_335 8 2 rfl rfl zf_ist_2 (xc_335_1))))))
noncomputable def xm_335 : Lean.RArray (zE → zKn) := .branch 40 (.branch 8 (.leaf xf_335_0) (.leaf xf_335_1)) (.branch 41 (.leaf xf_335_2) (.branch 49 (.leaf xf_335_3) (.leaf xf_335_4)))
theorem xa_335 : zCdAll 335 [0, 8, 40, 41, 49] xm_335 := zAll2_ok (P := fun t => ∃ c, zCd 335 [0, 8, 40, 41, 49] t c ∧ xm_335.get t = zEx c) ⟨⟨_, xc_335_0, xe_335_0⟩, ⟨_, xc_335_1, xe_335_1⟩, ⟨_, xc_335_2, xe_335_2⟩, ⟨_, xc_335_3, xe_335_3⟩, ⟨_, xc_335_4, xe_335_4⟩, trivial⟩
/-- SquareMeshModel.wouldPoint -/
theorem xj_336 : ∀ pc, pI 336 pc = pJ_336 pc := fun _ => rfl
noncomputable def xb_336_1 : List zF := [zq_aldg zG0, zq_calli 333 0 9 2, zq_aldg zG0, zq_ildg zG1, zq_ildg zG2, zq_calli 230 2 9 4, zq_istg zE3, zq_aldg zG0, zq_calli 335 0 9 3, zq_iret 0]
noncomputable def xf_336_1 : zE → zKn := fun E => zq_aldg zG0 (zq_calli 333 0 9 2 (zq_aldg zG0 (zq_ildg zG1 (zq_ildg zG2 (zq_calli 230 2 9 4 (zq_istg zE3 (zq_aldg zG0 (zq_calli 335 0 9 3 (zq_iret 0 (zNil) E) E) E) E) E) E) E) E) E) E
theorem xe_336_1 : xf_336_1 = zEx xb_336_1 := by
  unfold xf_336_1 xb_336_1
  rfl
theorem xc_336_1 : zCd 336 [0, 11] 11 xb_336_1 := zc_aload_n xj_336 12 0 rfl rfl zf_ald_0 (zc_invokevirtual1 xj_336 15 376 333 0 400 9 2 rfl rfl rfl rfl (zc_aload_n xj_336 16 0 rfl rfl zf_ald_0 (zc_iload_n xj_336 17 1 rfl rfl zf_ild_1 (zc_iload_n xj_336 18 2 rfl rfl zf_ild_2 (zc_invokevirtual1 xj_336 21 178 230 2 293 9 4 rfl rfl rfl rfl (zc_istore_n xj_336 22 3 rfl rfl zf_ist_3 (zc_aload_n xj_336 23 0 rfl rfl zf_ald_0 (zc_invokevirtual1 xj_336 26 379 335 0 402 9 3 rfl rfl rfl rfl (zc_ireturn0 xj_336 27 rfl rfl (trivial))))))))))
noncomputable def xb_336_0 : List zF := [zq_aldg zG0, zq_ildg zG1, zq_ildg zG2, zq_calli 231 2 9 3, zq_if_ne 11, zq_k 4294967295, zq_iret 0]
noncomputable def xf_336_0 : zE → zKn := fun E => zq_aldg zG0 (zq_ildg zG1 (zq_ildg zG2 (zq_calli 231 2 9 3 (zq_if_ne 11 (zq_k 4294967295 (zq_iret 0 (zNil) E) E) E) E) E) E) E
theorem xe_336_0 : xf_336_0 = zEx xb_336_0 := by
  unfold xf_336_0 xb_336_0
  rfl
theorem xc_336_0 : zCd 336 [0, 11] 0 xb_336_0 := zc_aload_n xj_336 1 0 rfl rfl zf_ald_0 (zc_iload_n xj_336 2 1 rfl rfl zf_ild_1 (zc_iload_n xj_336 3 2 rfl rfl zf_ild_2 (zc_invokevirtual1 xj_336 6 175 231 2 290 9 3 rfl rfl rfl rfl (zc_if_ne xj_336 9 5 11 rfl rfl rfl (zc_iconst xj_336 10 (-1) 4294967295 rfl rfl rfl (zc_ireturn0 xj_336 11 rfl rfl (trivial)))))))
noncomputable def xm_336 : Lean.RArray (zE → zKn) := .branch 11 (.leaf xf_336_0) (.leaf xf_336_1)
theorem xa_336 : zCdAll 336 [0, 11] xm_336 := zAll2_ok (P := fun t => ∃ c, zCd 336 [0, 11] t c ∧ xm_336.get t = zEx c) ⟨⟨_, xc_336_0, xe_336_0⟩, ⟨_, xc_336_1, xe_336_1⟩, trivial⟩
/-- SquareMeshModel.wouldDrop -/
theorem xj_337 : ∀ pc, pI 337 pc = pJ_337 pc := fun _ => rfl
noncomputable def xb_337_1 : List zF := [zq_aldg zG0, zq_calli 333 0 9 2, zq_aldg zG0, zq_ildg zG1, zq_calli 235 1 9 3, zq_aldg zG0, zq_calli 335 0 9 3, zq_iret 0]
noncomputable def xf_337_1 : zE → zKn := fun E => zq_aldg zG0 (zq_calli 333 0 9 2 (zq_aldg zG0 (zq_ildg zG1 (zq_calli 235 1 9 3 (zq_aldg zG0 (zq_calli 335 0 9 3 (zq_iret 0 (zNil) E) E) E) E) E) E) E) E
theorem xe_337_1 : xf_337_1 = zEx xb_337_1 := by
  unfold xf_337_1 xb_337_1
  rfl
theorem xc_337_1 : zCd 337 [0, 10] 10 xb_337_1 := zc_aload_n xj_337 11 0 rfl rfl zf_ald_0 (zc_invokevirtual1 xj_337 14 376 333 0 400 9 2 rfl rfl rfl rfl (zc_aload_n xj_337 15 0 rfl rfl zf_ald_0 (zc_iload_n xj_337 16 1 rfl rfl zf_ild_1 (zc_invokevirtual1 xj_337 19 187 235 1 298 9 3 rfl rfl rfl rfl (zc_aload_n xj_337 20 0 rfl rfl zf_ald_0 (zc_invokevirtual1 xj_337 23 379 335 0 402 9 3 rfl rfl rfl rfl (zc_ireturn0 xj_337 24 rfl rfl (trivial))))))))
noncomputable def xb_337_0 : List zF := [zq_aldg zG0, zq_ildg zG1, zq_calli 234 1 9 2, zq_if_ne 10, zq_k 4294967295, zq_iret 0]
noncomputable def xf_337_0 : zE → zKn := fun E => zq_aldg zG0 (zq_ildg zG1 (zq_calli 234 1 9 2 (zq_if_ne 10 (zq_k 4294967295 (zq_iret 0 (zNil) E) E) E) E) E) E
theorem xe_337_0 : xf_337_0 = zEx xb_337_0 := by
  unfold xf_337_0 xb_337_0
  rfl
theorem xc_337_0 : zCd 337 [0, 10] 0 xb_337_0 := zc_aload_n xj_337 1 0 rfl rfl zf_ald_0 (zc_iload_n xj_337 2 1 rfl rfl zf_ild_1 (zc_invokevirtual1 xj_337 5 184 234 1 296 9 2 rfl rfl rfl rfl (zc_if_ne xj_337 8 5 10 rfl rfl rfl (zc_iconst xj_337 9 (-1) 4294967295 rfl rfl rfl (zc_ireturn0 xj_337 10 rfl rfl (trivial))))))
noncomputable def xm_337 : Lean.RArray (zE → zKn) := .branch 10 (.leaf xf_337_0) (.leaf xf_337_1)
theorem xa_337 : zCdAll 337 [0, 10] xm_337 := zAll2_ok (P := fun t => ∃ c, zCd 337 [0, 10] t c ∧ xm_337.get t = zEx c) ⟨⟨_, xc_337_0, xe_337_0⟩, ⟨_, xc_337_1, xe_337_1⟩, trivial⟩
/-- SquareMeshModel.wouldFix -/
theorem xj_338 : ∀ pc, pI 338 pc = pJ_338 pc := fun _ => rfl
noncomputable def xb_338_1 : List zF := [zq_aldg zG0, zq_calli 333 0 9 2, zq_aldg zG0, zq_ildg zG1, zq_ildg zG2, zq_k 1, zq_calli 197 3 9 4, zq_aldg zG0, zq_calli 335 0 9 3, zq_iret 0]
noncomputable def xf_338_1 : zE → zKn := fun E => zq_aldg zG0 (zq_calli 333 0 9 2 (zq_aldg zG0 (zq_ildg zG1 (zq_ildg zG2 (zq_k 1 (zq_calli 197 3 9 4 (zq_aldg zG0 (zq_calli 335 0 9 3 (zq_iret 0 (zNil) E) E) E) E) E) E) E) E) E) E
theorem xe_338_1 : xf_338_1 = zEx xb_338_1 := by
  unfold xf_338_1 xb_338_1
  rfl
theorem xc_338_1 : zCd 338 [0, 11] 11 xb_338_1 := zc_aload_n xj_338 12 0 rfl rfl zf_ald_0 (zc_invokevirtual1 xj_338 15 376 333 0 400 9 2 rfl rfl rfl rfl (zc_aload_n xj_338 16 0 rfl rfl zf_ald_0 (zc_iload_n xj_338 17 1 rfl rfl zf_ild_1 (zc_iload_n xj_338 18 2 rfl rfl zf_ild_2 (zc_iconst xj_338 19 1 1 rfl rfl rfl (zc_invokevirtual1 xj_338 22 58 197 3 254 9 4 rfl rfl rfl rfl (zc_aload_n xj_338 23 0 rfl rfl zf_ald_0 (zc_invokevirtual1 xj_338 26 379 335 0 402 9 3 rfl rfl rfl rfl (zc_ireturn0 xj_338 27 rfl rfl (trivial))))))))))
noncomputable def xb_338_0 : List zF := [zq_aldg zG0, zq_ildg zG1, zq_ildg zG2, zq_calli 240 2 9 3, zq_if_ne 11, zq_k 4294967295, zq_iret 0]
noncomputable def xf_338_0 : zE → zKn := fun E => zq_aldg zG0 (zq_ildg zG1 (zq_ildg zG2 (zq_calli 240 2 9 3 (zq_if_ne 11 (zq_k 4294967295 (zq_iret 0 (zNil) E) E) E) E) E) E) E
theorem xe_338_0 : xf_338_0 = zEx xb_338_0 := by
  unfold xf_338_0 xb_338_0
  rfl
theorem xc_338_0 : zCd 338 [0, 11] 0 xb_338_0 := zc_aload_n xj_338 1 0 rfl rfl zf_ald_0 (zc_iload_n xj_338 2 1 rfl rfl zf_ild_1 (zc_iload_n xj_338 3 2 rfl rfl zf_ild_2 (zc_invokevirtual1 xj_338 6 197 240 2 302 9 3 rfl rfl rfl rfl (zc_if_ne xj_338 9 5 11 rfl rfl rfl (zc_iconst xj_338 10 (-1) 4294967295 rfl rfl rfl (zc_ireturn0 xj_338 11 rfl rfl (trivial)))))))
noncomputable def xm_338 : Lean.RArray (zE → zKn) := .branch 11 (.leaf xf_338_0) (.leaf xf_338_1)
theorem xa_338 : zCdAll 338 [0, 11] xm_338 := zAll2_ok (P := fun t => ∃ c, zCd 338 [0, 11] t c ∧ xm_338.get t = zEx c) ⟨⟨_, xc_338_0, xe_338_0⟩, ⟨_, xc_338_1, xe_338_1⟩, trivial⟩
/-- SquareMeshModel.wouldFree -/
theorem xj_339 : ∀ pc, pI 339 pc = pJ_339 pc := fun _ => rfl
noncomputable def xb_339_1 : List zF := [zq_aldg zG0, zq_calli 333 0 9 2, zq_aldg zG0, zq_ildg zG1, zq_ildg zG2, zq_k 0, zq_calli 197 3 9 4, zq_aldg zG0, zq_calli 335 0 9 3, zq_iret 0]
noncomputable def xf_339_1 : zE → zKn := fun E => zq_aldg zG0 (zq_calli 333 0 9 2 (zq_aldg zG0 (zq_ildg zG1 (zq_ildg zG2 (zq_k 0 (zq_calli 197 3 9 4 (zq_aldg zG0 (zq_calli 335 0 9 3 (zq_iret 0 (zNil) E) E) E) E) E) E) E) E) E) E
theorem xe_339_1 : xf_339_1 = zEx xb_339_1 := by
  unfold xf_339_1 xb_339_1
  rfl
theorem xc_339_1 : zCd 339 [0, 11] 11 xb_339_1 := zc_aload_n xj_339 12 0 rfl rfl zf_ald_0 (zc_invokevirtual1 xj_339 15 376 333 0 400 9 2 rfl rfl rfl rfl (zc_aload_n xj_339 16 0 rfl rfl zf_ald_0 (zc_iload_n xj_339 17 1 rfl rfl zf_ild_1 (zc_iload_n xj_339 18 2 rfl rfl zf_ild_2 (zc_iconst xj_339 19 0 0 rfl rfl rfl (zc_invokevirtual1 xj_339 22 58 197 3 254 9 4 rfl rfl rfl rfl (zc_aload_n xj_339 23 0 rfl rfl zf_ald_0 (zc_invokevirtual1 xj_339 26 379 335 0 402 9 3 rfl rfl rfl rfl (zc_ireturn0 xj_339 27 rfl rfl (trivial))))))))))
noncomputable def xb_339_0 : List zF := [zq_aldg zG0, zq_ildg zG1, zq_ildg zG2, zq_calli 242 2 9 3, zq_if_ne 11, zq_k 4294967295, zq_iret 0]
noncomputable def xf_339_0 : zE → zKn := fun E => zq_aldg zG0 (zq_ildg zG1 (zq_ildg zG2 (zq_calli 242 2 9 3 (zq_if_ne 11 (zq_k 4294967295 (zq_iret 0 (zNil) E) E) E) E) E) E) E
theorem xe_339_0 : xf_339_0 = zEx xb_339_0 := by
  unfold xf_339_0 xb_339_0
  rfl
theorem xc_339_0 : zCd 339 [0, 11] 0 xb_339_0 := zc_aload_n xj_339 1 0 rfl rfl zf_ald_0 (zc_iload_n xj_339 2 1 rfl rfl zf_ild_1 (zc_iload_n xj_339 3 2 rfl rfl zf_ild_2 (zc_invokevirtual1 xj_339 6 200 242 2 305 9 3 rfl rfl rfl rfl (zc_if_ne xj_339 9 5 11 rfl rfl rfl (zc_iconst xj_339 10 (-1) 4294967295 rfl rfl rfl (zc_ireturn0 xj_339 11 rfl rfl (trivial)))))))
noncomputable def xm_339 : Lean.RArray (zE → zKn) := .branch 11 (.leaf xf_339_0) (.leaf xf_339_1)
theorem xa_339 : zCdAll 339 [0, 11] xm_339 := zAll2_ok (P := fun t => ∃ c, zCd 339 [0, 11] t c ∧ xm_339.get t = zEx c) ⟨⟨_, xc_339_0, xe_339_0⟩, ⟨_, xc_339_1, xe_339_1⟩, trivial⟩
/-- SquareMeshModel.mean -/
theorem xj_340 : ∀ pc, pI 340 pc = pJ_340 pc := fun _ => rfl
noncomputable def xb_340_6 : List zF := [zq_lldg zG1, zq_bad, zq_aldg zG0, zq_calli 258 0 9 4, zq_bad, zq_bad, zq_calls 347 1 2, zq_lret]
noncomputable def xf_340_6 : zE → zKn := fun E => zq_lldg zG1 (zq_bad (zq_aldg zG0 (zq_calli 258 0 9 4 (zq_bad (zq_bad (zq_calls 347 1 2 (zq_lret (zNil) E) E) E) E) E) E) E) E
theorem xe_340_6 : xf_340_6 = zEx xb_340_6 := by
  unfold xf_340_6 xb_340_6
  rfl
theorem xc_340_6 : zCd 340 [0, 4, 13, 41, 42, 50, 56] 56 xb_340_6 := zc_lload_n xj_340 57 1 rfl rfl zf_lld_1 (zc_any xj_340 58 (.l2d) [] rfl rfl (zq_bad) rfl rfl (zc_aload_n xj_340 59 0 rfl rfl zf_ald_0 (zc_invokevirtual1 xj_340 62 240 258 0 326 9 4 rfl rfl rfl rfl (zc_any xj_340 63 (.i2d) [] rfl rfl (zq_bad) rfl rfl (zc_any xj_340 64 (.ddiv) [] rfl rfl (zq_bad) rfl rfl (zc_invokestatic2 xj_340 67 382 347 1 409 0 2 rfl rfl rfl rfl (zc_lreturn xj_340 68 rfl rfl (trivial))))))))
noncomputable def xb_340_5 : List zF := [zq_incg zG3 zE3 1, zq_goto 4]
noncomputable def xf_340_5 : zE → zKn := fun E => zq_incg zG3 zE3 1 (zq_goto 4 (zNil) E) E
theorem xe_340_5 : xf_340_5 = zEx xb_340_5 := by
  unfold xf_340_5 xb_340_5
  rfl
theorem xc_340_5 : zCd 340 [0, 4, 13, 41, 42, 50, 56] 50 xb_340_5 := zc_iinc xj_340 53 3 1 1 rfl rfl rfl (zf_inc_3 _) (zc_goto xj_340 54 (-49) 4 rfl rfl rfl (trivial))
noncomputable def xb_340_4 : List zF := [zq_ladd, zq_lst 1, zq_incg zG4 zE4 1, zq_goto 13]
noncomputable def xf_340_4 : zE → zKn := fun E => zq_ladd (zq_lst 1 (zq_incg zG4 zE4 1 (zq_goto 13 (zNil) E) E) E) E
theorem xe_340_4 : xf_340_4 = zEx xb_340_4 := by
  unfold xf_340_4 xb_340_4
  rfl
theorem xc_340_4 : zCd 340 [0, 4, 13, 41, 42, 50, 56] 42 xb_340_4 := zc_ladd xj_340 43 rfl rfl (zc_lstore_n xj_340 44 1 rfl rfl rfl (zc_iinc xj_340 47 4 1 1 rfl rfl rfl (zf_inc_4 _) (zc_goto xj_340 48 (-34) 13 rfl rfl rfl (trivial))))
noncomputable def xb_340_3 : List zF := zq_kl 0 :: xb_340_4
noncomputable def xf_340_3 : zE → zKn := fun E => zq_kl 0 (xf_340_4 E) E
theorem xe_340_3 : xf_340_3 = zEx xb_340_3 := by
  unfold xf_340_3 xb_340_3
  rw [xe_340_4]
  rfl
theorem xc_340_3 : zCd 340 [0, 4, 13, 41, 42, 50, 56] 41 xb_340_3 := zc_lconst xj_340 42 0 rfl rfl (xc_340_4)
noncomputable def xb_340_2 : List zF := [zq_ildg zG4, zq_ildg zG3, zq_ic_ge 50, zq_lldg zG1, zq_aldg zG0, zq_ildg zG3, zq_ildg zG4, zN2 213 3 zg_213, zq_if_eq 41, zq_aldg zG0, zq_ildg zG3, zq_ildg zG4, zq_calli 204 2 9 3, zq_i2l, zq_goto 42]
noncomputable def xf_340_2 : zE → zKn := fun E => zq_ildg zG4 (zq_ildg zG3 (zq_ic_ge 50 (zq_lldg zG1 (zq_aldg zG0 (zq_ildg zG3 (zq_ildg zG4 (zN2 213 3 zg_213 (zq_if_eq 41 (zq_aldg zG0 (zq_ildg zG3 (zq_ildg zG4 (zq_calli 204 2 9 3 (zq_i2l (zq_goto 42 (zNil) E) E) E) E) E) E) E) E) E) E) E) E) E) E) E
theorem xe_340_2 : xf_340_2 = zEx xb_340_2 := by
  unfold xf_340_2 xb_340_2
  rfl
theorem xc_340_2 : zCd 340 [0, 4, 13, 41, 42, 50, 56] 13 xb_340_2 := zc_iload xj_340 15 4 rfl rfl zf_ild_4 (zc_iload_n xj_340 16 3 rfl rfl zf_ild_3 (zc_ic_ge xj_340 19 34 50 rfl rfl rfl (zc_lload_n xj_340 20 1 rfl rfl zf_lld_1 (zc_aload_n xj_340 21 0 rfl rfl zf_ald_0 (zc_iload_n xj_340 22 3 rfl rfl zf_ild_3 (zc_iload xj_340 24 4 rfl rfl zf_ild_4 (zc_any xj_340 27 (.invokevirtual 234) [1, 213, 2, 321, 9, 3] rfl rfl (zN2 213 3 zg_213) rfl rfl (zc_if_eq xj_340 30 14 41 rfl rfl rfl (zc_aload_n xj_340 31 0 rfl rfl zf_ald_0 (zc_iload_n xj_340 32 3 rfl rfl zf_ild_3 (zc_iload xj_340 34 4 rfl rfl zf_ild_4 (zc_invokevirtual1 xj_340 37 86 204 2 270 9 3 rfl rfl rfl rfl (zc_i2l xj_340 38 rfl rfl (zc_goto xj_340 39 4 42 rfl rfl rfl (trivial)))))))))))))))
noncomputable def xb_340_1 : List zF := zq_ildg zG3 :: zq_k 40 :: zq_ic_ge 56 :: zq_k 0 :: zq_istg zE4 :: xb_340_2
noncomputable def xf_340_1 : zE → zKn := fun E => zq_ildg zG3 (zq_k 40 (zq_ic_ge 56 (zq_k 0 (zq_istg zE4 (xf_340_2 E) E) E) E) E) E
theorem xe_340_1 : xf_340_1 = zEx xb_340_1 := by
  unfold xf_340_1 xb_340_1
  rw [xe_340_2]
  rfl
theorem xc_340_1 : zCd 340 [0, 4, 13, 41, 42, 50, 56] 4 xb_340_1 := zc_iload_n xj_340 5 3 rfl rfl zf_ild_3 (zc_bipush xj_340 7 40 40 rfl rfl rfl (zc_ic_ge xj_340 10 49 56 rfl rfl rfl (zc_iconst xj_340 11 0 0 rfl rfl rfl (zc_istore xj_340 13 4 rfl rfl zf_ist_4 (xc_340_2)))))
noncomputable def xb_340_0 : List zF := zq_kl 0 :: zq_lst 1 :: zq_k 0 :: zq_istg zE3 :: xb_340_1
noncomputable def xf_340_0 : zE → zKn := fun E => zq_kl 0 (zq_lst 1 (zq_k 0 (zq_istg zE3 (xf_340_1 E) E) E) E) E
theorem xe_340_0 : xf_340_0 = zEx xb_340_0 := by
  unfold xf_340_0 xb_340_0
  rw [xe_340_1]
  rfl
theorem xc_340_0 : zCd 340 [0, 4, 13, 41, 42, 50, 56] 0 xb_340_0 := zc_lconst xj_340 1 0 rfl rfl (zc_lstore_n xj_340 2 1 rfl rfl rfl (zc_iconst xj_340 3 0 0 rfl rfl rfl (zc_istore_n xj_340 4 3 rfl rfl zf_ist_3 (xc_340_1))))
noncomputable def xm_340 : Lean.RArray (zE → zKn) := .branch 41 (.branch 4 (.leaf xf_340_0) (.branch 13 (.leaf xf_340_1) (.leaf xf_340_2))) (.branch 50 (.branch 42 (.leaf xf_340_3) (.leaf xf_340_4)) (.branch 56 (.leaf xf_340_5) (.leaf xf_340_6)))
theorem xa_340 : zCdAll 340 [0, 4, 13, 41, 42, 50, 56] xm_340 := zAll2_ok (P := fun t => ∃ c, zCd 340 [0, 4, 13, 41, 42, 50, 56] t c ∧ xm_340.get t = zEx c) ⟨⟨_, xc_340_0, xe_340_0⟩, ⟨_, xc_340_1, xe_340_1⟩, ⟨_, xc_340_2, xe_340_2⟩, ⟨_, xc_340_3, xe_340_3⟩, ⟨_, xc_340_4, xe_340_4⟩, ⟨_, xc_340_5, xe_340_5⟩, ⟨_, xc_340_6, xe_340_6⟩, trivial⟩
/-- SquareMeshModel.keepImage -/
theorem xj_341 : ∀ pc, pI 341 pc = pJ_341 pc := fun _ => rfl
noncomputable def xb_341_2 : List zF := [zq_vret]
noncomputable def xf_341_2 : zE → zKn := fun E => zq_vret (zNil) E
theorem xe_341_2 : xf_341_2 = zEx xb_341_2 := by
  unfold xf_341_2 xb_341_2
  rfl
theorem xc_341_2 : zCd 341 [0, 21, 46] 46 xb_341_2 := zc_return_ xj_341 47 rfl rfl (trivial)
noncomputable def xb_341_1 : List zF := [zq_ildg zG1, zq_aldg zG0, zq_getfg 9 zG4, zq_ic_ge 46, zq_aldg zG0, zq_getfg 9 zG17, zq_ildg zG1, zq_aldg zG0, zq_ildg zG1, zq_calli 221 1 9 2, zq_iast, zq_incg zG1 zE1 1, zq_goto 21]
noncomputable def xf_341_1 : zE → zKn := fun E => zq_ildg zG1 (zq_aldg zG0 (zq_getfg 9 zG4 (zq_ic_ge 46 (zq_aldg zG0 (zq_getfg 9 zG17 (zq_ildg zG1 (zq_aldg zG0 (zq_ildg zG1 (zq_calli 221 1 9 2 (zq_iast (zq_incg zG1 zE1 1 (zq_goto 21 (zNil) E) E) E) E) E) E) E) E) E) E) E) E) E
theorem xe_341_1 : xf_341_1 = zEx xb_341_1 := by
  unfold xf_341_1 xb_341_1
  rfl
theorem xc_341_1 : zCd 341 [0, 21, 46] 21 xb_341_1 := zc_iload_n xj_341 22 1 rfl rfl zf_ild_1 (zc_aload_n xj_341 23 0 rfl rfl zf_ald_0 (zc_getf xj_341 26 134 9 4 98 rfl rfl (zf_getf_4 _) (zc_ic_ge xj_341 29 20 46 rfl rfl rfl (zc_aload_n xj_341 30 0 rfl rfl zf_ald_0 (zc_getf xj_341 33 51 9 17 111 rfl rfl (zf_getf_17 _) (zc_iload_n xj_341 34 1 rfl rfl zf_ild_1 (zc_aload_n xj_341 35 0 rfl rfl zf_ald_0 (zc_iload_n xj_341 36 1 rfl rfl zf_ild_1 (zc_invokevirtual1 xj_341 39 153 221 1 280 9 2 rfl rfl rfl rfl (zc_iastore xj_341 40 rfl rfl (zc_iinc xj_341 43 1 1 1 rfl rfl rfl (zf_inc_1 _) (zc_goto xj_341 44 (-22) 21 rfl rfl rfl (trivial)))))))))))))
noncomputable def xb_341_0 : List zF := zq_aldg zG0 :: zq_getfg 9 zG0 :: zq_aldg zG0 :: zq_getfg 9 zG1 :: zq_cpall :: zq_aldg zG0 :: zq_aldg zG0 :: zq_getfg 9 zG4 :: zq_putf 9 18 0 :: zq_k 0 :: zq_istg zE1 :: xb_341_1
noncomputable def xf_341_0 : zE → zKn := fun E => zq_aldg zG0 (zq_getfg 9 zG0 (zq_aldg zG0 (zq_getfg 9 zG1 (zq_cpall (zq_aldg zG0 (zq_aldg zG0 (zq_getfg 9 zG4 (zq_putf 9 18 0 (zq_k 0 (zq_istg zE1 (xf_341_1 E) E) E) E) E) E) E) E) E) E) E) E
theorem xe_341_0 : xf_341_0 = zEx xb_341_0 := by
  unfold xf_341_0 xb_341_0
  rw [xe_341_1]
  rfl
theorem xc_341_0 : zCd 341 [0, 21, 46] 0 xb_341_0 := zc_aload_n xj_341 1 0 rfl rfl zf_ald_0 (zc_getf xj_341 4 8 9 0 94 rfl rfl (zf_getf_0 _) (zc_aload_n xj_341 5 0 rfl rfl zf_ald_0 (zc_getf xj_341 8 14 9 1 95 rfl rfl (zf_getf_1 _) (zc_any xj_341 11 (.invokestatic 388) [2, 187, 2, 282, 0, 3] rfl rfl (zq_cpall) rfl rfl (zc_aload_n xj_341 12 0 rfl rfl zf_ald_0 (zc_aload_n xj_341 13 0 rfl rfl zf_ald_0 (zc_getf xj_341 16 134 9 4 98 rfl rfl (zf_getf_4 _) (zc_putf xj_341 19 392 9 18 112 0 rfl rfl rfl (zc_iconst xj_341 20 0 0 rfl rfl rfl (zc_istore_n xj_341 21 1 rfl rfl zf_ist_1 (xc_341_1)))))))))))
noncomputable def xm_341 : Lean.RArray (zE → zKn) := .branch 21 (.leaf xf_341_0) (.branch 46 (.leaf xf_341_1) (.leaf xf_341_2))
theorem xa_341 : zCdAll 341 [0, 21, 46] xm_341 := zAll2_ok (P := fun t => ∃ c, zCd 341 [0, 21, 46] t c ∧ xm_341.get t = zEx c) ⟨⟨_, xc_341_0, xe_341_0⟩, ⟨_, xc_341_1, xe_341_1⟩, ⟨_, xc_341_2, xe_341_2⟩, trivial⟩
/-- SquareMeshModel.fresh -/
theorem xj_342 : ∀ pc, pI 342 pc = pJ_342 pc := fun _ => rfl
noncomputable def xb_342_4 : List zF := [zq_ildg zG1, zq_iret 0]
noncomputable def xf_342_4 : zE → zKn := fun E => zq_ildg zG1 (zq_iret 0 (zNil) E) E
theorem xe_342_4 : xf_342_4 = zEx xb_342_4 := by
  unfold xf_342_4 xb_342_4
  rfl
theorem xc_342_4 : zCd 342 [0, 4, 36, 37, 45] 45 xb_342_4 := zc_iload_n xj_342 46 1 rfl rfl zf_ild_1 (zc_ireturn0 xj_342 47 rfl rfl (trivial))
noncomputable def xb_342_3 : List zF := [zq_add, zq_istg zE1, zq_incg zG2 zE2 1, zq_goto 4]
noncomputable def xf_342_3 : zE → zKn := fun E => zq_add (zq_istg zE1 (zq_incg zG2 zE2 1 (zq_goto 4 (zNil) E) E) E) E
theorem xe_342_3 : xf_342_3 = zEx xb_342_3 := by
  unfold xf_342_3 xb_342_3
  rfl
theorem xc_342_3 : zCd 342 [0, 4, 36, 37, 45] 37 xb_342_3 := zc_iadd xj_342 38 rfl rfl (zc_istore_n xj_342 39 1 rfl rfl zf_ist_1 (zc_iinc xj_342 42 2 1 1 rfl rfl rfl (zf_inc_2 _) (zc_goto xj_342 43 (-38) 4 rfl rfl rfl (trivial))))
noncomputable def xb_342_2 : List zF := zq_k 1 :: xb_342_3
noncomputable def xf_342_2 : zE → zKn := fun E => zq_k 1 (xf_342_3 E) E
theorem xe_342_2 : xf_342_2 = zEx xb_342_2 := by
  unfold xf_342_2 xb_342_2
  rw [xe_342_3]
  rfl
theorem xc_342_2 : zCd 342 [0, 4, 36, 37, 45] 36 xb_342_2 := zc_iconst xj_342 37 1 1 rfl rfl rfl (xc_342_3)
noncomputable def xb_342_1 : List zF := [zq_ildg zG2, zq_aldg zG0, zq_getfg 9 zG4, zq_ic_ge 45, zq_ildg zG1, zq_aldg zG0, zq_getfg 9 zG17, zq_aldg zG0, zq_getfg 9 zG18, zq_aldg zG0, zq_ildg zG2, zq_calli 221 1 9 2, zq_calls 334 3 4, zq_if_eq 36, zq_k 0, zq_goto 37]
noncomputable def xf_342_1 : zE → zKn := fun E => zq_ildg zG2 (zq_aldg zG0 (zq_getfg 9 zG4 (zq_ic_ge 45 (zq_ildg zG1 (zq_aldg zG0 (zq_getfg 9 zG17 (zq_aldg zG0 (zq_getfg 9 zG18 (zq_aldg zG0 (zq_ildg zG2 (zq_calli 221 1 9 2 (zq_calls 334 3 4 (zq_if_eq 36 (zq_k 0 (zq_goto 37 (zNil) E) E) E) E) E) E) E) E) E) E) E) E) E) E) E) E
theorem xe_342_1 : xf_342_1 = zEx xb_342_1 := by
  unfold xf_342_1 xb_342_1
  rfl
theorem xc_342_1 : zCd 342 [0, 4, 36, 37, 45] 4 xb_342_1 := zc_iload_n xj_342 5 2 rfl rfl zf_ild_2 (zc_aload_n xj_342 6 0 rfl rfl zf_ald_0 (zc_getf xj_342 9 134 9 4 98 rfl rfl (zf_getf_4 _) (zc_ic_ge xj_342 12 36 45 rfl rfl rfl (zc_iload_n xj_342 13 1 rfl rfl zf_ild_1 (zc_aload_n xj_342 14 0 rfl rfl zf_ald_0 (zc_getf xj_342 17 51 9 17 111 rfl rfl (zf_getf_17 _) (zc_aload_n xj_342 18 0 rfl rfl zf_ald_0 (zc_getf xj_342 21 392 9 18 112 rfl rfl (zf_getf_18 _) (zc_aload_n xj_342 22 0 rfl rfl zf_ald_0 (zc_iload_n xj_342 23 2 rfl rfl zf_ild_2 (zc_invokevirtual1 xj_342 26 153 221 1 280 9 2 rfl rfl rfl rfl (zc_invokestatic2 xj_342 29 369 334 3 403 0 4 rfl rfl rfl rfl (zc_if_eq xj_342 32 7 36 rfl rfl rfl (zc_iconst xj_342 33 0 0 rfl rfl rfl (zc_goto xj_342 34 4 37 rfl rfl rfl (trivial))))))))))))))))
noncomputable def xb_342_0 : List zF := zq_k 0 :: zq_istg zE1 :: zq_k 0 :: zq_istg zE2 :: xb_342_1
noncomputable def xf_342_0 : zE → zKn := fun E => zq_k 0 (zq_istg zE1 (zq_k 0 (zq_istg zE2 (xf_342_1 E) E) E) E) E
theorem xe_342_0 : xf_342_0 = zEx xb_342_0 := by
  unfold xf_342_0 xb_342_0
  rw [xe_342_1]
  rfl
theorem xc_342_0 : zCd 342 [0, 4, 36, 37, 45] 0 xb_342_0 := zc_iconst xj_342 1 0 0 rfl rfl rfl (zc_istore_n xj_342 2 1 rfl rfl zf_ist_1 (zc_iconst xj_342 3 0 0 rfl rfl rfl (zc_istore_n xj_342 4 2 rfl rfl zf_ist_2 (xc_342_1))))
noncomputable def xm_342 : Lean.RArray (zE → zKn) := .branch 36 (.branch 4 (.leaf xf_342_0) (.leaf xf_342_1)) (.branch 37 (.leaf xf_342_2) (.branch 45 (.leaf xf_342_3) (.leaf xf_342_4)))
theorem xa_342 : zCdAll 342 [0, 4, 36, 37, 45] xm_342 := zAll2_ok (P := fun t => ∃ c, zCd 342 [0, 4, 36, 37, 45] t c ∧ xm_342.get t = zEx c) ⟨⟨_, xc_342_0, xe_342_0⟩, ⟨_, xc_342_1, xe_342_1⟩, ⟨_, xc_342_2, xe_342_2⟩, ⟨_, xc_342_3, xe_342_3⟩, ⟨_, xc_342_4, xe_342_4⟩, trivial⟩
/-- SquareMeshModel.image -/
theorem xj_343 : ∀ pc, pI 343 pc = pJ_343 pc := fun _ => rfl
noncomputable def xb_343_0 : List zF := [zq_aldg zG0, zq_calli 341 0 9 2, zq_aldg zG0, zq_calli 257 0 9 3, zq_iret 0]
noncomputable def xf_343_0 : zE → zKn := fun E => zq_aldg zG0 (zq_calli 341 0 9 2 (zq_aldg zG0 (zq_calli 257 0 9 3 (zq_iret 0 (zNil) E) E) E) E) E
theorem xe_343_0 : xf_343_0 = zEx xb_343_0 := by
  unfold xf_343_0 xb_343_0
  rfl
theorem xc_343_0 : zCd 343 [0] 0 xb_343_0 := zc_aload_n xj_343 1 0 rfl rfl zf_ald_0 (zc_invokevirtual1 xj_343 4 64 341 0 281 9 2 rfl rfl rfl rfl (zc_aload_n xj_343 5 0 rfl rfl zf_ald_0 (zc_invokevirtual1 xj_343 8 237 257 0 325 9 3 rfl rfl rfl rfl (zc_ireturn0 xj_343 9 rfl rfl (trivial)))))
noncomputable def xm_343 : Lean.RArray (zE → zKn) := .leaf xf_343_0
theorem xa_343 : zCdAll 343 [0] xm_343 := zAll2_ok (P := fun t => ∃ c, zCd 343 [0] t c ∧ xm_343.get t = zEx c) ⟨⟨_, xc_343_0, xe_343_0⟩, trivial⟩
/-- SquareMeshModel.back -/
theorem xj_344 : ∀ pc, pI 344 pc = pJ_344 pc := fun _ => rfl
noncomputable def xb_344_0 : List zF := [zq_aldg zG0, zq_getfg 9 zG1, zq_aldg zG0, zq_getfg 9 zG0, zq_cpall, zq_aldg zG0, zq_calli 219 0 9 5, zq_aldg zG0, zq_calli 257 0 9 3, zq_iret 0]
noncomputable def xf_344_0 : zE → zKn := fun E => zq_aldg zG0 (zq_getfg 9 zG1 (zq_aldg zG0 (zq_getfg 9 zG0 (zq_cpall (zq_aldg zG0 (zq_calli 219 0 9 5 (zq_aldg zG0 (zq_calli 257 0 9 3 (zq_iret 0 (zNil) E) E) E) E) E) E) E) E) E) E
theorem xe_344_0 : xf_344_0 = zEx xb_344_0 := by
  unfold xf_344_0 xb_344_0
  rfl
theorem xc_344_0 : zCd 344 [0] 0 xb_344_0 := zc_aload_n xj_344 1 0 rfl rfl zf_ald_0 (zc_getf xj_344 4 14 9 1 95 rfl rfl (zf_getf_1 _) (zc_aload_n xj_344 5 0 rfl rfl zf_ald_0 (zc_getf xj_344 8 8 9 0 94 rfl rfl (zf_getf_0 _) (zc_any xj_344 11 (.invokestatic 388) [2, 187, 2, 282, 0, 3] rfl rfl (zq_cpall) rfl rfl (zc_aload_n xj_344 12 0 rfl rfl zf_ald_0 (zc_invokevirtual1 xj_344 15 61 219 0 255 9 5 rfl rfl rfl rfl (zc_aload_n xj_344 16 0 rfl rfl zf_ald_0 (zc_invokevirtual1 xj_344 19 237 257 0 325 9 3 rfl rfl rfl rfl (zc_ireturn0 xj_344 20 rfl rfl (trivial))))))))))
noncomputable def xm_344 : Lean.RArray (zE → zKn) := .leaf xf_344_0
theorem xa_344 : zCdAll 344 [0] xm_344 := zAll2_ok (P := fun t => ∃ c, zCd 344 [0] t c ∧ xm_344.get t = zEx c) ⟨⟨_, xc_344_0, xe_344_0⟩, trivial⟩
/-- SquareMeshModel.steps -/
theorem xj_345 : ∀ pc, pI 345 pc = pJ_345 pc := fun _ => rfl
noncomputable def xb_345_0 : List zF := [zq_aldg zG0, zq_getfg 9 zG0, zq_k 0, zq_ild_ 0, zq_iret 0]
noncomputable def xf_345_0 : zE → zKn := fun E => zq_aldg zG0 (zq_getfg 9 zG0 (zq_k 0 (zq_ild_ 0 (zq_iret 0 (zNil) E) E) E) E) E
theorem xe_345_0 : xf_345_0 = zEx xb_345_0 := by
  unfold xf_345_0 xb_345_0
  rfl
theorem xc_345_0 : zCd 345 [0] 0 xb_345_0 := zc_aload_n xj_345 1 0 rfl rfl zf_ald_0 (zc_getf xj_345 4 8 9 0 94 rfl rfl (zf_getf_0 _) (zc_iconst xj_345 5 0 0 rfl rfl rfl (zc_iaload xj_345 6 rfl rfl (zc_ireturn0 xj_345 7 rfl rfl (trivial)))))
noncomputable def xm_345 : Lean.RArray (zE → zKn) := .leaf xf_345_0
theorem xa_345 : zCdAll 345 [0] xm_345 := zAll2_ok (P := fun t => ∃ c, zCd 345 [0] t c ∧ xm_345.get t = zEx c) ⟨⟨_, xc_345_0, xe_345_0⟩, trivial⟩
/-- java/lang/Double.isNaN -/
theorem xj_346 : ∀ pc, pI 346 pc = pJ_346 pc := fun _ => rfl
noncomputable def xb_346_2 : List zF := [zq_iret 1]
noncomputable def xf_346_2 : zE → zKn := fun E => zq_iret 1 (zNil) E
theorem xe_346_2 : xf_346_2 = zEx xb_346_2 := by
  unfold xf_346_2 xb_346_2
  rfl
theorem xc_346_2 : zCd 346 [0, 10, 11] 11 xb_346_2 := zc_ireturn1 xj_346 12 rfl rfl (trivial)
noncomputable def xb_346_1 : List zF := zq_k 0 :: xb_346_2
noncomputable def xf_346_1 : zE → zKn := fun E => zq_k 0 (xf_346_2 E) E
theorem xe_346_1 : xf_346_1 = zEx xb_346_1 := by
  unfold xf_346_1 xb_346_1
  rw [xe_346_2]
  rfl
theorem xc_346_1 : zCd 346 [0, 10, 11] 10 xb_346_1 := zc_iconst xj_346 11 0 0 rfl rfl rfl (xc_346_2)
noncomputable def xb_346_0 : List zF := [zq_bad, zq_bad, zq_bad, zq_if_eq 10, zq_k 1, zq_goto 11]
noncomputable def xf_346_0 : zE → zKn := fun E => zq_bad (zq_bad (zq_bad (zq_if_eq 10 (zq_k 1 (zq_goto 11 (zNil) E) E) E) E) E) E
theorem xe_346_0 : xf_346_0 = zEx xb_346_0 := by
  unfold xf_346_0 xb_346_0
  rfl
theorem xc_346_0 : zCd 346 [0, 10, 11] 0 xb_346_0 := zc_any xj_346 1 (.dload_n 0) [] rfl rfl (zq_bad) rfl rfl (zc_any xj_346 2 (.dload_n 0) [] rfl rfl (zq_bad) rfl rfl (zc_any xj_346 3 (.dcmp .l) [] rfl rfl (zq_bad) rfl rfl (zc_if_eq xj_346 6 7 10 rfl rfl rfl (zc_iconst xj_346 7 1 1 rfl rfl rfl (zc_goto xj_346 8 4 11 rfl rfl rfl (trivial))))))
noncomputable def xm_346 : Lean.RArray (zE → zKn) := .branch 10 (.leaf xf_346_0) (.branch 11 (.leaf xf_346_1) (.leaf xf_346_2))
theorem xa_346 : zCdAll 346 [0, 10, 11] xm_346 := zAll2_ok (P := fun t => ∃ c, zCd 346 [0, 10, 11] t c ∧ xm_346.get t = zEx c) ⟨⟨_, xc_346_0, xe_346_0⟩, ⟨_, xc_346_1, xe_346_1⟩, ⟨_, xc_346_2, xe_346_2⟩, trivial⟩
/-- java/lang/Double.doubleToLongBits -/
theorem xj_347 : ∀ pc, pI 347 pc = pJ_347 pc := fun _ => rfl
noncomputable def xb_347_1 : List zF := [zq_kl 9221120237041090560, zq_lret]
noncomputable def xf_347_1 : zE → zKn := fun E => zq_kl 9221120237041090560 (zq_lret (zNil) E) E
theorem xe_347_1 : xf_347_1 = zEx xb_347_1 := by
  unfold xf_347_1 xb_347_1
  rfl
theorem xc_347_1 : zCd 347 [0, 12] 12 xb_347_1 := zc_ldc2_w xj_347 15 137 9221120237041090560 8 rfl rfl rfl (zc_lreturn xj_347 16 rfl rfl (trivial))
noncomputable def xb_347_0 : List zF := [zq_bad, zq_calls 346 1 2, zq_if_ne 12, zq_bad, zq_bad, zq_lret]
noncomputable def xf_347_0 : zE → zKn := fun E => zq_bad (zq_calls 346 1 2 (zq_if_ne 12 (zq_bad (zq_bad (zq_lret (zNil) E) E) E) E) E) E
theorem xe_347_0 : xf_347_0 = zEx xb_347_0 := by
  unfold xf_347_0 xb_347_0
  rfl
theorem xc_347_0 : zCd 347 [0, 12] 0 xb_347_0 := zc_any xj_347 1 (.dload_n 0) [] rfl rfl (zq_bad) rfl rfl (zc_invokestatic2 xj_347 4 122 346 1 410 0 2 rfl rfl rfl rfl (zc_if_ne xj_347 7 8 12 rfl rfl rfl (zc_any xj_347 8 (.dload_n 0) [] rfl rfl (zq_bad) rfl rfl (zc_any xj_347 11 (.invokestatic 134) [8, 0, 1, 411, 0, 0] rfl rfl (zq_bad) rfl rfl (zc_lreturn xj_347 12 rfl rfl (trivial))))))
noncomputable def xm_347 : Lean.RArray (zE → zKn) := .branch 12 (.leaf xf_347_0) (.leaf xf_347_1)
theorem xa_347 : zCdAll 347 [0, 12] xm_347 := zAll2_ok (P := fun t => ∃ c, zCd 347 [0, 12] t c ∧ xm_347.get t = zEx c) ⟨⟨_, xc_347_0, xe_347_0⟩, ⟨_, xc_347_1, xe_347_1⟩, trivial⟩
/-- java/lang/Integer.compare -/
theorem xj_348 : ∀ pc, pI 348 pc = pJ_348 pc := fun _ => rfl
noncomputable def xb_348_3 : List zF := [zq_iret 0]
noncomputable def xf_348_3 : zE → zKn := fun E => zq_iret 0 (zNil) E
theorem xe_348_3 : xf_348_3 = zEx xb_348_3 := by
  unfold xf_348_3 xb_348_3
  rfl
theorem xc_348_3 : zCd 348 [0, 9, 18, 19] 19 xb_348_3 := zc_ireturn0 xj_348 20 rfl rfl (trivial)
noncomputable def xb_348_2 : List zF := zq_k 1 :: xb_348_3
noncomputable def xf_348_2 : zE → zKn := fun E => zq_k 1 (xf_348_3 E) E
theorem xe_348_2 : xf_348_2 = zEx xb_348_2 := by
  unfold xf_348_2 xb_348_2
  rw [xe_348_3]
  rfl
theorem xc_348_2 : zCd 348 [0, 9, 18, 19] 18 xb_348_2 := zc_iconst xj_348 19 1 1 rfl rfl rfl (xc_348_3)
noncomputable def xb_348_1 : List zF := [zq_ildg zG0, zq_ildg zG1, zq_ic_ne 18, zq_k 0, zq_goto 19]
noncomputable def xf_348_1 : zE → zKn := fun E => zq_ildg zG0 (zq_ildg zG1 (zq_ic_ne 18 (zq_k 0 (zq_goto 19 (zNil) E) E) E) E) E
theorem xe_348_1 : xf_348_1 = zEx xb_348_1 := by
  unfold xf_348_1 xb_348_1
  rfl
theorem xc_348_1 : zCd 348 [0, 9, 18, 19] 9 xb_348_1 := zc_iload_n xj_348 10 0 rfl rfl zf_ild_0 (zc_iload_n xj_348 11 1 rfl rfl zf_ild_1 (zc_ic_ne xj_348 14 7 18 rfl rfl rfl (zc_iconst xj_348 15 0 0 rfl rfl rfl (zc_goto xj_348 16 4 19 rfl rfl rfl (trivial)))))
noncomputable def xb_348_0 : List zF := [zq_ildg zG0, zq_ildg zG1, zq_ic_ge 9, zq_k 4294967295, zq_goto 19]
noncomputable def xf_348_0 : zE → zKn := fun E => zq_ildg zG0 (zq_ildg zG1 (zq_ic_ge 9 (zq_k 4294967295 (zq_goto 19 (zNil) E) E) E) E) E
theorem xe_348_0 : xf_348_0 = zEx xb_348_0 := by
  unfold xf_348_0 xb_348_0
  rfl
theorem xc_348_0 : zCd 348 [0, 9, 18, 19] 0 xb_348_0 := zc_iload_n xj_348 1 0 rfl rfl zf_ild_0 (zc_iload_n xj_348 2 1 rfl rfl zf_ild_1 (zc_ic_ge xj_348 5 7 9 rfl rfl rfl (zc_iconst xj_348 6 (-1) 4294967295 rfl rfl rfl (zc_goto xj_348 7 13 19 rfl rfl rfl (trivial)))))
noncomputable def xm_348 : Lean.RArray (zE → zKn) := .branch 18 (.branch 9 (.leaf xf_348_0) (.leaf xf_348_1)) (.branch 19 (.leaf xf_348_2) (.leaf xf_348_3))
theorem xa_348 : zCdAll 348 [0, 9, 18, 19] xm_348 := zAll2_ok (P := fun t => ∃ c, zCd 348 [0, 9, 18, 19] t c ∧ xm_348.get t = zEx c) ⟨⟨_, xc_348_0, xe_348_0⟩, ⟨_, xc_348_1, xe_348_1⟩, ⟨_, xc_348_2, xe_348_2⟩, ⟨_, xc_348_3, xe_348_3⟩, trivial⟩
/-- java/lang/Long.compare -/
theorem xj_349 : ∀ pc, pI 349 pc = pJ_349 pc := fun _ => rfl
noncomputable def xb_349_3 : List zF := [zq_iret 0]
noncomputable def xf_349_3 : zE → zKn := fun E => zq_iret 0 (zNil) E
theorem xe_349_3 : xf_349_3 = zEx xb_349_3 := by
  unfold xf_349_3 xb_349_3
  rfl
theorem xc_349_3 : zCd 349 [0, 10, 20, 21] 21 xb_349_3 := zc_ireturn0 xj_349 22 rfl rfl (trivial)
noncomputable def xb_349_2 : List zF := zq_k 1 :: xb_349_3
noncomputable def xf_349_2 : zE → zKn := fun E => zq_k 1 (xf_349_3 E) E
theorem xe_349_2 : xf_349_2 = zEx xb_349_2 := by
  unfold xf_349_2 xb_349_2
  rw [xe_349_3]
  rfl
theorem xc_349_2 : zCd 349 [0, 10, 20, 21] 20 xb_349_2 := zc_iconst xj_349 21 1 1 rfl rfl rfl (xc_349_3)
noncomputable def xb_349_1 : List zF := [zq_lldg zG0, zq_lldg zG2, zq_lcmp, zq_if_ne 20, zq_k 0, zq_goto 21]
noncomputable def xf_349_1 : zE → zKn := fun E => zq_lldg zG0 (zq_lldg zG2 (zq_lcmp (zq_if_ne 20 (zq_k 0 (zq_goto 21 (zNil) E) E) E) E) E) E
theorem xe_349_1 : xf_349_1 = zEx xb_349_1 := by
  unfold xf_349_1 xb_349_1
  rfl
theorem xc_349_1 : zCd 349 [0, 10, 20, 21] 10 xb_349_1 := zc_lload_n xj_349 11 0 rfl rfl zf_lld_0 (zc_lload_n xj_349 12 2 rfl rfl zf_lld_2 (zc_lcmp xj_349 13 rfl rfl (zc_if_ne xj_349 16 7 20 rfl rfl rfl (zc_iconst xj_349 17 0 0 rfl rfl rfl (zc_goto xj_349 18 4 21 rfl rfl rfl (trivial))))))
noncomputable def xb_349_0 : List zF := [zq_lldg zG0, zq_lldg zG2, zq_lcmp, zq_if_ge 10, zq_k 4294967295, zq_goto 21]
noncomputable def xf_349_0 : zE → zKn := fun E => zq_lldg zG0 (zq_lldg zG2 (zq_lcmp (zq_if_ge 10 (zq_k 4294967295 (zq_goto 21 (zNil) E) E) E) E) E) E
theorem xe_349_0 : xf_349_0 = zEx xb_349_0 := by
  unfold xf_349_0 xb_349_0
  rfl
theorem xc_349_0 : zCd 349 [0, 10, 20, 21] 0 xb_349_0 := zc_lload_n xj_349 1 0 rfl rfl zf_lld_0 (zc_lload_n xj_349 2 2 rfl rfl zf_lld_2 (zc_lcmp xj_349 3 rfl rfl (zc_if_ge xj_349 6 7 10 rfl rfl rfl (zc_iconst xj_349 7 (-1) 4294967295 rfl rfl rfl (zc_goto xj_349 8 14 21 rfl rfl rfl (trivial))))))
noncomputable def xm_349 : Lean.RArray (zE → zKn) := .branch 20 (.branch 10 (.leaf xf_349_0) (.leaf xf_349_1)) (.branch 21 (.leaf xf_349_2) (.leaf xf_349_3))
theorem xa_349 : zCdAll 349 [0, 10, 20, 21] xm_349 := zAll2_ok (P := fun t => ∃ c, zCd 349 [0, 10, 20, 21] t c ∧ xm_349.get t = zEx c) ⟨⟨_, xc_349_0, xe_349_0⟩, ⟨_, xc_349_1, xe_349_1⟩, ⟨_, xc_349_2, xe_349_2⟩, ⟨_, xc_349_3, xe_349_3⟩, trivial⟩
/-- java/lang/Long.bitCount -/
theorem xj_350 : ∀ pc, pI 350 pc = pJ_350 pc := fun _ => rfl
noncomputable def xb_350_0 : List zF := [zq_lldg zG0, zq_lldg zG0, zq_k 1, zq_lushr, zq_kl 6148914691236517205, zq_land, zq_lsub, zq_lst 0, zq_lldg zG0, zq_kl 3689348814741910323, zq_land, zq_lldg zG0, zq_k 2, zq_lushr, zq_kl 3689348814741910323, zq_land, zq_ladd, zq_lst 0, zq_lldg zG0, zq_lldg zG0, zq_k 4, zq_lushr, zq_ladd, zq_kl 1085102592571150095, zq_land, zq_lst 0, zq_lldg zG0, zq_lldg zG0, zq_k 8, zq_lushr, zq_ladd, zq_lst 0, zq_lldg zG0, zq_lldg zG0, zq_k 16, zq_lushr, zq_ladd, zq_lst 0, zq_lldg zG0, zq_lldg zG0, zq_k 32, zq_lushr, zq_ladd, zq_lst 0, zq_lldg zG0, zq_l2i, zq_k 127, zq_and, zq_iret 0]
noncomputable def xf_350_0 : zE → zKn := fun E => zq_lldg zG0 (zq_lldg zG0 (zq_k 1 (zq_lushr (zq_kl 6148914691236517205 (zq_land (zq_lsub (zq_lst 0 (zq_lldg zG0 (zq_kl 3689348814741910323 (zq_land (zq_lldg zG0 (zq_k 2 (zq_lushr (zq_kl 3689348814741910323 (zq_land (zq_ladd (zq_lst 0 (zq_lldg zG0 (zq_lldg zG0 (zq_k 4 (zq_lushr (zq_ladd (zq_kl 1085102592571150095 (zq_land (zq_lst 0 (zq_lldg zG0 (zq_lldg zG0 (zq_k 8 (zq_lushr (zq_ladd (zq_lst 0 (zq_lldg zG0 (zq_lldg zG0 (zq_k 16 (zq_lushr (zq_ladd (zq_lst 0 (zq_lldg zG0 (zq_lldg zG0 (zq_k 32 (zq_lushr (zq_ladd (zq_lst 0 (zq_lldg zG0 (zq_l2i (zq_k 127 (zq_and (zq_iret 0 (zNil) E) E) E) E) E) E) E) E) E) E) E) E) E) E) E) E) E) E) E) E) E) E) E) E) E) E) E) E) E) E) E) E) E) E) E) E) E) E) E) E) E) E) E) E) E) E) E) E) E
set_option maxRecDepth 100000 in
theorem xe_350_0 : xf_350_0 = zEx xb_350_0 := by
  unfold xf_350_0 xb_350_0
  rfl
theorem xc_350_0 : zCd 350 [0] 0 xb_350_0 := zc_lload_n xj_350 1 0 rfl rfl zf_lld_0 (zc_lload_n xj_350 2 0 rfl rfl zf_lld_0 (zc_iconst xj_350 3 1 1 rfl rfl rfl (zc_lushr xj_350 4 rfl rfl (zc_ldc2_w xj_350 7 314 6148914691236517205 2 rfl rfl rfl (zc_land xj_350 8 rfl rfl (zc_lsub xj_350 9 rfl rfl (zc_lstore_n xj_350 10 0 rfl rfl rfl (zc_lload_n xj_350 11 0 rfl rfl zf_lld_0 (zc_ldc2_w xj_350 14 316 3689348814741910323 3 rfl rfl rfl (zc_land xj_350 15 rfl rfl (zc_lload_n xj_350 16 0 rfl rfl zf_lld_0 (zc_iconst xj_350 17 2 2 rfl rfl rfl (zc_lushr xj_350 18 rfl rfl (zc_ldc2_w xj_350 21 316 3689348814741910323 3 rfl rfl rfl (zc_land xj_350 22 rfl rfl (zc_ladd xj_350 23 rfl rfl (zc_lstore_n xj_350 24 0 rfl rfl rfl (zc_lload_n xj_350 25 0 rfl rfl zf_lld_0 (zc_lload_n xj_350 26 0 rfl rfl zf_lld_0 (zc_iconst xj_350 27 4 4 rfl rfl rfl (zc_lushr xj_350 28 rfl rfl (zc_ladd xj_350 29 rfl rfl (zc_ldc2_w xj_350 32 318 1085102592571150095 4 rfl rfl rfl (zc_land xj_350 33 rfl rfl (zc_lstore_n xj_350 34 0 rfl rfl rfl (zc_lload_n xj_350 35 0 rfl rfl zf_lld_0 (zc_lload_n xj_350 36 0 rfl rfl zf_lld_0 (zc_bipush xj_350 38 8 8 rfl rfl rfl (zc_lushr xj_350 39 rfl rfl (zc_ladd xj_350 40 rfl rfl (zc_lstore_n xj_350 41 0 rfl rfl rfl (zc_lload_n xj_350 42 0 rfl rfl zf_lld_0 (zc_lload_n xj_350 43 0 rfl rfl zf_lld_0 (zc_bipush xj_350 45 16 16 rfl rfl rfl (zc_lushr xj_350 46 rfl rfl (zc_ladd xj_350 47 rfl rfl (zc_lstore_n xj_350 48 0 rfl rfl rfl (zc_lload_n xj_350 49 0 rfl rfl zf_lld_0 (zc_lload_n xj_350 50 0 rfl rfl zf_lld_0 (zc_bipush xj_350 52 32 32 rfl rfl rfl (zc_lushr xj_350 53 rfl rfl (zc_ladd xj_350 54 rfl rfl (zc_lstore_n xj_350 55 0 rfl rfl rfl (zc_lload_n xj_350 56 0 rfl rfl zf_lld_0 (zc_l2i xj_350 57 rfl rfl (zc_bipush xj_350 59 127 127 rfl rfl rfl (zc_iand xj_350 60 rfl rfl (zc_ireturn0 xj_350 61 rfl rfl (trivial)))))))))))))))))))))))))))))))))))))))))))))))))
noncomputable def xm_350 : Lean.RArray (zE → zKn) := .leaf xf_350_0
theorem xa_350 : zCdAll 350 [0] xm_350 := zAll2_ok (P := fun t => ∃ c, zCd 350 [0] t c ∧ xm_350.get t = zEx c) ⟨⟨_, xc_350_0, xe_350_0⟩, trivial⟩
/-- java/lang/Math.floorDiv -/
theorem xj_351 : ∀ pc, pI 351 pc = pJ_351 pc := fun _ => rfl
noncomputable def xb_351_1 : List zF := [zq_ildg zG2, zq_iret 0]
noncomputable def xf_351_1 : zE → zKn := fun E => zq_ildg zG2 (zq_iret 0 (zNil) E) E
theorem xe_351_1 : xf_351_1 = zEx xb_351_1 := by
  unfold xf_351_1 xb_351_1
  rfl
theorem xc_351_1 : zCd 351 [0, 21] 21 xb_351_1 := zc_iload_n xj_351 22 2 rfl rfl zf_ild_2 (zc_ireturn0 xj_351 23 rfl rfl (trivial))
noncomputable def xb_351_0 : List zF := [zq_ildg zG0, zq_ildg zG1, zq_div, zq_istg zE2, zq_ildg zG0, zq_ildg zG1, zq_xor, zq_if_ge 21, zq_ildg zG2, zq_ildg zG1, zq_mul, zq_ildg zG0, zq_ic_eq 21, zq_ildg zG2, zq_k 1, zq_sub, zq_iret 0]
noncomputable def xf_351_0 : zE → zKn := fun E => zq_ildg zG0 (zq_ildg zG1 (zq_div (zq_istg zE2 (zq_ildg zG0 (zq_ildg zG1 (zq_xor (zq_if_ge 21 (zq_ildg zG2 (zq_ildg zG1 (zq_mul (zq_ildg zG0 (zq_ic_eq 21 (zq_ildg zG2 (zq_k 1 (zq_sub (zq_iret 0 (zNil) E) E) E) E) E) E) E) E) E) E) E) E) E) E) E) E) E
theorem xe_351_0 : xf_351_0 = zEx xb_351_0 := by
  unfold xf_351_0 xb_351_0
  rfl
theorem xc_351_0 : zCd 351 [0, 21] 0 xb_351_0 := zc_iload_n xj_351 1 0 rfl rfl zf_ild_0 (zc_iload_n xj_351 2 1 rfl rfl zf_ild_1 (zc_idiv xj_351 3 rfl rfl (zc_istore_n xj_351 4 2 rfl rfl zf_ist_2 (zc_iload_n xj_351 5 0 rfl rfl zf_ild_0 (zc_iload_n xj_351 6 1 rfl rfl zf_ild_1 (zc_ixor xj_351 7 rfl rfl (zc_if_ge xj_351 10 14 21 rfl rfl rfl (zc_iload_n xj_351 11 2 rfl rfl zf_ild_2 (zc_iload_n xj_351 12 1 rfl rfl zf_ild_1 (zc_imul xj_351 13 rfl rfl (zc_iload_n xj_351 14 0 rfl rfl zf_ild_0 (zc_ic_eq xj_351 17 7 21 rfl rfl rfl (zc_iload_n xj_351 18 2 rfl rfl zf_ild_2 (zc_iconst xj_351 19 1 1 rfl rfl rfl (zc_isub xj_351 20 rfl rfl (zc_ireturn0 xj_351 21 rfl rfl (trivial)))))))))))))))))
noncomputable def xm_351 : Lean.RArray (zE → zKn) := .branch 21 (.leaf xf_351_0) (.leaf xf_351_1)
theorem xa_351 : zCdAll 351 [0, 21] xm_351 := zAll2_ok (P := fun t => ∃ c, zCd 351 [0, 21] t c ∧ xm_351.get t = zEx c) ⟨⟨_, xc_351_0, xe_351_0⟩, ⟨_, xc_351_1, xe_351_1⟩, trivial⟩
/-- java/lang/Math.floorDiv -/
theorem xj_352 : ∀ pc, pI 352 pc = pJ_352 pc := fun _ => rfl
noncomputable def xb_352_1 : List zF := [zq_lldg zG4, zq_lret]
noncomputable def xf_352_1 : zE → zKn := fun E => zq_lldg zG4 (zq_lret (zNil) E) E
theorem xe_352_1 : xf_352_1 = zEx xb_352_1 := by
  unfold xf_352_1 xb_352_1
  rfl
theorem xc_352_1 : zCd 352 [0, 27] 27 xb_352_1 := zc_lload xj_352 29 4 rfl rfl zf_lld_4 (zc_lreturn xj_352 30 rfl rfl (trivial))
noncomputable def xb_352_0 : List zF := [zq_lldg zG0, zq_lldg zG2, zq_ldiv, zq_lst 4, zq_lldg zG0, zq_lldg zG2, zq_lxor, zq_kl 0, zq_lcmp, zq_if_ge 27, zq_lldg zG4, zq_lldg zG2, zq_lmul, zq_lldg zG0, zq_lcmp, zq_if_eq 27, zq_lldg zG4, zq_kl 1, zq_lsub, zq_lret]
noncomputable def xf_352_0 : zE → zKn := fun E => zq_lldg zG0 (zq_lldg zG2 (zq_ldiv (zq_lst 4 (zq_lldg zG0 (zq_lldg zG2 (zq_lxor (zq_kl 0 (zq_lcmp (zq_if_ge 27 (zq_lldg zG4 (zq_lldg zG2 (zq_lmul (zq_lldg zG0 (zq_lcmp (zq_if_eq 27 (zq_lldg zG4 (zq_kl 1 (zq_lsub (zq_lret (zNil) E) E) E) E) E) E) E) E) E) E) E) E) E) E) E) E) E) E) E) E
theorem xe_352_0 : xf_352_0 = zEx xb_352_0 := by
  unfold xf_352_0 xb_352_0
  rfl
theorem xc_352_0 : zCd 352 [0, 27] 0 xb_352_0 := zc_lload_n xj_352 1 0 rfl rfl zf_lld_0 (zc_lload_n xj_352 2 2 rfl rfl zf_lld_2 (zc_ldiv xj_352 3 rfl rfl (zc_lstore xj_352 5 4 rfl rfl rfl (zc_lload_n xj_352 6 0 rfl rfl zf_lld_0 (zc_lload_n xj_352 7 2 rfl rfl zf_lld_2 (zc_lxor xj_352 8 rfl rfl (zc_lconst xj_352 9 0 rfl rfl (zc_lcmp xj_352 10 rfl rfl (zc_if_ge xj_352 13 17 27 rfl rfl rfl (zc_lload xj_352 15 4 rfl rfl zf_lld_4 (zc_lload_n xj_352 16 2 rfl rfl zf_lld_2 (zc_lmul xj_352 17 rfl rfl (zc_lload_n xj_352 18 0 rfl rfl zf_lld_0 (zc_lcmp xj_352 19 rfl rfl (zc_if_eq xj_352 22 8 27 rfl rfl rfl (zc_lload xj_352 24 4 rfl rfl zf_lld_4 (zc_lconst xj_352 25 1 rfl rfl (zc_lsub xj_352 26 rfl rfl (zc_lreturn xj_352 27 rfl rfl (trivial))))))))))))))))))))
noncomputable def xm_352 : Lean.RArray (zE → zKn) := .branch 27 (.leaf xf_352_0) (.leaf xf_352_1)
theorem xa_352 : zCdAll 352 [0, 27] xm_352 := zAll2_ok (P := fun t => ∃ c, zCd 352 [0, 27] t c ∧ xm_352.get t = zEx c) ⟨⟨_, xc_352_0, xe_352_0⟩, ⟨_, xc_352_1, xe_352_1⟩, trivial⟩
/-- java/lang/Math.abs -/
theorem xj_353 : ∀ pc, pI 353 pc = pJ_353 pc := fun _ => rfl
noncomputable def xb_353_2 : List zF := [zq_iret 0]
noncomputable def xf_353_2 : zE → zKn := fun E => zq_iret 0 (zNil) E
theorem xe_353_2 : xf_353_2 = zEx xb_353_2 := by
  unfold xf_353_2 xb_353_2
  rfl
theorem xc_353_2 : zCd 353 [0, 9, 10] 10 xb_353_2 := zc_ireturn0 xj_353 11 rfl rfl (trivial)
noncomputable def xb_353_1 : List zF := zq_ildg zG0 :: xb_353_2
noncomputable def xf_353_1 : zE → zKn := fun E => zq_ildg zG0 (xf_353_2 E) E
theorem xe_353_1 : xf_353_1 = zEx xb_353_1 := by
  unfold xf_353_1 xb_353_1
  rw [xe_353_2]
  rfl
theorem xc_353_1 : zCd 353 [0, 9, 10] 9 xb_353_1 := zc_iload_n xj_353 10 0 rfl rfl zf_ild_0 (xc_353_2)
noncomputable def xb_353_0 : List zF := [zq_ildg zG0, zq_if_ge 9, zq_ildg zG0, zq_neg, zq_goto 10]
noncomputable def xf_353_0 : zE → zKn := fun E => zq_ildg zG0 (zq_if_ge 9 (zq_ildg zG0 (zq_neg (zq_goto 10 (zNil) E) E) E) E) E
theorem xe_353_0 : xf_353_0 = zEx xb_353_0 := by
  unfold xf_353_0 xb_353_0
  rfl
theorem xc_353_0 : zCd 353 [0, 9, 10] 0 xb_353_0 := zc_iload_n xj_353 1 0 rfl rfl zf_ild_0 (zc_if_ge xj_353 4 8 9 rfl rfl rfl (zc_iload_n xj_353 5 0 rfl rfl zf_ild_0 (zc_ineg xj_353 6 rfl rfl (zc_goto xj_353 7 4 10 rfl rfl rfl (trivial)))))
noncomputable def xm_353 : Lean.RArray (zE → zKn) := .branch 9 (.leaf xf_353_0) (.branch 10 (.leaf xf_353_1) (.leaf xf_353_2))
theorem xa_353 : zCdAll 353 [0, 9, 10] xm_353 := zAll2_ok (P := fun t => ∃ c, zCd 353 [0, 9, 10] t c ∧ xm_353.get t = zEx c) ⟨⟨_, xc_353_0, xe_353_0⟩, ⟨_, xc_353_1, xe_353_1⟩, ⟨_, xc_353_2, xe_353_2⟩, trivial⟩
/-- java/lang/Math.max -/
theorem xj_354 : ∀ pc, pI 354 pc = pJ_354 pc := fun _ => rfl
noncomputable def xb_354_2 : List zF := [zq_iret 0]
noncomputable def xf_354_2 : zE → zKn := fun E => zq_iret 0 (zNil) E
theorem xe_354_2 : xf_354_2 = zEx xb_354_2 := by
  unfold xf_354_2 xb_354_2
  rfl
theorem xc_354_2 : zCd 354 [0, 9, 10] 10 xb_354_2 := zc_ireturn0 xj_354 11 rfl rfl (trivial)
noncomputable def xb_354_1 : List zF := zq_ildg zG1 :: xb_354_2
noncomputable def xf_354_1 : zE → zKn := fun E => zq_ildg zG1 (xf_354_2 E) E
theorem xe_354_1 : xf_354_1 = zEx xb_354_1 := by
  unfold xf_354_1 xb_354_1
  rw [xe_354_2]
  rfl
theorem xc_354_1 : zCd 354 [0, 9, 10] 9 xb_354_1 := zc_iload_n xj_354 10 1 rfl rfl zf_ild_1 (xc_354_2)
noncomputable def xb_354_0 : List zF := [zq_ildg zG0, zq_ildg zG1, zq_ic_lt 9, zq_ildg zG0, zq_goto 10]
noncomputable def xf_354_0 : zE → zKn := fun E => zq_ildg zG0 (zq_ildg zG1 (zq_ic_lt 9 (zq_ildg zG0 (zq_goto 10 (zNil) E) E) E) E) E
theorem xe_354_0 : xf_354_0 = zEx xb_354_0 := by
  unfold xf_354_0 xb_354_0
  rfl
theorem xc_354_0 : zCd 354 [0, 9, 10] 0 xb_354_0 := zc_iload_n xj_354 1 0 rfl rfl zf_ild_0 (zc_iload_n xj_354 2 1 rfl rfl zf_ild_1 (zc_ic_lt xj_354 5 7 9 rfl rfl rfl (zc_iload_n xj_354 6 0 rfl rfl zf_ild_0 (zc_goto xj_354 7 4 10 rfl rfl rfl (trivial)))))
noncomputable def xm_354 : Lean.RArray (zE → zKn) := .branch 9 (.leaf xf_354_0) (.branch 10 (.leaf xf_354_1) (.leaf xf_354_2))
theorem xa_354 : zCdAll 354 [0, 9, 10] xm_354 := zAll2_ok (P := fun t => ∃ c, zCd 354 [0, 9, 10] t c ∧ xm_354.get t = zEx c) ⟨⟨_, xc_354_0, xe_354_0⟩, ⟨_, xc_354_1, xe_354_1⟩, ⟨_, xc_354_2, xe_354_2⟩, trivial⟩
/-- java/util/Arrays.fill -/
theorem xj_355 : ∀ pc, pI 355 pc = pJ_355 pc := fun _ => rfl
noncomputable def xb_355_2 : List zF := [zq_vret]
noncomputable def xf_355_2 : zE → zKn := fun E => zq_vret (zNil) E
theorem xe_355_2 : xf_355_2 = zEx xb_355_2 := by
  unfold xf_355_2 xb_355_2
  rfl
theorem xc_355_2 : zCd 355 [0, 6, 22] 22 xb_355_2 := zc_return_ xj_355 23 rfl rfl (trivial)
noncomputable def xb_355_1 : List zF := [zq_ildg zG3, zq_ildg zG4, zq_ic_ge 22, zq_aldg zG0, zq_ildg zG3, zq_lldg zG1, zq_last, zq_incg zG3 zE3 1, zq_goto 6]
noncomputable def xf_355_1 : zE → zKn := fun E => zq_ildg zG3 (zq_ildg zG4 (zq_ic_ge 22 (zq_aldg zG0 (zq_ildg zG3 (zq_lldg zG1 (zq_last (zq_incg zG3 zE3 1 (zq_goto 6 (zNil) E) E) E) E) E) E) E) E) E
theorem xe_355_1 : xf_355_1 = zEx xb_355_1 := by
  unfold xf_355_1 xb_355_1
  rfl
theorem xc_355_1 : zCd 355 [0, 6, 22] 6 xb_355_1 := zc_iload_n xj_355 7 3 rfl rfl zf_ild_3 (zc_iload xj_355 9 4 rfl rfl zf_ild_4 (zc_ic_ge xj_355 12 13 22 rfl rfl rfl (zc_aload_n xj_355 13 0 rfl rfl zf_ald_0 (zc_iload_n xj_355 14 3 rfl rfl zf_ild_3 (zc_lload_n xj_355 15 1 rfl rfl zf_lld_1 (zc_lastore xj_355 16 rfl rfl (zc_iinc xj_355 19 3 1 1 rfl rfl rfl (zf_inc_3 _) (zc_goto xj_355 20 (-13) 6 rfl rfl rfl (trivial)))))))))
noncomputable def xb_355_0 : List zF := zq_k 0 :: zq_istg zE3 :: zq_aldg zG0 :: zq_len :: zq_istg zE4 :: xb_355_1
noncomputable def xf_355_0 : zE → zKn := fun E => zq_k 0 (zq_istg zE3 (zq_aldg zG0 (zq_len (zq_istg zE4 (xf_355_1 E) E) E) E) E) E
theorem xe_355_0 : xf_355_0 = zEx xb_355_0 := by
  unfold xf_355_0 xb_355_0
  rw [xe_355_1]
  rfl
theorem xc_355_0 : zCd 355 [0, 6, 22] 0 xb_355_0 := zc_iconst xj_355 1 0 0 rfl rfl rfl (zc_istore_n xj_355 2 3 rfl rfl zf_ist_3 (zc_aload_n xj_355 3 0 rfl rfl zf_ald_0 (zc_arraylength xj_355 4 rfl rfl (zc_istore xj_355 6 4 rfl rfl zf_ist_4 (xc_355_1)))))
noncomputable def xm_355 : Lean.RArray (zE → zKn) := .branch 6 (.leaf xf_355_0) (.branch 22 (.leaf xf_355_1) (.leaf xf_355_2))
theorem xa_355 : zCdAll 355 [0, 6, 22] xm_355 := zAll2_ok (P := fun t => ∃ c, zCd 355 [0, 6, 22] t c ∧ xm_355.get t = zEx c) ⟨⟨_, xc_355_0, xe_355_0⟩, ⟨_, xc_355_1, xe_355_1⟩, ⟨_, xc_355_2, xe_355_2⟩, trivial⟩
/-- java/util/Arrays.fill -/
theorem xj_356 : ∀ pc, pI 356 pc = pJ_356 pc := fun _ => rfl
noncomputable def xb_356_2 : List zF := [zq_vret]
noncomputable def xf_356_2 : zE → zKn := fun E => zq_vret (zNil) E
theorem xe_356_2 : xf_356_2 = zEx xb_356_2 := by
  unfold xf_356_2 xb_356_2
  rfl
theorem xc_356_2 : zCd 356 [0, 5, 20] 20 xb_356_2 := zc_return_ xj_356 21 rfl rfl (trivial)
noncomputable def xb_356_1 : List zF := [zq_ildg zG2, zq_ildg zG3, zq_ic_ge 20, zq_aldg zG0, zq_ildg zG2, zq_ildg zG1, zq_iast, zq_incg zG2 zE2 1, zq_goto 5]
noncomputable def xf_356_1 : zE → zKn := fun E => zq_ildg zG2 (zq_ildg zG3 (zq_ic_ge 20 (zq_aldg zG0 (zq_ildg zG2 (zq_ildg zG1 (zq_iast (zq_incg zG2 zE2 1 (zq_goto 5 (zNil) E) E) E) E) E) E) E) E) E
theorem xe_356_1 : xf_356_1 = zEx xb_356_1 := by
  unfold xf_356_1 xb_356_1
  rfl
theorem xc_356_1 : zCd 356 [0, 5, 20] 5 xb_356_1 := zc_iload_n xj_356 6 2 rfl rfl zf_ild_2 (zc_iload_n xj_356 7 3 rfl rfl zf_ild_3 (zc_ic_ge xj_356 10 13 20 rfl rfl rfl (zc_aload_n xj_356 11 0 rfl rfl zf_ald_0 (zc_iload_n xj_356 12 2 rfl rfl zf_ild_2 (zc_iload_n xj_356 13 1 rfl rfl zf_ild_1 (zc_iastore xj_356 14 rfl rfl (zc_iinc xj_356 17 2 1 1 rfl rfl rfl (zf_inc_2 _) (zc_goto xj_356 18 (-12) 5 rfl rfl rfl (trivial)))))))))
noncomputable def xb_356_0 : List zF := zq_k 0 :: zq_istg zE2 :: zq_aldg zG0 :: zq_len :: zq_istg zE3 :: xb_356_1
noncomputable def xf_356_0 : zE → zKn := fun E => zq_k 0 (zq_istg zE2 (zq_aldg zG0 (zq_len (zq_istg zE3 (xf_356_1 E) E) E) E) E) E
theorem xe_356_0 : xf_356_0 = zEx xb_356_0 := by
  unfold xf_356_0 xb_356_0
  rw [xe_356_1]
  rfl
theorem xc_356_0 : zCd 356 [0, 5, 20] 0 xb_356_0 := zc_iconst xj_356 1 0 0 rfl rfl rfl (zc_istore_n xj_356 2 2 rfl rfl zf_ist_2 (zc_aload_n xj_356 3 0 rfl rfl zf_ald_0 (zc_arraylength xj_356 4 rfl rfl (zc_istore_n xj_356 5 3 rfl rfl zf_ist_3 (xc_356_1)))))
noncomputable def xm_356 : Lean.RArray (zE → zKn) := .branch 5 (.leaf xf_356_0) (.branch 20 (.leaf xf_356_1) (.leaf xf_356_2))
theorem xa_356 : zCdAll 356 [0, 5, 20] xm_356 := zAll2_ok (P := fun t => ∃ c, zCd 356 [0, 5, 20] t c ∧ xm_356.get t = zEx c) ⟨⟨_, xc_356_0, xe_356_0⟩, ⟨_, xc_356_1, xe_356_1⟩, ⟨_, xc_356_2, xe_356_2⟩, trivial⟩
