/-! THE CODE OF EVERY METHOD AS LEAVES, with its proof. By program (wip/tools/mk46.py). -/
/-- SquareMesh.isOfRegions -/
theorem xj_135 : ∀ pc, pI 135 pc = pJ_135 pc := fun _ => rfl
noncomputable def xb_135_3 : List zF := [zq_iret 0]
noncomputable def xf_135_3 : zE → zKn := fun E => zq_iret 0 (zNil) E
theorem xe_135_3 : xf_135_3 = zEx xb_135_3 := by
  unfold xf_135_3 xb_135_3
  rfl
theorem xc_135_3 : zCd 135 [0, 13, 39, 46] 46 xb_135_3 := zc_ireturn0 xj_135 47 rfl rfl (trivial)
noncomputable def xb_135_2 : List zF := zq_aldg zG0 :: zq_getfg 8 zG4 :: zq_calli 74 0 4 3 :: xb_135_3
noncomputable def xf_135_2 : zE → zKn := fun E => zq_aldg zG0 (zq_getfg 8 zG4 (zq_calli 74 0 4 3 (xf_135_3 E) E) E) E
theorem xe_135_2 : xf_135_2 = zEx xb_135_2 := by
  unfold xf_135_2 xb_135_2
  rw [xe_135_3]
  rfl
theorem xc_135_2 : zCd 135 [0, 13, 39, 46] 39 xb_135_2 := zc_aload_n xj_135 40 0 rfl rfl zf_ald_0 (zc_getf xj_135 43 32 8 4 88 rfl rfl (zf_getf_4 _) (zc_invokevirtual1 xj_135 46 229 74 0 147 4 3 rfl rfl rfl rfl (xc_135_3)))
noncomputable def xb_135_1 : List zF := [zq_aldg zG0, zq_getfg 8 zG4, zq_aldg zG0, zq_getfg 8 zG0, zq_calli 72 1 4 4, zq_ildg zG1, zq_k 5, zq_ic_ne 39, zq_aldg zG0, zq_getfg 8 zG4, zq_getfg 4 zG2, zq_goto 46]
noncomputable def xf_135_1 : zE → zKn := fun E => zq_aldg zG0 (zq_getfg 8 zG4 (zq_aldg zG0 (zq_getfg 8 zG0 (zq_calli 72 1 4 4 (zq_ildg zG1 (zq_k 5 (zq_ic_ne 39 (zq_aldg zG0 (zq_getfg 8 zG4 (zq_getfg 4 zG2 (zq_goto 46 (zNil) E) E) E) E) E) E) E) E) E) E) E) E
theorem xe_135_1 : xf_135_1 = zEx xb_135_1 := by
  unfold xf_135_1 xb_135_1
  rfl
theorem xc_135_1 : zCd 135 [0, 13, 39, 46] 13 xb_135_1 := zc_aload_n xj_135 14 0 rfl rfl zf_ald_0 (zc_getf xj_135 17 32 8 4 88 rfl rfl (zf_getf_4 _) (zc_aload_n xj_135 18 0 rfl rfl zf_ald_0 (zc_getf xj_135 21 12 8 0 84 rfl rfl (zf_getf_0 _) (zc_invokevirtual1 xj_135 24 225 72 1 141 4 4 rfl rfl rfl rfl (zc_iload_n xj_135 25 1 rfl rfl zf_ild_1 (zc_iconst xj_135 26 5 5 rfl rfl rfl (zc_ic_ne xj_135 29 13 39 rfl rfl rfl (zc_aload_n xj_135 30 0 rfl rfl zf_ald_0 (zc_getf xj_135 33 32 8 4 88 rfl rfl (zf_getf_4 _) (zc_getf xj_135 36 228 4 2 65 rfl rfl (zf_getf_2 _) (zc_goto xj_135 37 10 46 rfl rfl rfl (trivial))))))))))))
noncomputable def xb_135_0 : List zF := [zq_ildg zG1, zq_k 5, zq_ic_eq 13, zq_ildg zG1, zq_k 9, zq_ic_eq 13, zq_k 4294967295, zq_iret 0]
noncomputable def xf_135_0 : zE → zKn := fun E => zq_ildg zG1 (zq_k 5 (zq_ic_eq 13 (zq_ildg zG1 (zq_k 9 (zq_ic_eq 13 (zq_k 4294967295 (zq_iret 0 (zNil) E) E) E) E) E) E) E) E
theorem xe_135_0 : xf_135_0 = zEx xb_135_0 := by
  unfold xf_135_0 xb_135_0
  rfl
theorem xc_135_0 : zCd 135 [0, 13, 39, 46] 0 xb_135_0 := zc_iload_n xj_135 1 1 rfl rfl zf_ild_1 (zc_iconst xj_135 2 5 5 rfl rfl rfl (zc_ic_eq xj_135 5 11 13 rfl rfl rfl (zc_iload_n xj_135 6 1 rfl rfl zf_ild_1 (zc_bipush xj_135 8 9 9 rfl rfl rfl (zc_ic_eq xj_135 11 5 13 rfl rfl rfl (zc_iconst xj_135 12 (-1) 4294967295 rfl rfl rfl (zc_ireturn0 xj_135 13 rfl rfl (trivial))))))))
noncomputable def xm_135 : Lean.RArray (zE → zKn) := .branch 39 (.branch 13 (.leaf xf_135_0) (.leaf xf_135_1)) (.branch 46 (.leaf xf_135_2) (.leaf xf_135_3))
theorem xa_135 : zCdAll 135 [0, 13, 39, 46] xm_135 := zAll2_ok (P := fun t => ∃ c, zCd 135 [0, 13, 39, 46] t c ∧ xm_135.get t = zEx c) ⟨⟨_, xc_135_0, xe_135_0⟩, ⟨_, xc_135_1, xe_135_1⟩, ⟨_, xc_135_2, xe_135_2⟩, ⟨_, xc_135_3, xe_135_3⟩, trivial⟩
/-- SquareMesh.of -/
theorem xj_136 : ∀ pc, pI 136 pc = pJ_136 pc := fun _ => rfl
noncomputable def xb_136_13 : List zF := [zq_k 4294967295, zq_iret 0]
noncomputable def xf_136_13 : zE → zKn := fun E => zq_k 4294967295 (zq_iret 0 (zNil) E) E
theorem xe_136_13 : xf_136_13 = zEx xb_136_13 := by
  unfold xf_136_13 xb_136_13
  rfl
theorem xc_136_13 : zCd 136 [0, 30, 35, 36, 37, 76, 83, 90, 103, 113, 125, 126, 127, 134] 134 xb_136_13 := zc_iconst xj_136 135 (-1) 4294967295 rfl rfl rfl (zc_ireturn0 xj_136 136 rfl rfl (trivial))
noncomputable def xb_136_12 : List zF := [zq_aldg zG3, zq_getfg 5 zG2, zq_ildg zG1, zq_ild_ 0, zq_iret 0]
noncomputable def xf_136_12 : zE → zKn := fun E => zq_aldg zG3 (zq_getfg 5 zG2 (zq_ildg zG1 (zq_ild_ 0 (zq_iret 0 (zNil) E) E) E) E) E
theorem xe_136_12 : xf_136_12 = zEx xb_136_12 := by
  unfold xf_136_12 xb_136_12
  rfl
theorem xc_136_12 : zCd 136 [0, 30, 35, 36, 37, 76, 83, 90, 103, 113, 125, 126, 127, 134] 127 xb_136_12 := zc_aload_n xj_136 128 3 rfl rfl zf_ald_3 (zc_getf xj_136 131 130 5 2 8 rfl rfl (zf_getf_2 _) (zc_iload_n xj_136 132 1 rfl rfl zf_ild_1 (zc_iaload xj_136 133 rfl rfl (zc_ireturn0 xj_136 134 rfl rfl (trivial)))))
noncomputable def xb_136_11 : List zF := [zq_iret 0]
noncomputable def xf_136_11 : zE → zKn := fun E => zq_iret 0 (zNil) E
theorem xe_136_11 : xf_136_11 = zEx xb_136_11 := by
  unfold xf_136_11 xb_136_11
  rfl
theorem xc_136_11 : zCd 136 [0, 30, 35, 36, 37, 76, 83, 90, 103, 113, 125, 126, 127, 134] 126 xb_136_11 := zc_ireturn0 xj_136 127 rfl rfl (trivial)
noncomputable def xb_136_10 : List zF := zq_k 0 :: xb_136_11
noncomputable def xf_136_10 : zE → zKn := fun E => zq_k 0 (xf_136_11 E) E
theorem xe_136_10 : xf_136_10 = zEx xb_136_10 := by
  unfold xf_136_10 xb_136_10
  rw [xe_136_11]
  rfl
theorem xc_136_10 : zCd 136 [0, 30, 35, 36, 37, 76, 83, 90, 103, 113, 125, 126, 127, 134] 125 xb_136_10 := zc_iconst xj_136 126 0 0 rfl rfl rfl (xc_136_11)
noncomputable def xb_136_9 : List zF := [zq_aldg zG3, zq_ildg zG1, zq_calli 90 1 5 2, zq_if_eq 125, zq_k 1, zq_goto 126]
noncomputable def xf_136_9 : zE → zKn := fun E => zq_aldg zG3 (zq_ildg zG1 (zq_calli 90 1 5 2 (zq_if_eq 125 (zq_k 1 (zq_goto 126 (zNil) E) E) E) E) E) E
theorem xe_136_9 : xf_136_9 = zEx xb_136_9 := by
  unfold xf_136_9 xb_136_9
  rfl
theorem xc_136_9 : zCd 136 [0, 30, 35, 36, 37, 76, 83, 90, 103, 113, 125, 126, 127, 134] 113 xb_136_9 := zc_aload_n xj_136 114 3 rfl rfl zf_ald_3 (zc_iload_n xj_136 115 1 rfl rfl zf_ild_1 (zc_invokevirtual1 xj_136 118 246 90 1 150 5 2 rfl rfl rfl rfl (zc_if_eq xj_136 121 7 125 rfl rfl rfl (zc_iconst xj_136 122 1 1 rfl rfl rfl (zc_goto xj_136 123 4 126 rfl rfl rfl (trivial))))))
noncomputable def xb_136_8 : List zF := [zq_aldg zG3, zq_getfg 5 zG3, zq_ildg zG1, zq_ild_ 1, zq_calls 350 1 2, zq_iret 0]
noncomputable def xf_136_8 : zE → zKn := fun E => zq_aldg zG3 (zq_getfg 5 zG3 (zq_ildg zG1 (zq_ild_ 1 (zq_calls 350 1 2 (zq_iret 0 (zNil) E) E) E) E) E) E
theorem xe_136_8 : xf_136_8 = zEx xb_136_8 := by
  unfold xf_136_8 xb_136_8
  rfl
theorem xc_136_8 : zCd 136 [0, 30, 35, 36, 37, 76, 83, 90, 103, 113, 125, 126, 127, 134] 103 xb_136_8 := zc_aload_n xj_136 104 3 rfl rfl zf_ald_3 (zc_getf xj_136 107 243 5 3 10 rfl rfl (zf_getf_3 _) (zc_iload_n xj_136 108 1 rfl rfl zf_ild_1 (zc_laload xj_136 109 rfl rfl (zc_invokestatic2 xj_136 112 237 350 1 149 0 2 rfl rfl rfl rfl (zc_ireturn0 xj_136 113 rfl rfl (trivial))))))
noncomputable def xb_136_7 : List zF := [zq_aldg zG0, zq_getfg 8 zG0, zq_getfg 1 zG5, zq_ildg zG1, zq_ild_ 1, zq_calls 350 1 2, zq_iret 0]
noncomputable def xf_136_7 : zE → zKn := fun E => zq_aldg zG0 (zq_getfg 8 zG0 (zq_getfg 1 zG5 (zq_ildg zG1 (zq_ild_ 1 (zq_calls 350 1 2 (zq_iret 0 (zNil) E) E) E) E) E) E) E
theorem xe_136_7 : xf_136_7 = zEx xb_136_7 := by
  unfold xf_136_7 xb_136_7
  rfl
theorem xc_136_7 : zCd 136 [0, 30, 35, 36, 37, 76, 83, 90, 103, 113, 125, 126, 127, 134] 90 xb_136_7 := zc_aload_n xj_136 91 0 rfl rfl zf_ald_0 (zc_getf xj_136 94 12 8 0 84 rfl rfl (zf_getf_0 _) (zc_getf xj_136 97 233 1 5 41 rfl rfl (zf_getf_5 _) (zc_iload_n xj_136 98 1 rfl rfl zf_ild_1 (zc_laload xj_136 99 rfl rfl (zc_invokestatic2 xj_136 102 237 350 1 149 0 2 rfl rfl rfl rfl (zc_ireturn0 xj_136 103 rfl rfl (trivial)))))))
noncomputable def xb_136_6 : List zF := [zq_aldg zG3, zq_getfg 5 zG1, zq_ildg zG1, zq_ild_ 0, zq_iret 0]
noncomputable def xf_136_6 : zE → zKn := fun E => zq_aldg zG3 (zq_getfg 5 zG1 (zq_ildg zG1 (zq_ild_ 0 (zq_iret 0 (zNil) E) E) E) E) E
theorem xe_136_6 : xf_136_6 = zEx xb_136_6 := by
  unfold xf_136_6 xb_136_6
  rfl
theorem xc_136_6 : zCd 136 [0, 30, 35, 36, 37, 76, 83, 90, 103, 113, 125, 126, 127, 134] 83 xb_136_6 := zc_aload_n xj_136 84 3 rfl rfl zf_ald_3 (zc_getf xj_136 87 155 5 1 4 rfl rfl (zf_getf_1 _) (zc_iload_n xj_136 88 1 rfl rfl zf_ild_1 (zc_iaload xj_136 89 rfl rfl (zc_ireturn0 xj_136 90 rfl rfl (trivial)))))
noncomputable def xb_136_5 : List zF := [zq_aldg zG3, zq_getfg 5 zG0, zq_ildg zG1, zq_ild_ 0, zq_iret 0]
noncomputable def xf_136_5 : zE → zKn := fun E => zq_aldg zG3 (zq_getfg 5 zG0 (zq_ildg zG1 (zq_ild_ 0 (zq_iret 0 (zNil) E) E) E) E) E
theorem xe_136_5 : xf_136_5 = zEx xb_136_5 := by
  unfold xf_136_5 xb_136_5
  rfl
theorem xc_136_5 : zCd 136 [0, 30, 35, 36, 37, 76, 83, 90, 103, 113, 125, 126, 127, 134] 76 xb_136_5 := zc_aload_n xj_136 77 3 rfl rfl zf_ald_3 (zc_getf xj_136 80 147 5 0 1 rfl rfl (zf_getf_0 _) (zc_iload_n xj_136 81 1 rfl rfl zf_ild_1 (zc_iaload xj_136 82 rfl rfl (zc_ireturn0 xj_136 83 rfl rfl (trivial)))))
noncomputable def xb_136_4 : List zF := [zq_ildg zG2, zq_tab 0 [76, 83, 90, 103, 113, 127] 134]
noncomputable def xf_136_4 : zE → zKn := fun E => zq_ildg zG2 (zq_tab 0 [76, 83, 90, 103, 113, 127] 134 (zNil) E) E
theorem xe_136_4 : xf_136_4 = zEx xb_136_4 := by
  unfold xf_136_4 xb_136_4
  rfl
theorem xc_136_4 : zCd 136 [0, 30, 35, 36, 37, 76, 83, 90, 103, 113, 125, 126, 127, 134] 37 xb_136_4 := zc_iload_n xj_136 38 2 rfl rfl zf_ild_2 (zc_tab xj_136 39 96 0 5 #[38, 45, 52, 65, 75, 89] 134 [76, 83, 90, 103, 113, 127] 0 rfl rfl rfl rfl rfl (trivial))
noncomputable def xb_136_3 : List zF := [zq_iret 0]
noncomputable def xf_136_3 : zE → zKn := fun E => zq_iret 0 (zNil) E
theorem xe_136_3 : xf_136_3 = zEx xb_136_3 := by
  unfold xf_136_3 xb_136_3
  rfl
theorem xc_136_3 : zCd 136 [0, 30, 35, 36, 37, 76, 83, 90, 103, 113, 125, 126, 127, 134] 36 xb_136_3 := zc_ireturn0 xj_136 37 rfl rfl (trivial)
noncomputable def xb_136_2 : List zF := zq_k 4294967295 :: xb_136_3
noncomputable def xf_136_2 : zE → zKn := fun E => zq_k 4294967295 (xf_136_3 E) E
theorem xe_136_2 : xf_136_2 = zEx xb_136_2 := by
  unfold xf_136_2 xb_136_2
  rw [xe_136_3]
  rfl
theorem xc_136_2 : zCd 136 [0, 30, 35, 36, 37, 76, 83, 90, 103, 113, 125, 126, 127, 134] 35 xb_136_2 := zc_iconst xj_136 36 (-1) 4294967295 rfl rfl rfl (xc_136_3)
noncomputable def xb_136_1 : List zF := [zq_k 4294867296, zq_goto 36]
noncomputable def xf_136_1 : zE → zKn := fun E => zq_k 4294867296 (zq_goto 36 (zNil) E) E
theorem xe_136_1 : xf_136_1 = zEx xb_136_1 := by
  unfold xf_136_1 xb_136_1
  rfl
theorem xc_136_1 : zCd 136 [0, 30, 35, 36, 37, 76, 83, 90, 103, 113, 125, 126, 127, 134] 30 xb_136_1 := zc_ldc xj_136 32 232 4294867296 1 rfl rfl rfl (zc_goto xj_136 33 4 36 rfl rfl rfl (trivial))
noncomputable def xb_136_0 : List zF := zq_aldg zG0 :: zq_getfg 8 zG0 :: zq_getfg 1 zG0 :: zq_astg zE3 :: zq_aldg zG3 :: zq_ildg zG1 :: zq_calli 82 1 5 2 :: zq_if_ne 37 :: zq_ildg zG2 :: zq_if_eq 30 :: zq_ildg zG2 :: zq_k 1 :: zq_ic_eq 30 :: zq_ildg zG2 :: zq_k 5 :: zq_ic_ne 35 :: xb_136_1
noncomputable def xf_136_0 : zE → zKn := fun E => zq_aldg zG0 (zq_getfg 8 zG0 (zq_getfg 1 zG0 (zq_astg zE3 (zq_aldg zG3 (zq_ildg zG1 (zq_calli 82 1 5 2 (zq_if_ne 37 (zq_ildg zG2 (zq_if_eq 30 (zq_ildg zG2 (zq_k 1 (zq_ic_eq 30 (zq_ildg zG2 (zq_k 5 (zq_ic_ne 35 (xf_136_1 E) E) E) E) E) E) E) E) E) E) E) E) E) E) E) E) E
theorem xe_136_0 : xf_136_0 = zEx xb_136_0 := by
  unfold xf_136_0 xb_136_0
  rw [xe_136_1]
  rfl
theorem xc_136_0 : zCd 136 [0, 30, 35, 36, 37, 76, 83, 90, 103, 113, 125, 126, 127, 134] 0 xb_136_0 := zc_aload_n xj_136 1 0 rfl rfl zf_ald_0 (zc_getf xj_136 4 12 8 0 84 rfl rfl (zf_getf_0 _) (zc_getf xj_136 7 75 1 0 25 rfl rfl (zf_getf_0 _) (zc_astore_n xj_136 8 3 rfl rfl zf_ast_3 (zc_aload_n xj_136 9 3 rfl rfl zf_ald_3 (zc_iload_n xj_136 10 1 rfl rfl zf_ild_1 (zc_invokevirtual1 xj_136 13 127 82 1 98 5 2 rfl rfl rfl rfl (zc_if_ne xj_136 16 24 37 rfl rfl rfl (zc_iload_n xj_136 17 2 rfl rfl zf_ild_2 (zc_if_eq xj_136 20 13 30 rfl rfl rfl (zc_iload_n xj_136 21 2 rfl rfl zf_ild_2 (zc_iconst xj_136 22 1 1 rfl rfl rfl (zc_ic_eq xj_136 25 8 30 rfl rfl rfl (zc_iload_n xj_136 26 2 rfl rfl zf_ild_2 (zc_iconst xj_136 27 5 5 rfl rfl rfl (zc_ic_ne xj_136 30 8 35 rfl rfl rfl (xc_136_1))))))))))))))))
noncomputable def xm_136 : Lean.RArray (zE → zKn) := .branch 90 (.branch 36 (.branch 30 (.leaf xf_136_0) (.branch 35 (.leaf xf_136_1) (.leaf xf_136_2))) (.branch 76 (.branch 37 (.leaf xf_136_3) (.leaf xf_136_4)) (.branch 83 (.leaf xf_136_5) (.leaf xf_136_6)))) (.branch 125 (.branch 103 (.leaf xf_136_7) (.branch 113 (.leaf xf_136_8) (.leaf xf_136_9))) (.branch 127 (.branch 126 (.leaf xf_136_10) (.leaf xf_136_11)) (.branch 134 (.leaf xf_136_12) (.leaf xf_136_13))))
theorem xa_136 : zCdAll 136 [0, 30, 35, 36, 37, 76, 83, 90, 103, 113, 125, 126, 127, 134] xm_136 := zAll2_ok (P := fun t => ∃ c, zCd 136 [0, 30, 35, 36, 37, 76, 83, 90, 103, 113, 125, 126, 127, 134] t c ∧ xm_136.get t = zEx c) ⟨⟨_, xc_136_0, xe_136_0⟩, ⟨_, xc_136_1, xe_136_1⟩, ⟨_, xc_136_2, xe_136_2⟩, ⟨_, xc_136_3, xe_136_3⟩, ⟨_, xc_136_4, xe_136_4⟩, ⟨_, xc_136_5, xe_136_5⟩, ⟨_, xc_136_6, xe_136_6⟩, ⟨_, xc_136_7, xe_136_7⟩, ⟨_, xc_136_8, xe_136_8⟩, ⟨_, xc_136_9, xe_136_9⟩, ⟨_, xc_136_10, xe_136_10⟩, ⟨_, xc_136_11, xe_136_11⟩, ⟨_, xc_136_12, xe_136_12⟩, ⟨_, xc_136_13, xe_136_13⟩, trivial⟩
/-- SquareMesh.at -/
theorem xj_137 : ∀ pc, pI 137 pc = pJ_137 pc := fun _ => rfl
noncomputable def xb_137_0 : List zF := [zq_aldg zG0, zq_getfg 8 zG0, zq_getfg 1 zG0, zq_ildg zG1, zq_ildg zG2, zq_calli 86 2 5 4, zq_iret 0]
noncomputable def xf_137_0 : zE → zKn := fun E => zq_aldg zG0 (zq_getfg 8 zG0 (zq_getfg 1 zG0 (zq_ildg zG1 (zq_ildg zG2 (zq_calli 86 2 5 4 (zq_iret 0 (zNil) E) E) E) E) E) E) E
theorem xe_137_0 : xf_137_0 = zEx xb_137_0 := by
  unfold xf_137_0 xb_137_0
  rfl
theorem xc_137_0 : zCd 137 [0] 0 xb_137_0 := zc_aload_n xj_137 1 0 rfl rfl zf_ald_0 (zc_getf xj_137 4 12 8 0 84 rfl rfl (zf_getf_0 _) (zc_getf xj_137 7 75 1 0 25 rfl rfl (zf_getf_0 _) (zc_iload_n xj_137 8 1 rfl rfl zf_ild_1 (zc_iload_n xj_137 9 2 rfl rfl zf_ild_2 (zc_invokevirtual1 xj_137 12 103 86 2 77 5 4 rfl rfl rfl rfl (zc_ireturn0 xj_137 13 rfl rfl (trivial)))))))
noncomputable def xm_137 : Lean.RArray (zE → zKn) := .leaf xf_137_0
theorem xa_137 : zCdAll 137 [0] xm_137 := zAll2_ok (P := fun t => ∃ c, zCd 137 [0] t c ∧ xm_137.get t = zEx c) ⟨⟨_, xc_137_0, xe_137_0⟩, trivial⟩
/-- SquareMesh.corner -/
theorem xj_138 : ∀ pc, pI 138 pc = pJ_138 pc := fun _ => rfl
noncomputable def xb_138_2 : List zF := [zq_iret 0]
noncomputable def xf_138_2 : zE → zKn := fun E => zq_iret 0 (zNil) E
theorem xe_138_2 : xf_138_2 = zEx xb_138_2 := by
  unfold xf_138_2 xb_138_2
  rfl
theorem xc_138_2 : zCd 138 [0, 32, 33] 33 xb_138_2 := zc_ireturn0 xj_138 34 rfl rfl (trivial)
noncomputable def xb_138_1 : List zF := zq_k 4294967295 :: xb_138_2
noncomputable def xf_138_1 : zE → zKn := fun E => zq_k 4294967295 (xf_138_2 E) E
theorem xe_138_1 : xf_138_1 = zEx xb_138_1 := by
  unfold xf_138_1 xb_138_1
  rw [xe_138_2]
  rfl
theorem xc_138_1 : zCd 138 [0, 32, 33] 32 xb_138_1 := zc_iconst xj_138 33 (-1) 4294967295 rfl rfl rfl (xc_138_2)
noncomputable def xb_138_0 : List zF := [zq_aldg zG0, zq_getfg 8 zG0, zq_ildg zG1, zq_calli 34 1 1 2, zq_if_eq 32, zq_ildg zG2, zq_if_lt 32, zq_ildg zG2, zq_k 3, zq_ic_ge 32, zq_aldg zG0, zq_getfg 8 zG0, zq_ildg zG1, zq_ildg zG2, zq_calli 35 2 1 3, zq_goto 33]
noncomputable def xf_138_0 : zE → zKn := fun E => zq_aldg zG0 (zq_getfg 8 zG0 (zq_ildg zG1 (zq_calli 34 1 1 2 (zq_if_eq 32 (zq_ildg zG2 (zq_if_lt 32 (zq_ildg zG2 (zq_k 3 (zq_ic_ge 32 (zq_aldg zG0 (zq_getfg 8 zG0 (zq_ildg zG1 (zq_ildg zG2 (zq_calli 35 2 1 3 (zq_goto 33 (zNil) E) E) E) E) E) E) E) E) E) E) E) E) E) E) E) E
theorem xe_138_0 : xf_138_0 = zEx xb_138_0 := by
  unfold xf_138_0 xb_138_0
  rfl
theorem xc_138_0 : zCd 138 [0, 32, 33] 0 xb_138_0 := zc_aload_n xj_138 1 0 rfl rfl zf_ald_0 (zc_getf xj_138 4 12 8 0 84 rfl rfl (zf_getf_0 _) (zc_iload_n xj_138 5 1 rfl rfl zf_ild_1 (zc_invokevirtual1 xj_138 8 249 34 1 154 1 2 rfl rfl rfl rfl (zc_if_eq xj_138 11 24 32 rfl rfl rfl (zc_iload_n xj_138 12 2 rfl rfl zf_ild_2 (zc_if_lt xj_138 15 20 32 rfl rfl rfl (zc_iload_n xj_138 16 2 rfl rfl zf_ild_2 (zc_iconst xj_138 17 3 3 rfl rfl rfl (zc_ic_ge xj_138 20 15 32 rfl rfl rfl (zc_aload_n xj_138 21 0 rfl rfl zf_ald_0 (zc_getf xj_138 24 12 8 0 84 rfl rfl (zf_getf_0 _) (zc_iload_n xj_138 25 1 rfl rfl zf_ild_1 (zc_iload_n xj_138 26 2 rfl rfl zf_ild_2 (zc_invokevirtual1 xj_138 29 144 35 2 107 1 3 rfl rfl rfl rfl (zc_goto xj_138 30 4 33 rfl rfl rfl (trivial))))))))))))))))
noncomputable def xm_138 : Lean.RArray (zE → zKn) := .branch 32 (.leaf xf_138_0) (.branch 33 (.leaf xf_138_1) (.leaf xf_138_2))
theorem xa_138 : zCdAll 138 [0, 32, 33] xm_138 := zAll2_ok (P := fun t => ∃ c, zCd 138 [0, 32, 33] t c ∧ xm_138.get t = zEx c) ⟨⟨_, xc_138_0, xe_138_0⟩, ⟨_, xc_138_1, xe_138_1⟩, ⟨_, xc_138_2, xe_138_2⟩, trivial⟩
/-- SquareMesh.beyond -/
theorem xj_139 : ∀ pc, pI 139 pc = pJ_139 pc := fun _ => rfl
noncomputable def xb_139_2 : List zF := [zq_iret 0]
noncomputable def xf_139_2 : zE → zKn := fun E => zq_iret 0 (zNil) E
theorem xe_139_2 : xf_139_2 = zEx xb_139_2 := by
  unfold xf_139_2 xb_139_2
  rfl
theorem xc_139_2 : zCd 139 [0, 32, 33] 33 xb_139_2 := zc_ireturn0 xj_139 34 rfl rfl (trivial)
noncomputable def xb_139_1 : List zF := zq_k 4294967295 :: xb_139_2
noncomputable def xf_139_1 : zE → zKn := fun E => zq_k 4294967295 (xf_139_2 E) E
theorem xe_139_1 : xf_139_1 = zEx xb_139_1 := by
  unfold xf_139_1 xb_139_1
  rw [xe_139_2]
  rfl
theorem xc_139_1 : zCd 139 [0, 32, 33] 32 xb_139_1 := zc_iconst xj_139 33 (-1) 4294967295 rfl rfl rfl (xc_139_2)
noncomputable def xb_139_0 : List zF := [zq_aldg zG0, zq_getfg 8 zG0, zq_ildg zG1, zq_calli 34 1 1 2, zq_if_eq 32, zq_ildg zG2, zq_if_lt 32, zq_ildg zG2, zq_k 3, zq_ic_ge 32, zq_aldg zG0, zq_getfg 8 zG0, zq_ildg zG1, zq_ildg zG2, zq_calli 37 2 1 4, zq_goto 33]
noncomputable def xf_139_0 : zE → zKn := fun E => zq_aldg zG0 (zq_getfg 8 zG0 (zq_ildg zG1 (zq_calli 34 1 1 2 (zq_if_eq 32 (zq_ildg zG2 (zq_if_lt 32 (zq_ildg zG2 (zq_k 3 (zq_ic_ge 32 (zq_aldg zG0 (zq_getfg 8 zG0 (zq_ildg zG1 (zq_ildg zG2 (zq_calli 37 2 1 4 (zq_goto 33 (zNil) E) E) E) E) E) E) E) E) E) E) E) E) E) E) E) E
theorem xe_139_0 : xf_139_0 = zEx xb_139_0 := by
  unfold xf_139_0 xb_139_0
  rfl
theorem xc_139_0 : zCd 139 [0, 32, 33] 0 xb_139_0 := zc_aload_n xj_139 1 0 rfl rfl zf_ald_0 (zc_getf xj_139 4 12 8 0 84 rfl rfl (zf_getf_0 _) (zc_iload_n xj_139 5 1 rfl rfl zf_ild_1 (zc_invokevirtual1 xj_139 8 249 34 1 154 1 2 rfl rfl rfl rfl (zc_if_eq xj_139 11 24 32 rfl rfl rfl (zc_iload_n xj_139 12 2 rfl rfl zf_ild_2 (zc_if_lt xj_139 15 20 32 rfl rfl rfl (zc_iload_n xj_139 16 2 rfl rfl zf_ild_2 (zc_iconst xj_139 17 3 3 rfl rfl rfl (zc_ic_ge xj_139 20 15 32 rfl rfl rfl (zc_aload_n xj_139 21 0 rfl rfl zf_ald_0 (zc_getf xj_139 24 12 8 0 84 rfl rfl (zf_getf_0 _) (zc_iload_n xj_139 25 1 rfl rfl zf_ild_1 (zc_iload_n xj_139 26 2 rfl rfl zf_ild_2 (zc_invokevirtual1 xj_139 29 252 37 2 156 1 4 rfl rfl rfl rfl (zc_goto xj_139 30 4 33 rfl rfl rfl (trivial))))))))))))))))
noncomputable def xm_139 : Lean.RArray (zE → zKn) := .branch 32 (.leaf xf_139_0) (.branch 33 (.leaf xf_139_1) (.leaf xf_139_2))
theorem xa_139 : zCdAll 139 [0, 32, 33] xm_139 := zAll2_ok (P := fun t => ∃ c, zCd 139 [0, 32, 33] t c ∧ xm_139.get t = zEx c) ⟨⟨_, xc_139_0, xe_139_0⟩, ⟨_, xc_139_1, xe_139_1⟩, ⟨_, xc_139_2, xe_139_2⟩, trivial⟩
/-- SquareMesh.area -/
theorem xj_140 : ∀ pc, pI 140 pc = pJ_140 pc := fun _ => rfl
noncomputable def xb_140_2 : List zF := [zq_iret 0]
noncomputable def xf_140_2 : zE → zKn := fun E => zq_iret 0 (zNil) E
theorem xe_140_2 : xf_140_2 = zEx xb_140_2 := by
  unfold xf_140_2 xb_140_2
  rfl
theorem xc_140_2 : zCd 140 [0, 22, 23] 23 xb_140_2 := zc_ireturn0 xj_140 24 rfl rfl (trivial)
noncomputable def xb_140_1 : List zF := zq_k 4294967295 :: xb_140_2
noncomputable def xf_140_1 : zE → zKn := fun E => zq_k 4294967295 (xf_140_2 E) E
theorem xe_140_1 : xf_140_1 = zEx xb_140_1 := by
  unfold xf_140_1 xb_140_1
  rw [xe_140_2]
  rfl
theorem xc_140_1 : zCd 140 [0, 22, 23] 22 xb_140_1 := zc_iconst xj_140 23 (-1) 4294967295 rfl rfl rfl (xc_140_2)
noncomputable def xb_140_0 : List zF := [zq_aldg zG0, zq_getfg 8 zG0, zq_ildg zG1, zq_calli 34 1 1 2, zq_if_eq 22, zq_aldg zG0, zq_getfg 8 zG0, zq_ildg zG1, zq_calli 39 1 1 2, zq_goto 23]
noncomputable def xf_140_0 : zE → zKn := fun E => zq_aldg zG0 (zq_getfg 8 zG0 (zq_ildg zG1 (zq_calli 34 1 1 2 (zq_if_eq 22 (zq_aldg zG0 (zq_getfg 8 zG0 (zq_ildg zG1 (zq_calli 39 1 1 2 (zq_goto 23 (zNil) E) E) E) E) E) E) E) E) E) E
theorem xe_140_0 : xf_140_0 = zEx xb_140_0 := by
  unfold xf_140_0 xb_140_0
  rfl
theorem xc_140_0 : zCd 140 [0, 22, 23] 0 xb_140_0 := zc_aload_n xj_140 1 0 rfl rfl zf_ald_0 (zc_getf xj_140 4 12 8 0 84 rfl rfl (zf_getf_0 _) (zc_iload_n xj_140 5 1 rfl rfl zf_ild_1 (zc_invokevirtual1 xj_140 8 249 34 1 154 1 2 rfl rfl rfl rfl (zc_if_eq xj_140 11 14 22 rfl rfl rfl (zc_aload_n xj_140 12 0 rfl rfl zf_ald_0 (zc_getf xj_140 15 12 8 0 84 rfl rfl (zf_getf_0 _) (zc_iload_n xj_140 16 1 rfl rfl zf_ild_1 (zc_invokevirtual1 xj_140 19 255 39 1 158 1 2 rfl rfl rfl rfl (zc_goto xj_140 20 4 23 rfl rfl rfl (trivial))))))))))
noncomputable def xm_140 : Lean.RArray (zE → zKn) := .branch 22 (.leaf xf_140_0) (.branch 23 (.leaf xf_140_1) (.leaf xf_140_2))
theorem xa_140 : zCdAll 140 [0, 22, 23] xm_140 := zAll2_ok (P := fun t => ∃ c, zCd 140 [0, 22, 23] t c ∧ xm_140.get t = zEx c) ⟨⟨_, xc_140_0, xe_140_0⟩, ⟨_, xc_140_1, xe_140_1⟩, ⟨_, xc_140_2, xe_140_2⟩, trivial⟩
/-- SquareMesh.triangle -/
theorem xj_141 : ∀ pc, pI 141 pc = pJ_141 pc := fun _ => rfl
noncomputable def xb_141_4 : List zF := [zq_k 4294967295, zq_iret 0]
noncomputable def xf_141_4 : zE → zKn := fun E => zq_k 4294967295 (zq_iret 0 (zNil) E) E
theorem xe_141_4 : xf_141_4 = zEx xb_141_4 := by
  unfold xf_141_4 xb_141_4
  rfl
theorem xc_141_4 : zCd 141 [0, 42, 44, 77, 110] 110 xb_141_4 := zc_iconst xj_141 111 (-1) 4294967295 rfl rfl rfl (zc_ireturn0 xj_141 112 rfl rfl (trivial))
noncomputable def xb_141_3 : List zF := [zq_aldg zG0, zq_getfg 8 zG0, zq_getfg 1 zG1, zq_ildg zG2, zq_k 40, zq_mul, zq_ildg zG1, zq_add, zq_ild_ 0, zq_ildg zG3, zq_ic_ne 110, zq_aldg zG0, zq_getfg 8 zG0, zq_getfg 1 zG2, zq_ildg zG2, zq_k 40, zq_mul, zq_ildg zG1, zq_add, zq_ild_ 0, zq_iret 0]
noncomputable def xf_141_3 : zE → zKn := fun E => zq_aldg zG0 (zq_getfg 8 zG0 (zq_getfg 1 zG1 (zq_ildg zG2 (zq_k 40 (zq_mul (zq_ildg zG1 (zq_add (zq_ild_ 0 (zq_ildg zG3 (zq_ic_ne 110 (zq_aldg zG0 (zq_getfg 8 zG0 (zq_getfg 1 zG2 (zq_ildg zG2 (zq_k 40 (zq_mul (zq_ildg zG1 (zq_add (zq_ild_ 0 (zq_iret 0 (zNil) E) E) E) E) E) E) E) E) E) E) E) E) E) E) E) E) E) E) E) E) E
theorem xe_141_3 : xf_141_3 = zEx xb_141_3 := by
  unfold xf_141_3 xb_141_3
  rfl
theorem xc_141_3 : zCd 141 [0, 42, 44, 77, 110] 77 xb_141_3 := zc_aload_n xj_141 78 0 rfl rfl zf_ald_0 (zc_getf xj_141 81 12 8 0 84 rfl rfl (zf_getf_0 _) (zc_getf xj_141 84 258 1 1 30 rfl rfl (zf_getf_1 _) (zc_iload_n xj_141 85 2 rfl rfl zf_ild_2 (zc_bipush xj_141 87 40 40 rfl rfl rfl (zc_imul xj_141 88 rfl rfl (zc_iload_n xj_141 89 1 rfl rfl zf_ild_1 (zc_iadd xj_141 90 rfl rfl (zc_iaload xj_141 91 rfl rfl (zc_iload_n xj_141 92 3 rfl rfl zf_ild_3 (zc_ic_ne xj_141 95 18 110 rfl rfl rfl (zc_aload_n xj_141 96 0 rfl rfl zf_ald_0 (zc_getf xj_141 99 12 8 0 84 rfl rfl (zf_getf_0 _) (zc_getf xj_141 102 261 1 2 32 rfl rfl (zf_getf_2 _) (zc_iload_n xj_141 103 2 rfl rfl zf_ild_2 (zc_bipush xj_141 105 40 40 rfl rfl rfl (zc_imul xj_141 106 rfl rfl (zc_iload_n xj_141 107 1 rfl rfl zf_ild_1 (zc_iadd xj_141 108 rfl rfl (zc_iaload xj_141 109 rfl rfl (zc_ireturn0 xj_141 110 rfl rfl (trivial)))))))))))))))))))))
noncomputable def xb_141_2 : List zF := [zq_aldg zG0, zq_getfg 8 zG0, zq_getfg 1 zG1, zq_ildg zG1, zq_k 40, zq_mul, zq_ildg zG2, zq_add, zq_ild_ 0, zq_ildg zG3, zq_ic_ne 77, zq_aldg zG0, zq_getfg 8 zG0, zq_getfg 1 zG2, zq_ildg zG1, zq_k 40, zq_mul, zq_ildg zG2, zq_add, zq_ild_ 0, zq_iret 0]
noncomputable def xf_141_2 : zE → zKn := fun E => zq_aldg zG0 (zq_getfg 8 zG0 (zq_getfg 1 zG1 (zq_ildg zG1 (zq_k 40 (zq_mul (zq_ildg zG2 (zq_add (zq_ild_ 0 (zq_ildg zG3 (zq_ic_ne 77 (zq_aldg zG0 (zq_getfg 8 zG0 (zq_getfg 1 zG2 (zq_ildg zG1 (zq_k 40 (zq_mul (zq_ildg zG2 (zq_add (zq_ild_ 0 (zq_iret 0 (zNil) E) E) E) E) E) E) E) E) E) E) E) E) E) E) E) E) E) E) E) E) E
theorem xe_141_2 : xf_141_2 = zEx xb_141_2 := by
  unfold xf_141_2 xb_141_2
  rfl
theorem xc_141_2 : zCd 141 [0, 42, 44, 77, 110] 44 xb_141_2 := zc_aload_n xj_141 45 0 rfl rfl zf_ald_0 (zc_getf xj_141 48 12 8 0 84 rfl rfl (zf_getf_0 _) (zc_getf xj_141 51 258 1 1 30 rfl rfl (zf_getf_1 _) (zc_iload_n xj_141 52 1 rfl rfl zf_ild_1 (zc_bipush xj_141 54 40 40 rfl rfl rfl (zc_imul xj_141 55 rfl rfl (zc_iload_n xj_141 56 2 rfl rfl zf_ild_2 (zc_iadd xj_141 57 rfl rfl (zc_iaload xj_141 58 rfl rfl (zc_iload_n xj_141 59 3 rfl rfl zf_ild_3 (zc_ic_ne xj_141 62 18 77 rfl rfl rfl (zc_aload_n xj_141 63 0 rfl rfl zf_ald_0 (zc_getf xj_141 66 12 8 0 84 rfl rfl (zf_getf_0 _) (zc_getf xj_141 69 261 1 2 32 rfl rfl (zf_getf_2 _) (zc_iload_n xj_141 70 1 rfl rfl zf_ild_1 (zc_bipush xj_141 72 40 40 rfl rfl rfl (zc_imul xj_141 73 rfl rfl (zc_iload_n xj_141 74 2 rfl rfl zf_ild_2 (zc_iadd xj_141 75 rfl rfl (zc_iaload xj_141 76 rfl rfl (zc_ireturn0 xj_141 77 rfl rfl (trivial)))))))))))))))))))))
noncomputable def xb_141_1 : List zF := [zq_k 4294967295, zq_iret 0]
noncomputable def xf_141_1 : zE → zKn := fun E => zq_k 4294967295 (zq_iret 0 (zNil) E) E
theorem xe_141_1 : xf_141_1 = zEx xb_141_1 := by
  unfold xf_141_1 xb_141_1
  rfl
theorem xc_141_1 : zCd 141 [0, 42, 44, 77, 110] 42 xb_141_1 := zc_iconst xj_141 43 (-1) 4294967295 rfl rfl rfl (zc_ireturn0 xj_141 44 rfl rfl (trivial))
noncomputable def xb_141_0 : List zF := zq_aldg zG0 :: zq_getfg 8 zG0 :: zq_getfg 1 zG0 :: zq_ildg zG1 :: zq_calli 82 1 5 2 :: zq_if_eq 42 :: zq_aldg zG0 :: zq_getfg 8 zG0 :: zq_getfg 1 zG0 :: zq_ildg zG2 :: zq_calli 82 1 5 2 :: zq_if_eq 42 :: zq_aldg zG0 :: zq_getfg 8 zG0 :: zq_getfg 1 zG0 :: zq_ildg zG3 :: zq_calli 82 1 5 2 :: zq_if_ne 44 :: xb_141_1
noncomputable def xf_141_0 : zE → zKn := fun E => zq_aldg zG0 (zq_getfg 8 zG0 (zq_getfg 1 zG0 (zq_ildg zG1 (zq_calli 82 1 5 2 (zq_if_eq 42 (zq_aldg zG0 (zq_getfg 8 zG0 (zq_getfg 1 zG0 (zq_ildg zG2 (zq_calli 82 1 5 2 (zq_if_eq 42 (zq_aldg zG0 (zq_getfg 8 zG0 (zq_getfg 1 zG0 (zq_ildg zG3 (zq_calli 82 1 5 2 (zq_if_ne 44 (xf_141_1 E) E) E) E) E) E) E) E) E) E) E) E) E) E) E) E) E) E) E
theorem xe_141_0 : xf_141_0 = zEx xb_141_0 := by
  unfold xf_141_0 xb_141_0
  rw [xe_141_1]
  rfl
theorem xc_141_0 : zCd 141 [0, 42, 44, 77, 110] 0 xb_141_0 := zc_aload_n xj_141 1 0 rfl rfl zf_ald_0 (zc_getf xj_141 4 12 8 0 84 rfl rfl (zf_getf_0 _) (zc_getf xj_141 7 75 1 0 25 rfl rfl (zf_getf_0 _) (zc_iload_n xj_141 8 1 rfl rfl zf_ild_1 (zc_invokevirtual1 xj_141 11 127 82 1 98 5 2 rfl rfl rfl rfl (zc_if_eq xj_141 14 31 42 rfl rfl rfl (zc_aload_n xj_141 15 0 rfl rfl zf_ald_0 (zc_getf xj_141 18 12 8 0 84 rfl rfl (zf_getf_0 _) (zc_getf xj_141 21 75 1 0 25 rfl rfl (zf_getf_0 _) (zc_iload_n xj_141 22 2 rfl rfl zf_ild_2 (zc_invokevirtual1 xj_141 25 127 82 1 98 5 2 rfl rfl rfl rfl (zc_if_eq xj_141 28 17 42 rfl rfl rfl (zc_aload_n xj_141 29 0 rfl rfl zf_ald_0 (zc_getf xj_141 32 12 8 0 84 rfl rfl (zf_getf_0 _) (zc_getf xj_141 35 75 1 0 25 rfl rfl (zf_getf_0 _) (zc_iload_n xj_141 36 3 rfl rfl zf_ild_3 (zc_invokevirtual1 xj_141 39 127 82 1 98 5 2 rfl rfl rfl rfl (zc_if_ne xj_141 42 5 44 rfl rfl rfl (xc_141_1))))))))))))))))))
noncomputable def xm_141 : Lean.RArray (zE → zKn) := .branch 44 (.branch 42 (.leaf xf_141_0) (.leaf xf_141_1)) (.branch 77 (.leaf xf_141_2) (.branch 110 (.leaf xf_141_3) (.leaf xf_141_4)))
theorem xa_141 : zCdAll 141 [0, 42, 44, 77, 110] xm_141 := zAll2_ok (P := fun t => ∃ c, zCd 141 [0, 42, 44, 77, 110] t c ∧ xm_141.get t = zEx c) ⟨⟨_, xc_141_0, xe_141_0⟩, ⟨_, xc_141_1, xe_141_1⟩, ⟨_, xc_141_2, xe_141_2⟩, ⟨_, xc_141_3, xe_141_3⟩, ⟨_, xc_141_4, xe_141_4⟩, trivial⟩
/-- SquareMesh.isEdge -/
theorem xj_142 : ∀ pc, pI 142 pc = pJ_142 pc := fun _ => rfl
noncomputable def xb_142_2 : List zF := [zq_iret 1]
noncomputable def xf_142_2 : zE → zKn := fun E => zq_iret 1 (zNil) E
theorem xe_142_2 : xf_142_2 = zEx xb_142_2 := by
  unfold xf_142_2 xb_142_2
  rfl
theorem xc_142_2 : zCd 142 [0, 44, 45] 45 xb_142_2 := zc_ireturn1 xj_142 46 rfl rfl (trivial)
noncomputable def xb_142_1 : List zF := zq_k 0 :: xb_142_2
noncomputable def xf_142_1 : zE → zKn := fun E => zq_k 0 (xf_142_2 E) E
theorem xe_142_1 : xf_142_1 = zEx xb_142_1 := by
  unfold xf_142_1 xb_142_1
  rw [xe_142_2]
  rfl
theorem xc_142_1 : zCd 142 [0, 44, 45] 44 xb_142_1 := zc_iconst xj_142 45 0 0 rfl rfl rfl (xc_142_2)
noncomputable def xb_142_0 : List zF := [zq_aldg zG0, zq_getfg 8 zG0, zq_getfg 1 zG0, zq_ildg zG1, zq_calli 82 1 5 2, zq_if_eq 44, zq_aldg zG0, zq_getfg 8 zG0, zq_getfg 1 zG0, zq_ildg zG2, zq_calli 82 1 5 2, zq_if_eq 44, zq_aldg zG0, zq_getfg 8 zG0, zq_ildg zG1, zq_ildg zG2, zq_calli 36 2 1 3, zq_if_eq 44, zq_k 1, zq_goto 45]
noncomputable def xf_142_0 : zE → zKn := fun E => zq_aldg zG0 (zq_getfg 8 zG0 (zq_getfg 1 zG0 (zq_ildg zG1 (zq_calli 82 1 5 2 (zq_if_eq 44 (zq_aldg zG0 (zq_getfg 8 zG0 (zq_getfg 1 zG0 (zq_ildg zG2 (zq_calli 82 1 5 2 (zq_if_eq 44 (zq_aldg zG0 (zq_getfg 8 zG0 (zq_ildg zG1 (zq_ildg zG2 (zq_calli 36 2 1 3 (zq_if_eq 44 (zq_k 1 (zq_goto 45 (zNil) E) E) E) E) E) E) E) E) E) E) E) E) E) E) E) E) E) E) E) E
theorem xe_142_0 : xf_142_0 = zEx xb_142_0 := by
  unfold xf_142_0 xb_142_0
  rfl
theorem xc_142_0 : zCd 142 [0, 44, 45] 0 xb_142_0 := zc_aload_n xj_142 1 0 rfl rfl zf_ald_0 (zc_getf xj_142 4 12 8 0 84 rfl rfl (zf_getf_0 _) (zc_getf xj_142 7 75 1 0 25 rfl rfl (zf_getf_0 _) (zc_iload_n xj_142 8 1 rfl rfl zf_ild_1 (zc_invokevirtual1 xj_142 11 127 82 1 98 5 2 rfl rfl rfl rfl (zc_if_eq xj_142 14 33 44 rfl rfl rfl (zc_aload_n xj_142 15 0 rfl rfl zf_ald_0 (zc_getf xj_142 18 12 8 0 84 rfl rfl (zf_getf_0 _) (zc_getf xj_142 21 75 1 0 25 rfl rfl (zf_getf_0 _) (zc_iload_n xj_142 22 2 rfl rfl zf_ild_2 (zc_invokevirtual1 xj_142 25 127 82 1 98 5 2 rfl rfl rfl rfl (zc_if_eq xj_142 28 19 44 rfl rfl rfl (zc_aload_n xj_142 29 0 rfl rfl zf_ald_0 (zc_getf xj_142 32 12 8 0 84 rfl rfl (zf_getf_0 _) (zc_iload_n xj_142 33 1 rfl rfl zf_ild_1 (zc_iload_n xj_142 34 2 rfl rfl zf_ild_2 (zc_invokevirtual1 xj_142 37 264 36 2 138 1 3 rfl rfl rfl rfl (zc_if_eq xj_142 40 7 44 rfl rfl rfl (zc_iconst xj_142 41 1 1 rfl rfl rfl (zc_goto xj_142 42 4 45 rfl rfl rfl (trivial))))))))))))))))))))
noncomputable def xm_142 : Lean.RArray (zE → zKn) := .branch 44 (.leaf xf_142_0) (.branch 45 (.leaf xf_142_1) (.leaf xf_142_2))
theorem xa_142 : zCdAll 142 [0, 44, 45] xm_142 := zAll2_ok (P := fun t => ∃ c, zCd 142 [0, 44, 45] t c ∧ xm_142.get t = zEx c) ⟨⟨_, xc_142_0, xe_142_0⟩, ⟨_, xc_142_1, xe_142_1⟩, ⟨_, xc_142_2, xe_142_2⟩, trivial⟩
/-- SquareMesh.isFixed -/
theorem xj_143 : ∀ pc, pI 143 pc = pJ_143 pc := fun _ => rfl
noncomputable def xb_143_2 : List zF := [zq_iret 1]
noncomputable def xf_143_2 : zE → zKn := fun E => zq_iret 1 (zNil) E
theorem xe_143_2 : xf_143_2 = zEx xb_143_2 := by
  unfold xf_143_2 xb_143_2
  rfl
theorem xc_143_2 : zCd 143 [0, 47, 48] 48 xb_143_2 := zc_ireturn1 xj_143 49 rfl rfl (trivial)
noncomputable def xb_143_1 : List zF := zq_k 0 :: xb_143_2
noncomputable def xf_143_1 : zE → zKn := fun E => zq_k 0 (xf_143_2 E) E
theorem xe_143_1 : xf_143_1 = zEx xb_143_1 := by
  unfold xf_143_1 xb_143_1
  rw [xe_143_2]
  rfl
theorem xc_143_1 : zCd 143 [0, 47, 48] 47 xb_143_1 := zc_iconst xj_143 48 0 0 rfl rfl rfl (xc_143_2)
noncomputable def xb_143_0 : List zF := [zq_aldg zG0, zq_getfg 8 zG0, zq_getfg 1 zG0, zq_ildg zG1, zq_calli 82 1 5 2, zq_if_eq 47, zq_aldg zG0, zq_getfg 8 zG0, zq_getfg 1 zG0, zq_ildg zG2, zq_calli 82 1 5 2, zq_if_eq 47, zq_aldg zG0, zq_getfg 8 zG0, zq_getfg 1 zG0, zq_ildg zG1, zq_ildg zG2, zq_calli 91 2 5 3, zq_if_eq 47, zq_k 1, zq_goto 48]
noncomputable def xf_143_0 : zE → zKn := fun E => zq_aldg zG0 (zq_getfg 8 zG0 (zq_getfg 1 zG0 (zq_ildg zG1 (zq_calli 82 1 5 2 (zq_if_eq 47 (zq_aldg zG0 (zq_getfg 8 zG0 (zq_getfg 1 zG0 (zq_ildg zG2 (zq_calli 82 1 5 2 (zq_if_eq 47 (zq_aldg zG0 (zq_getfg 8 zG0 (zq_getfg 1 zG0 (zq_ildg zG1 (zq_ildg zG2 (zq_calli 91 2 5 3 (zq_if_eq 47 (zq_k 1 (zq_goto 48 (zNil) E) E) E) E) E) E) E) E) E) E) E) E) E) E) E) E) E) E) E) E) E
theorem xe_143_0 : xf_143_0 = zEx xb_143_0 := by
  unfold xf_143_0 xb_143_0
  rfl
theorem xc_143_0 : zCd 143 [0, 47, 48] 0 xb_143_0 := zc_aload_n xj_143 1 0 rfl rfl zf_ald_0 (zc_getf xj_143 4 12 8 0 84 rfl rfl (zf_getf_0 _) (zc_getf xj_143 7 75 1 0 25 rfl rfl (zf_getf_0 _) (zc_iload_n xj_143 8 1 rfl rfl zf_ild_1 (zc_invokevirtual1 xj_143 11 127 82 1 98 5 2 rfl rfl rfl rfl (zc_if_eq xj_143 14 36 47 rfl rfl rfl (zc_aload_n xj_143 15 0 rfl rfl zf_ald_0 (zc_getf xj_143 18 12 8 0 84 rfl rfl (zf_getf_0 _) (zc_getf xj_143 21 75 1 0 25 rfl rfl (zf_getf_0 _) (zc_iload_n xj_143 22 2 rfl rfl zf_ild_2 (zc_invokevirtual1 xj_143 25 127 82 1 98 5 2 rfl rfl rfl rfl (zc_if_eq xj_143 28 22 47 rfl rfl rfl (zc_aload_n xj_143 29 0 rfl rfl zf_ald_0 (zc_getf xj_143 32 12 8 0 84 rfl rfl (zf_getf_0 _) (zc_getf xj_143 35 75 1 0 25 rfl rfl (zf_getf_0 _) (zc_iload_n xj_143 36 1 rfl rfl zf_ild_1 (zc_iload_n xj_143 37 2 rfl rfl zf_ild_2 (zc_invokevirtual1 xj_143 40 267 91 2 162 5 3 rfl rfl rfl rfl (zc_if_eq xj_143 43 7 47 rfl rfl rfl (zc_iconst xj_143 44 1 1 rfl rfl rfl (zc_goto xj_143 45 4 48 rfl rfl rfl (trivial)))))))))))))))))))))
noncomputable def xm_143 : Lean.RArray (zE → zKn) := .branch 47 (.leaf xf_143_0) (.branch 48 (.leaf xf_143_1) (.leaf xf_143_2))
theorem xa_143 : zCdAll 143 [0, 47, 48] xm_143 := zAll2_ok (P := fun t => ∃ c, zCd 143 [0, 47, 48] t c ∧ xm_143.get t = zEx c) ⟨⟨_, xc_143_0, xe_143_0⟩, ⟨_, xc_143_1, xe_143_1⟩, ⟨_, xc_143_2, xe_143_2⟩, trivial⟩
/-- SquareMesh.in -/
theorem xj_144 : ∀ pc, pI 144 pc = pJ_144 pc := fun _ => rfl
noncomputable def xb_144_0 : List zF := [zq_aldg zG0, zq_getfg 8 zG0, zq_ildg zG1, zq_ildg zG2, zq_calli 44 2 1 4, zq_iret 0]
noncomputable def xf_144_0 : zE → zKn := fun E => zq_aldg zG0 (zq_getfg 8 zG0 (zq_ildg zG1 (zq_ildg zG2 (zq_calli 44 2 1 4 (zq_iret 0 (zNil) E) E) E) E) E) E
theorem xe_144_0 : xf_144_0 = zEx xb_144_0 := by
  unfold xf_144_0 xb_144_0
  rfl
theorem xc_144_0 : zCd 144 [0] 0 xb_144_0 := zc_aload_n xj_144 1 0 rfl rfl zf_ald_0 (zc_getf xj_144 4 12 8 0 84 rfl rfl (zf_getf_0 _) (zc_iload_n xj_144 5 1 rfl rfl zf_ild_1 (zc_iload_n xj_144 6 2 rfl rfl zf_ild_2 (zc_invokevirtual1 xj_144 9 270 44 2 164 1 4 rfl rfl rfl rfl (zc_ireturn0 xj_144 10 rfl rfl (trivial))))))
noncomputable def xm_144 : Lean.RArray (zE → zKn) := .leaf xf_144_0
theorem xa_144 : zCdAll 144 [0] xm_144 := zAll2_ok (P := fun t => ∃ c, zCd 144 [0] t c ∧ xm_144.get t = zEx c) ⟨⟨_, xc_144_0, xe_144_0⟩, trivial⟩
/-- SquareMesh.lies -/
theorem xj_145 : ∀ pc, pI 145 pc = pJ_145 pc := fun _ => rfl
noncomputable def xb_145_5 : List zF := [zq_k 1, zq_iret 0]
noncomputable def xf_145_5 : zE → zKn := fun E => zq_k 1 (zq_iret 0 (zNil) E) E
theorem xe_145_5 : xf_145_5 = zEx xb_145_5 := by
  unfold xf_145_5 xb_145_5
  rfl
theorem xc_145_5 : zCd 145 [0, 17, 35, 38, 61, 67] 67 xb_145_5 := zc_iconst xj_145 68 1 1 rfl rfl rfl (zc_ireturn0 xj_145 69 rfl rfl (trivial))
noncomputable def xb_145_4 : List zF := [zq_incg zG4 zE4 1, zq_goto 38]
noncomputable def xf_145_4 : zE → zKn := fun E => zq_incg zG4 zE4 1 (zq_goto 38 (zNil) E) E
theorem xe_145_4 : xf_145_4 = zEx xb_145_4 := by
  unfold xf_145_4 xb_145_4
  rfl
theorem xc_145_4 : zCd 145 [0, 17, 35, 38, 61, 67] 61 xb_145_4 := zc_iinc xj_145 64 4 1 1 rfl rfl rfl (zf_inc_4 _) (zc_goto xj_145 65 (-26) 38 rfl rfl rfl (trivial))
noncomputable def xb_145_3 : List zF := [zq_ildg zG4, zq_k 3, zq_ic_ge 67, zq_aldg zG0, zq_getfg 8 zG0, zq_ildg zG3, zq_ildg zG4, zq_ildg zG1, zq_ildg zG2, zq_calli 40 4 1 5, zq_if_ne 61, zq_k 2, zq_iret 0]
noncomputable def xf_145_3 : zE → zKn := fun E => zq_ildg zG4 (zq_k 3 (zq_ic_ge 67 (zq_aldg zG0 (zq_getfg 8 zG0 (zq_ildg zG3 (zq_ildg zG4 (zq_ildg zG1 (zq_ildg zG2 (zq_calli 40 4 1 5 (zq_if_ne 61 (zq_k 2 (zq_iret 0 (zNil) E) E) E) E) E) E) E) E) E) E) E) E) E
theorem xe_145_3 : xf_145_3 = zEx xb_145_3 := by
  unfold xf_145_3 xb_145_3
  rfl
theorem xc_145_3 : zCd 145 [0, 17, 35, 38, 61, 67] 38 xb_145_3 := zc_iload xj_145 40 4 rfl rfl zf_ild_4 (zc_iconst xj_145 41 3 3 rfl rfl rfl (zc_ic_ge xj_145 44 26 67 rfl rfl rfl (zc_aload_n xj_145 45 0 rfl rfl zf_ald_0 (zc_getf xj_145 48 12 8 0 84 rfl rfl (zf_getf_0 _) (zc_iload_n xj_145 49 3 rfl rfl zf_ild_3 (zc_iload xj_145 51 4 rfl rfl zf_ild_4 (zc_iload_n xj_145 52 1 rfl rfl zf_ild_1 (zc_iload_n xj_145 53 2 rfl rfl zf_ild_2 (zc_invokevirtual1 xj_145 56 273 40 4 166 1 5 rfl rfl rfl rfl (zc_if_ne xj_145 59 5 61 rfl rfl rfl (zc_iconst xj_145 60 2 2 rfl rfl rfl (zc_ireturn0 xj_145 61 rfl rfl (trivial)))))))))))))
noncomputable def xb_145_2 : List zF := zq_k 0 :: zq_istg zE4 :: xb_145_3
noncomputable def xf_145_2 : zE → zKn := fun E => zq_k 0 (zq_istg zE4 (xf_145_3 E) E) E
theorem xe_145_2 : xf_145_2 = zEx xb_145_2 := by
  unfold xf_145_2 xb_145_2
  rw [xe_145_3]
  rfl
theorem xc_145_2 : zCd 145 [0, 17, 35, 38, 61, 67] 35 xb_145_2 := zc_iconst xj_145 36 0 0 rfl rfl rfl (zc_istore xj_145 38 4 rfl rfl zf_ist_4 (xc_145_3))
noncomputable def xb_145_1 : List zF := [zq_aldg zG0, zq_getfg 8 zG0, zq_getfg 1 zG0, zq_ildg zG1, zq_ildg zG2, zq_calli 86 2 5 4, zq_k 4294967295, zq_ic_eq 35, zq_k 3, zq_iret 0]
noncomputable def xf_145_1 : zE → zKn := fun E => zq_aldg zG0 (zq_getfg 8 zG0 (zq_getfg 1 zG0 (zq_ildg zG1 (zq_ildg zG2 (zq_calli 86 2 5 4 (zq_k 4294967295 (zq_ic_eq 35 (zq_k 3 (zq_iret 0 (zNil) E) E) E) E) E) E) E) E) E) E
theorem xe_145_1 : xf_145_1 = zEx xb_145_1 := by
  unfold xf_145_1 xb_145_1
  rfl
theorem xc_145_1 : zCd 145 [0, 17, 35, 38, 61, 67] 17 xb_145_1 := zc_aload_n xj_145 18 0 rfl rfl zf_ald_0 (zc_getf xj_145 21 12 8 0 84 rfl rfl (zf_getf_0 _) (zc_getf xj_145 24 75 1 0 25 rfl rfl (zf_getf_0 _) (zc_iload_n xj_145 25 1 rfl rfl zf_ild_1 (zc_iload_n xj_145 26 2 rfl rfl zf_ild_2 (zc_invokevirtual1 xj_145 29 103 86 2 77 5 4 rfl rfl rfl rfl (zc_iconst xj_145 30 (-1) 4294967295 rfl rfl rfl (zc_ic_eq xj_145 33 5 35 rfl rfl rfl (zc_iconst xj_145 34 3 3 rfl rfl rfl (zc_ireturn0 xj_145 35 rfl rfl (trivial))))))))))
noncomputable def xb_145_0 : List zF := [zq_aldg zG0, zq_getfg 8 zG0, zq_ildg zG1, zq_ildg zG2, zq_calli 44 2 1 4, zq_istg zE3, zq_ildg zG3, zq_k 4294967295, zq_ic_ne 17, zq_k 0, zq_iret 0]
noncomputable def xf_145_0 : zE → zKn := fun E => zq_aldg zG0 (zq_getfg 8 zG0 (zq_ildg zG1 (zq_ildg zG2 (zq_calli 44 2 1 4 (zq_istg zE3 (zq_ildg zG3 (zq_k 4294967295 (zq_ic_ne 17 (zq_k 0 (zq_iret 0 (zNil) E) E) E) E) E) E) E) E) E) E) E
theorem xe_145_0 : xf_145_0 = zEx xb_145_0 := by
  unfold xf_145_0 xb_145_0
  rfl
theorem xc_145_0 : zCd 145 [0, 17, 35, 38, 61, 67] 0 xb_145_0 := zc_aload_n xj_145 1 0 rfl rfl zf_ald_0 (zc_getf xj_145 4 12 8 0 84 rfl rfl (zf_getf_0 _) (zc_iload_n xj_145 5 1 rfl rfl zf_ild_1 (zc_iload_n xj_145 6 2 rfl rfl zf_ild_2 (zc_invokevirtual1 xj_145 9 270 44 2 164 1 4 rfl rfl rfl rfl (zc_istore_n xj_145 10 3 rfl rfl zf_ist_3 (zc_iload_n xj_145 11 3 rfl rfl zf_ild_3 (zc_iconst xj_145 12 (-1) 4294967295 rfl rfl rfl (zc_ic_ne xj_145 15 5 17 rfl rfl rfl (zc_iconst xj_145 16 0 0 rfl rfl rfl (zc_ireturn0 xj_145 17 rfl rfl (trivial)))))))))))
noncomputable def xm_145 : Lean.RArray (zE → zKn) := .branch 38 (.branch 17 (.leaf xf_145_0) (.branch 35 (.leaf xf_145_1) (.leaf xf_145_2))) (.branch 61 (.leaf xf_145_3) (.branch 67 (.leaf xf_145_4) (.leaf xf_145_5)))
theorem xa_145 : zCdAll 145 [0, 17, 35, 38, 61, 67] xm_145 := zAll2_ok (P := fun t => ∃ c, zCd 145 [0, 17, 35, 38, 61, 67] t c ∧ xm_145.get t = zEx c) ⟨⟨_, xc_145_0, xe_145_0⟩, ⟨_, xc_145_1, xe_145_1⟩, ⟨_, xc_145_2, xe_145_2⟩, ⟨_, xc_145_3, xe_145_3⟩, ⟨_, xc_145_4, xe_145_4⟩, ⟨_, xc_145_5, xe_145_5⟩, trivial⟩
/-- SquareMesh.walk -/
theorem xj_146 : ∀ pc, pI 146 pc = pJ_146 pc := fun _ => rfl
noncomputable def xb_146_6 : List zF := [zq_iret 0]
noncomputable def xf_146_6 : zE → zKn := fun E => zq_iret 0 (zNil) E
theorem xe_146_6 : xf_146_6 = zEx xb_146_6 := by
  unfold xf_146_6 xb_146_6
  rfl
theorem xc_146_6 : zCd 146 [0, 30, 32, 61, 70, 93, 94] 94 xb_146_6 := zc_ireturn0 xj_146 95 rfl rfl (trivial)
noncomputable def xb_146_5 : List zF := zq_k 0 :: xb_146_6
noncomputable def xf_146_5 : zE → zKn := fun E => zq_k 0 (xf_146_6 E) E
theorem xe_146_5 : xf_146_5 = zEx xb_146_5 := by
  unfold xf_146_5 xb_146_5
  rw [xe_146_6]
  rfl
theorem xc_146_5 : zCd 146 [0, 30, 32, 61, 70, 93, 94] 93 xb_146_5 := zc_iconst xj_146 94 0 0 rfl rfl rfl (xc_146_6)
noncomputable def xb_146_4 : List zF := [zq_aldg zG0, zq_getfg 8 zG0, zq_aldg zG0, zq_getfg 8 zG6, zq_getfg 2 zG1, zq_ildg zG2, zq_ildg zG3, zq_calli 43 3 1 4, zq_if_eq 93, zq_k 1, zq_goto 94]
noncomputable def xf_146_4 : zE → zKn := fun E => zq_aldg zG0 (zq_getfg 8 zG0 (zq_aldg zG0 (zq_getfg 8 zG6 (zq_getfg 2 zG1 (zq_ildg zG2 (zq_ildg zG3 (zq_calli 43 3 1 4 (zq_if_eq 93 (zq_k 1 (zq_goto 94 (zNil) E) E) E) E) E) E) E) E) E) E) E
theorem xe_146_4 : xf_146_4 = zEx xb_146_4 := by
  unfold xf_146_4 xb_146_4
  rfl
theorem xc_146_4 : zCd 146 [0, 30, 32, 61, 70, 93, 94] 70 xb_146_4 := zc_aload_n xj_146 71 0 rfl rfl zf_ald_0 (zc_getf xj_146 74 12 8 0 84 rfl rfl (zf_getf_0 _) (zc_aload_n xj_146 75 0 rfl rfl zf_ald_0 (zc_getf xj_146 78 46 8 6 90 rfl rfl (zf_getf_6 _) (zc_getf xj_146 81 281 2 1 73 rfl rfl (zf_getf_1 _) (zc_iload_n xj_146 82 2 rfl rfl zf_ild_2 (zc_iload_n xj_146 83 3 rfl rfl zf_ild_3 (zc_invokevirtual1 xj_146 86 284 43 3 173 1 4 rfl rfl rfl rfl (zc_if_eq xj_146 89 7 93 rfl rfl rfl (zc_iconst xj_146 90 1 1 rfl rfl rfl (zc_goto xj_146 91 4 94 rfl rfl rfl (trivial)))))))))))
noncomputable def xb_146_3 : List zF := [zq_ildg zG4, zq_k 1, zq_ic_ne 70, zq_ildg zG5, zq_iret 0]
noncomputable def xf_146_3 : zE → zKn := fun E => zq_ildg zG4 (zq_k 1 (zq_ic_ne 70 (zq_ildg zG5 (zq_iret 0 (zNil) E) E) E) E) E
theorem xe_146_3 : xf_146_3 = zEx xb_146_3 := by
  unfold xf_146_3 xb_146_3
  rfl
theorem xc_146_3 : zCd 146 [0, 30, 32, 61, 70, 93, 94] 61 xb_146_3 := zc_iload xj_146 63 4 rfl rfl zf_ild_4 (zc_iconst xj_146 64 1 1 rfl rfl rfl (zc_ic_ne xj_146 67 6 70 rfl rfl rfl (zc_iload xj_146 69 5 rfl rfl zf_ild_5 (zc_ireturn0 xj_146 70 rfl rfl (trivial)))))
noncomputable def xb_146_2 : List zF := [zq_aldg zG0, zq_getfg 8 zG6, zq_aldg zG0, zq_getfg 8 zG0, zq_ildg zG1, zq_ildg zG2, zq_ildg zG3, zq_calli 61 4 2 8, zq_istg zE5, zq_ildg zG4, zq_if_ne 61, zq_aldg zG0, zq_getfg 8 zG6, zq_getfg 2 zG1, zq_iret 0]
noncomputable def xf_146_2 : zE → zKn := fun E => zq_aldg zG0 (zq_getfg 8 zG6 (zq_aldg zG0 (zq_getfg 8 zG0 (zq_ildg zG1 (zq_ildg zG2 (zq_ildg zG3 (zq_calli 61 4 2 8 (zq_istg zE5 (zq_ildg zG4 (zq_if_ne 61 (zq_aldg zG0 (zq_getfg 8 zG6 (zq_getfg 2 zG1 (zq_iret 0 (zNil) E) E) E) E) E) E) E) E) E) E) E) E) E) E) E
theorem xe_146_2 : xf_146_2 = zEx xb_146_2 := by
  unfold xf_146_2 xb_146_2
  rfl
theorem xc_146_2 : zCd 146 [0, 30, 32, 61, 70, 93, 94] 32 xb_146_2 := zc_aload_n xj_146 33 0 rfl rfl zf_ald_0 (zc_getf xj_146 36 46 8 6 90 rfl rfl (zf_getf_6 _) (zc_aload_n xj_146 37 0 rfl rfl zf_ald_0 (zc_getf xj_146 40 12 8 0 84 rfl rfl (zf_getf_0 _) (zc_iload_n xj_146 41 1 rfl rfl zf_ild_1 (zc_iload_n xj_146 42 2 rfl rfl zf_ild_2 (zc_iload_n xj_146 43 3 rfl rfl zf_ild_3 (zc_invokevirtual1 xj_146 46 277 61 4 168 2 8 rfl rfl rfl rfl (zc_istore xj_146 48 5 rfl rfl zf_ist_5 (zc_iload xj_146 50 4 rfl rfl zf_ild_4 (zc_if_ne xj_146 53 11 61 rfl rfl rfl (zc_aload_n xj_146 54 0 rfl rfl zf_ald_0 (zc_getf xj_146 57 46 8 6 90 rfl rfl (zf_getf_6 _) (zc_getf xj_146 60 281 2 1 73 rfl rfl (zf_getf_1 _) (zc_ireturn0 xj_146 61 rfl rfl (trivial)))))))))))))))
noncomputable def xb_146_1 : List zF := [zq_k 4294967295, zq_iret 0]
noncomputable def xf_146_1 : zE → zKn := fun E => zq_k 4294967295 (zq_iret 0 (zNil) E) E
theorem xe_146_1 : xf_146_1 = zEx xb_146_1 := by
  unfold xf_146_1 xb_146_1
  rfl
theorem xc_146_1 : zCd 146 [0, 30, 32, 61, 70, 93, 94] 30 xb_146_1 := zc_iconst xj_146 31 (-1) 4294967295 rfl rfl rfl (zc_ireturn0 xj_146 32 rfl rfl (trivial))
noncomputable def xb_146_0 : List zF := zq_aldg zG0 :: zq_getfg 8 zG0 :: zq_ildg zG1 :: zq_calli 34 1 1 2 :: zq_if_eq 30 :: zq_ildg zG2 :: zq_ildg zG3 :: zq_calls 182 2 2 :: zq_if_eq 30 :: zq_ildg zG4 :: zq_if_lt 30 :: zq_ildg zG4 :: zq_k 2 :: zq_ic_le 32 :: xb_146_1
noncomputable def xf_146_0 : zE → zKn := fun E => zq_aldg zG0 (zq_getfg 8 zG0 (zq_ildg zG1 (zq_calli 34 1 1 2 (zq_if_eq 30 (zq_ildg zG2 (zq_ildg zG3 (zq_calls 182 2 2 (zq_if_eq 30 (zq_ildg zG4 (zq_if_lt 30 (zq_ildg zG4 (zq_k 2 (zq_ic_le 32 (xf_146_1 E) E) E) E) E) E) E) E) E) E) E) E) E) E) E
theorem xe_146_0 : xf_146_0 = zEx xb_146_0 := by
  unfold xf_146_0 xb_146_0
  rw [xe_146_1]
  rfl
theorem xc_146_0 : zCd 146 [0, 30, 32, 61, 70, 93, 94] 0 xb_146_0 := zc_aload_n xj_146 1 0 rfl rfl zf_ald_0 (zc_getf xj_146 4 12 8 0 84 rfl rfl (zf_getf_0 _) (zc_iload_n xj_146 5 1 rfl rfl zf_ild_1 (zc_invokevirtual1 xj_146 8 249 34 1 154 1 2 rfl rfl rfl rfl (zc_if_eq xj_146 11 22 30 rfl rfl rfl (zc_iload_n xj_146 12 2 rfl rfl zf_ild_2 (zc_iload_n xj_146 13 3 rfl rfl zf_ild_3 (zc_invokestatic2 xj_146 16 100 182 2 76 0 2 rfl rfl rfl rfl (zc_if_eq xj_146 19 14 30 rfl rfl rfl (zc_iload xj_146 21 4 rfl rfl zf_ild_4 (zc_if_lt xj_146 24 9 30 rfl rfl rfl (zc_iload xj_146 26 4 rfl rfl zf_ild_4 (zc_iconst xj_146 27 2 2 rfl rfl rfl (zc_ic_le xj_146 30 5 32 rfl rfl rfl (xc_146_1))))))))))))))
noncomputable def xm_146 : Lean.RArray (zE → zKn) := .branch 61 (.branch 30 (.leaf xf_146_0) (.branch 32 (.leaf xf_146_1) (.leaf xf_146_2))) (.branch 93 (.branch 70 (.leaf xf_146_3) (.leaf xf_146_4)) (.branch 94 (.leaf xf_146_5) (.leaf xf_146_6)))
theorem xa_146 : zCdAll 146 [0, 30, 32, 61, 70, 93, 94] xm_146 := zAll2_ok (P := fun t => ∃ c, zCd 146 [0, 30, 32, 61, 70, 93, 94] t c ∧ xm_146.get t = zEx c) ⟨⟨_, xc_146_0, xe_146_0⟩, ⟨_, xc_146_1, xe_146_1⟩, ⟨_, xc_146_2, xe_146_2⟩, ⟨_, xc_146_3, xe_146_3⟩, ⟨_, xc_146_4, xe_146_4⟩, ⟨_, xc_146_5, xe_146_5⟩, ⟨_, xc_146_6, xe_146_6⟩, trivial⟩
/-- SquareMesh.star -/
theorem xj_147 : ∀ pc, pI 147 pc = pJ_147 pc := fun _ => rfl
noncomputable def xb_147_4 : List zF := [zq_iret 0]
noncomputable def xf_147_4 : zE → zKn := fun E => zq_iret 0 (zNil) E
theorem xe_147_4 : xf_147_4 = zEx xb_147_4 := by
  unfold xf_147_4 xb_147_4
  rfl
theorem xc_147_4 : zCd 147 [0, 18, 20, 44, 45] 45 xb_147_4 := zc_ireturn0 xj_147 46 rfl rfl (trivial)
noncomputable def xb_147_3 : List zF := zq_k 4294967295 :: xb_147_4
noncomputable def xf_147_3 : zE → zKn := fun E => zq_k 4294967295 (xf_147_4 E) E
theorem xe_147_3 : xf_147_3 = zEx xb_147_3 := by
  unfold xf_147_3 xb_147_3
  rw [xe_147_4]
  rfl
theorem xc_147_3 : zCd 147 [0, 18, 20, 44, 45] 44 xb_147_3 := zc_iconst xj_147 45 (-1) 4294967295 rfl rfl rfl (xc_147_4)
noncomputable def xb_147_2 : List zF := [zq_ildg zG2, zq_aldg zG0, zq_getfg 8 zG0, zq_ildg zG1, zq_calli 45 1 1 6, zq_ic_ge 44, zq_aldg zG0, zq_getfg 8 zG0, zq_getfg 1 zG6, zq_ildg zG2, zq_ild_ 0, zq_goto 45]
noncomputable def xf_147_2 : zE → zKn := fun E => zq_ildg zG2 (zq_aldg zG0 (zq_getfg 8 zG0 (zq_ildg zG1 (zq_calli 45 1 1 6 (zq_ic_ge 44 (zq_aldg zG0 (zq_getfg 8 zG0 (zq_getfg 1 zG6 (zq_ildg zG2 (zq_ild_ 0 (zq_goto 45 (zNil) E) E) E) E) E) E) E) E) E) E) E) E
theorem xe_147_2 : xf_147_2 = zEx xb_147_2 := by
  unfold xf_147_2 xb_147_2
  rfl
theorem xc_147_2 : zCd 147 [0, 18, 20, 44, 45] 20 xb_147_2 := zc_iload_n xj_147 21 2 rfl rfl zf_ild_2 (zc_aload_n xj_147 22 0 rfl rfl zf_ald_0 (zc_getf xj_147 25 12 8 0 84 rfl rfl (zf_getf_0 _) (zc_iload_n xj_147 26 1 rfl rfl zf_ild_1 (zc_invokevirtual1 xj_147 29 161 45 1 111 1 6 rfl rfl rfl rfl (zc_ic_ge xj_147 32 15 44 rfl rfl rfl (zc_aload_n xj_147 33 0 rfl rfl zf_ald_0 (zc_getf xj_147 36 12 8 0 84 rfl rfl (zf_getf_0 _) (zc_getf xj_147 39 164 1 6 43 rfl rfl (zf_getf_6 _) (zc_iload_n xj_147 40 2 rfl rfl zf_ild_2 (zc_iaload xj_147 41 rfl rfl (zc_goto xj_147 42 4 45 rfl rfl rfl (trivial))))))))))))
noncomputable def xb_147_1 : List zF := [zq_k 4294967295, zq_iret 0]
noncomputable def xf_147_1 : zE → zKn := fun E => zq_k 4294967295 (zq_iret 0 (zNil) E) E
theorem xe_147_1 : xf_147_1 = zEx xb_147_1 := by
  unfold xf_147_1 xb_147_1
  rfl
theorem xc_147_1 : zCd 147 [0, 18, 20, 44, 45] 18 xb_147_1 := zc_iconst xj_147 19 (-1) 4294967295 rfl rfl rfl (zc_ireturn0 xj_147 20 rfl rfl (trivial))
noncomputable def xb_147_0 : List zF := zq_aldg zG0 :: zq_getfg 8 zG0 :: zq_getfg 1 zG0 :: zq_ildg zG1 :: zq_calli 82 1 5 2 :: zq_if_eq 18 :: zq_ildg zG2 :: zq_if_ge 20 :: xb_147_1
noncomputable def xf_147_0 : zE → zKn := fun E => zq_aldg zG0 (zq_getfg 8 zG0 (zq_getfg 1 zG0 (zq_ildg zG1 (zq_calli 82 1 5 2 (zq_if_eq 18 (zq_ildg zG2 (zq_if_ge 20 (xf_147_1 E) E) E) E) E) E) E) E) E
theorem xe_147_0 : xf_147_0 = zEx xb_147_0 := by
  unfold xf_147_0 xb_147_0
  rw [xe_147_1]
  rfl
theorem xc_147_0 : zCd 147 [0, 18, 20, 44, 45] 0 xb_147_0 := zc_aload_n xj_147 1 0 rfl rfl zf_ald_0 (zc_getf xj_147 4 12 8 0 84 rfl rfl (zf_getf_0 _) (zc_getf xj_147 7 75 1 0 25 rfl rfl (zf_getf_0 _) (zc_iload_n xj_147 8 1 rfl rfl zf_ild_1 (zc_invokevirtual1 xj_147 11 127 82 1 98 5 2 rfl rfl rfl rfl (zc_if_eq xj_147 14 7 18 rfl rfl rfl (zc_iload_n xj_147 15 2 rfl rfl zf_ild_2 (zc_if_ge xj_147 18 5 20 rfl rfl rfl (xc_147_1))))))))
noncomputable def xm_147 : Lean.RArray (zE → zKn) := .branch 20 (.branch 18 (.leaf xf_147_0) (.leaf xf_147_1)) (.branch 44 (.leaf xf_147_2) (.branch 45 (.leaf xf_147_3) (.leaf xf_147_4)))
theorem xa_147 : zCdAll 147 [0, 18, 20, 44, 45] xm_147 := zAll2_ok (P := fun t => ∃ c, zCd 147 [0, 18, 20, 44, 45] t c ∧ xm_147.get t = zEx c) ⟨⟨_, xc_147_0, xe_147_0⟩, ⟨_, xc_147_1, xe_147_1⟩, ⟨_, xc_147_2, xe_147_2⟩, ⟨_, xc_147_3, xe_147_3⟩, ⟨_, xc_147_4, xe_147_4⟩, trivial⟩
/-- SquareMesh.ring -/
theorem xj_148 : ∀ pc, pI 148 pc = pJ_148 pc := fun _ => rfl
noncomputable def xb_148_2 : List zF := [zq_lret]
noncomputable def xf_148_2 : zE → zKn := fun E => zq_lret (zNil) E
theorem xe_148_2 : xf_148_2 = zEx xb_148_2 := by
  unfold xf_148_2 xb_148_2
  rfl
theorem xc_148_2 : zCd 148 [0, 34, 35] 35 xb_148_2 := zc_lreturn xj_148 36 rfl rfl (trivial)
noncomputable def xb_148_1 : List zF := zq_kl 0 :: xb_148_2
noncomputable def xf_148_1 : zE → zKn := fun E => zq_kl 0 (xf_148_2 E) E
theorem xe_148_1 : xf_148_1 = zEx xb_148_1 := by
  unfold xf_148_1 xb_148_1
  rw [xe_148_2]
  rfl
theorem xc_148_1 : zCd 148 [0, 34, 35] 34 xb_148_1 := zc_lconst xj_148 35 0 rfl rfl (xc_148_2)
noncomputable def xb_148_0 : List zF := [zq_aldg zG0, zq_getfg 8 zG0, zq_getfg 1 zG0, zq_ildg zG1, zq_calli 82 1 5 2, zq_if_eq 34, zq_ildg zG2, zq_if_lt 34, zq_aldg zG0, zq_getfg 8 zG5, zq_aldg zG0, zq_getfg 8 zG0, zq_ildg zG1, zq_ildg zG2, zq_calli 107 3 7 9, zq_goto 35]
noncomputable def xf_148_0 : zE → zKn := fun E => zq_aldg zG0 (zq_getfg 8 zG0 (zq_getfg 1 zG0 (zq_ildg zG1 (zq_calli 82 1 5 2 (zq_if_eq 34 (zq_ildg zG2 (zq_if_lt 34 (zq_aldg zG0 (zq_getfg 8 zG5 (zq_aldg zG0 (zq_getfg 8 zG0 (zq_ildg zG1 (zq_ildg zG2 (zq_calli 107 3 7 9 (zq_goto 35 (zNil) E) E) E) E) E) E) E) E) E) E) E) E) E) E) E) E
theorem xe_148_0 : xf_148_0 = zEx xb_148_0 := by
  unfold xf_148_0 xb_148_0
  rfl
theorem xc_148_0 : zCd 148 [0, 34, 35] 0 xb_148_0 := zc_aload_n xj_148 1 0 rfl rfl zf_ald_0 (zc_getf xj_148 4 12 8 0 84 rfl rfl (zf_getf_0 _) (zc_getf xj_148 7 75 1 0 25 rfl rfl (zf_getf_0 _) (zc_iload_n xj_148 8 1 rfl rfl zf_ild_1 (zc_invokevirtual1 xj_148 11 127 82 1 98 5 2 rfl rfl rfl rfl (zc_if_eq xj_148 14 23 34 rfl rfl rfl (zc_iload_n xj_148 15 2 rfl rfl zf_ild_2 (zc_if_lt xj_148 18 19 34 rfl rfl rfl (zc_aload_n xj_148 19 0 rfl rfl zf_ald_0 (zc_getf xj_148 22 39 8 5 89 rfl rfl (zf_getf_5 _) (zc_aload_n xj_148 23 0 rfl rfl zf_ald_0 (zc_getf xj_148 26 12 8 0 84 rfl rfl (zf_getf_0 _) (zc_iload_n xj_148 27 1 rfl rfl zf_ild_1 (zc_iload_n xj_148 28 2 rfl rfl zf_ild_2 (zc_invokevirtual1 xj_148 31 287 107 3 176 7 9 rfl rfl rfl rfl (zc_goto xj_148 32 4 35 rfl rfl rfl (trivial))))))))))))))))
noncomputable def xm_148 : Lean.RArray (zE → zKn) := .branch 34 (.leaf xf_148_0) (.branch 35 (.leaf xf_148_1) (.leaf xf_148_2))
theorem xa_148 : zCdAll 148 [0, 34, 35] xm_148 := zAll2_ok (P := fun t => ∃ c, zCd 148 [0, 34, 35] t c ∧ xm_148.get t = zEx c) ⟨⟨_, xc_148_0, xe_148_0⟩, ⟨_, xc_148_1, xe_148_1⟩, ⟨_, xc_148_2, xe_148_2⟩, trivial⟩
/-- SquareMesh.crossed -/
theorem xj_149 : ∀ pc, pI 149 pc = pJ_149 pc := fun _ => rfl
noncomputable def xb_149_2 : List zF := [zq_aldg zG0, zq_getfg 8 zG0, zq_aldg zG3, zq_getfg 5 zG0, zq_ildg zG1, zq_ild_ 0, zq_aldg zG3, zq_getfg 5 zG1, zq_ildg zG1, zq_ild_ 0, zq_aldg zG3, zq_getfg 5 zG0, zq_ildg zG2, zq_ild_ 0, zq_aldg zG3, zq_getfg 5 zG1, zq_ildg zG2, zq_ild_ 0, zq_calli 48 4 1 7, zq_iret 0]
noncomputable def xf_149_2 : zE → zKn := fun E => zq_aldg zG0 (zq_getfg 8 zG0 (zq_aldg zG3 (zq_getfg 5 zG0 (zq_ildg zG1 (zq_ild_ 0 (zq_aldg zG3 (zq_getfg 5 zG1 (zq_ildg zG1 (zq_ild_ 0 (zq_aldg zG3 (zq_getfg 5 zG0 (zq_ildg zG2 (zq_ild_ 0 (zq_aldg zG3 (zq_getfg 5 zG1 (zq_ildg zG2 (zq_ild_ 0 (zq_calli 48 4 1 7 (zq_iret 0 (zNil) E) E) E) E) E) E) E) E) E) E) E) E) E) E) E) E) E) E) E) E
theorem xe_149_2 : xf_149_2 = zEx xb_149_2 := by
  unfold xf_149_2 xb_149_2
  rfl
theorem xc_149_2 : zCd 149 [0, 29, 31] 31 xb_149_2 := zc_aload_n xj_149 32 0 rfl rfl zf_ald_0 (zc_getf xj_149 35 12 8 0 84 rfl rfl (zf_getf_0 _) (zc_aload_n xj_149 36 3 rfl rfl zf_ald_3 (zc_getf xj_149 39 147 5 0 1 rfl rfl (zf_getf_0 _) (zc_iload_n xj_149 40 1 rfl rfl zf_ild_1 (zc_iaload xj_149 41 rfl rfl (zc_aload_n xj_149 42 3 rfl rfl zf_ald_3 (zc_getf xj_149 45 155 5 1 4 rfl rfl (zf_getf_1 _) (zc_iload_n xj_149 46 1 rfl rfl zf_ild_1 (zc_iaload xj_149 47 rfl rfl (zc_aload_n xj_149 48 3 rfl rfl zf_ald_3 (zc_getf xj_149 51 147 5 0 1 rfl rfl (zf_getf_0 _) (zc_iload_n xj_149 52 2 rfl rfl zf_ild_2 (zc_iaload xj_149 53 rfl rfl (zc_aload_n xj_149 54 3 rfl rfl zf_ald_3 (zc_getf xj_149 57 155 5 1 4 rfl rfl (zf_getf_1 _) (zc_iload_n xj_149 58 2 rfl rfl zf_ild_2 (zc_iaload xj_149 59 rfl rfl (zc_invokevirtual1 xj_149 62 291 48 4 179 1 7 rfl rfl rfl rfl (zc_ireturn0 xj_149 63 rfl rfl (trivial))))))))))))))))))))
noncomputable def xb_149_1 : List zF := [zq_k 4294967295, zq_iret 0]
noncomputable def xf_149_1 : zE → zKn := fun E => zq_k 4294967295 (zq_iret 0 (zNil) E) E
theorem xe_149_1 : xf_149_1 = zEx xb_149_1 := by
  unfold xf_149_1 xb_149_1
  rfl
theorem xc_149_1 : zCd 149 [0, 29, 31] 29 xb_149_1 := zc_iconst xj_149 30 (-1) 4294967295 rfl rfl rfl (zc_ireturn0 xj_149 31 rfl rfl (trivial))
noncomputable def xb_149_0 : List zF := zq_aldg zG0 :: zq_getfg 8 zG0 :: zq_getfg 1 zG0 :: zq_astg zE3 :: zq_aldg zG3 :: zq_ildg zG1 :: zq_calli 82 1 5 2 :: zq_if_eq 29 :: zq_aldg zG3 :: zq_ildg zG2 :: zq_calli 82 1 5 2 :: zq_if_eq 29 :: zq_ildg zG1 :: zq_ildg zG2 :: zq_ic_ne 31 :: xb_149_1
noncomputable def xf_149_0 : zE → zKn := fun E => zq_aldg zG0 (zq_getfg 8 zG0 (zq_getfg 1 zG0 (zq_astg zE3 (zq_aldg zG3 (zq_ildg zG1 (zq_calli 82 1 5 2 (zq_if_eq 29 (zq_aldg zG3 (zq_ildg zG2 (zq_calli 82 1 5 2 (zq_if_eq 29 (zq_ildg zG1 (zq_ildg zG2 (zq_ic_ne 31 (xf_149_1 E) E) E) E) E) E) E) E) E) E) E) E) E) E) E) E
theorem xe_149_0 : xf_149_0 = zEx xb_149_0 := by
  unfold xf_149_0 xb_149_0
  rw [xe_149_1]
  rfl
theorem xc_149_0 : zCd 149 [0, 29, 31] 0 xb_149_0 := zc_aload_n xj_149 1 0 rfl rfl zf_ald_0 (zc_getf xj_149 4 12 8 0 84 rfl rfl (zf_getf_0 _) (zc_getf xj_149 7 75 1 0 25 rfl rfl (zf_getf_0 _) (zc_astore_n xj_149 8 3 rfl rfl zf_ast_3 (zc_aload_n xj_149 9 3 rfl rfl zf_ald_3 (zc_iload_n xj_149 10 1 rfl rfl zf_ild_1 (zc_invokevirtual1 xj_149 13 127 82 1 98 5 2 rfl rfl rfl rfl (zc_if_eq xj_149 16 16 29 rfl rfl rfl (zc_aload_n xj_149 17 3 rfl rfl zf_ald_3 (zc_iload_n xj_149 18 2 rfl rfl zf_ild_2 (zc_invokevirtual1 xj_149 21 127 82 1 98 5 2 rfl rfl rfl rfl (zc_if_eq xj_149 24 8 29 rfl rfl rfl (zc_iload_n xj_149 25 1 rfl rfl zf_ild_1 (zc_iload_n xj_149 26 2 rfl rfl zf_ild_2 (zc_ic_ne xj_149 29 5 31 rfl rfl rfl (xc_149_1)))))))))))))))
noncomputable def xm_149 : Lean.RArray (zE → zKn) := .branch 29 (.leaf xf_149_0) (.branch 31 (.leaf xf_149_1) (.leaf xf_149_2))
theorem xa_149 : zCdAll 149 [0, 29, 31] xm_149 := zAll2_ok (P := fun t => ∃ c, zCd 149 [0, 29, 31] t c ∧ xm_149.get t = zEx c) ⟨⟨_, xc_149_0, xe_149_0⟩, ⟨_, xc_149_1, xe_149_1⟩, ⟨_, xc_149_2, xe_149_2⟩, trivial⟩
/-- SquareMesh.cut -/
theorem xj_150 : ∀ pc, pI 150 pc = pJ_150 pc := fun _ => rfl
noncomputable def xb_150_2 : List zF := [zq_iret 0]
noncomputable def xf_150_2 : zE → zKn := fun E => zq_iret 0 (zNil) E
theorem xe_150_2 : xf_150_2 = zEx xb_150_2 := by
  unfold xf_150_2 xb_150_2
  rfl
theorem xc_150_2 : zCd 150 [0, 32, 33] 33 xb_150_2 := zc_ireturn0 xj_150 34 rfl rfl (trivial)
noncomputable def xb_150_1 : List zF := zq_k 4294967295 :: xb_150_2
noncomputable def xf_150_1 : zE → zKn := fun E => zq_k 4294967295 (xf_150_2 E) E
theorem xe_150_1 : xf_150_1 = zEx xb_150_1 := by
  unfold xf_150_1 xb_150_1
  rw [xe_150_2]
  rfl
theorem xc_150_1 : zCd 150 [0, 32, 33] 32 xb_150_1 := zc_iconst xj_150 33 (-1) 4294967295 rfl rfl rfl (xc_150_2)
noncomputable def xb_150_0 : List zF := [zq_ildg zG1, zq_ildg zG2, zq_calls 182 2 2, zq_if_eq 32, zq_ildg zG3, zq_ildg zG4, zq_calls 182 2 2, zq_if_eq 32, zq_aldg zG0, zq_getfg 8 zG0, zq_ildg zG1, zq_ildg zG2, zq_ildg zG3, zq_ildg zG4, zq_calli 48 4 1 7, zq_goto 33]
noncomputable def xf_150_0 : zE → zKn := fun E => zq_ildg zG1 (zq_ildg zG2 (zq_calls 182 2 2 (zq_if_eq 32 (zq_ildg zG3 (zq_ildg zG4 (zq_calls 182 2 2 (zq_if_eq 32 (zq_aldg zG0 (zq_getfg 8 zG0 (zq_ildg zG1 (zq_ildg zG2 (zq_ildg zG3 (zq_ildg zG4 (zq_calli 48 4 1 7 (zq_goto 33 (zNil) E) E) E) E) E) E) E) E) E) E) E) E) E) E) E) E
theorem xe_150_0 : xf_150_0 = zEx xb_150_0 := by
  unfold xf_150_0 xb_150_0
  rfl
theorem xc_150_0 : zCd 150 [0, 32, 33] 0 xb_150_0 := zc_iload_n xj_150 1 1 rfl rfl zf_ild_1 (zc_iload_n xj_150 2 2 rfl rfl zf_ild_2 (zc_invokestatic2 xj_150 5 100 182 2 76 0 2 rfl rfl rfl rfl (zc_if_eq xj_150 8 27 32 rfl rfl rfl (zc_iload_n xj_150 9 3 rfl rfl zf_ild_3 (zc_iload xj_150 11 4 rfl rfl zf_ild_4 (zc_invokestatic2 xj_150 14 100 182 2 76 0 2 rfl rfl rfl rfl (zc_if_eq xj_150 17 18 32 rfl rfl rfl (zc_aload_n xj_150 18 0 rfl rfl zf_ald_0 (zc_getf xj_150 21 12 8 0 84 rfl rfl (zf_getf_0 _) (zc_iload_n xj_150 22 1 rfl rfl zf_ild_1 (zc_iload_n xj_150 23 2 rfl rfl zf_ild_2 (zc_iload_n xj_150 24 3 rfl rfl zf_ild_3 (zc_iload xj_150 26 4 rfl rfl zf_ild_4 (zc_invokevirtual1 xj_150 29 291 48 4 179 1 7 rfl rfl rfl rfl (zc_goto xj_150 30 4 33 rfl rfl rfl (trivial))))))))))))))))
noncomputable def xm_150 : Lean.RArray (zE → zKn) := .branch 32 (.leaf xf_150_0) (.branch 33 (.leaf xf_150_1) (.leaf xf_150_2))
theorem xa_150 : zCdAll 150 [0, 32, 33] xm_150 := zAll2_ok (P := fun t => ∃ c, zCd 150 [0, 32, 33] t c ∧ xm_150.get t = zEx c) ⟨⟨_, xc_150_0, xe_150_0⟩, ⟨_, xc_150_1, xe_150_1⟩, ⟨_, xc_150_2, xe_150_2⟩, trivial⟩
/-- SquareMesh.sees -/
theorem xj_151 : ∀ pc, pI 151 pc = pJ_151 pc := fun _ => rfl
noncomputable def xb_151_0 : List zF := [zq_aldg zG0, zq_getfg 8 zG0, zq_ildg zG1, zq_ildg zG2, zq_calli 47 2 1 6, zq_iret 1]
noncomputable def xf_151_0 : zE → zKn := fun E => zq_aldg zG0 (zq_getfg 8 zG0 (zq_ildg zG1 (zq_ildg zG2 (zq_calli 47 2 1 6 (zq_iret 1 (zNil) E) E) E) E) E) E
theorem xe_151_0 : xf_151_0 = zEx xb_151_0 := by
  unfold xf_151_0 xb_151_0
  rfl
theorem xc_151_0 : zCd 151 [0] 0 xb_151_0 := zc_aload_n xj_151 1 0 rfl rfl zf_ald_0 (zc_getf xj_151 4 12 8 0 84 rfl rfl (zf_getf_0 _) (zc_iload_n xj_151 5 1 rfl rfl zf_ild_1 (zc_iload_n xj_151 6 2 rfl rfl zf_ild_2 (zc_invokevirtual1 xj_151 9 294 47 2 183 1 6 rfl rfl rfl rfl (zc_ireturn1 xj_151 10 rfl rfl (trivial))))))
noncomputable def xm_151 : Lean.RArray (zE → zKn) := .leaf xf_151_0
theorem xa_151 : zCdAll 151 [0] xm_151 := zAll2_ok (P := fun t => ∃ c, zCd 151 [0] t c ∧ xm_151.get t = zEx c) ⟨⟨_, xc_151_0, xe_151_0⟩, trivial⟩
/-- SquareMesh.seen -/
theorem xj_152 : ∀ pc, pI 152 pc = pJ_152 pc := fun _ => rfl
noncomputable def xb_152_3 : List zF := [zq_lldg zG2, zq_lret]
noncomputable def xf_152_3 : zE → zKn := fun E => zq_lldg zG2 (zq_lret (zNil) E) E
theorem xe_152_3 : xf_152_3 = zEx xb_152_3 := by
  unfold xf_152_3 xb_152_3
  rfl
theorem xc_152_3 : zCd 152 [0, 5, 32, 38] 38 xb_152_3 := zc_lload_n xj_152 39 2 rfl rfl zf_lld_2 (zc_lreturn xj_152 40 rfl rfl (trivial))
noncomputable def xb_152_2 : List zF := [zq_incg zG4 zE4 1, zq_goto 5]
noncomputable def xf_152_2 : zE → zKn := fun E => zq_incg zG4 zE4 1 (zq_goto 5 (zNil) E) E
theorem xe_152_2 : xf_152_2 = zEx xb_152_2 := by
  unfold xf_152_2 xb_152_2
  rfl
theorem xc_152_2 : zCd 152 [0, 5, 32, 38] 32 xb_152_2 := zc_iinc xj_152 35 4 1 1 rfl rfl rfl (zf_inc_4 _) (zc_goto xj_152 36 (-30) 5 rfl rfl rfl (trivial))
noncomputable def xb_152_1 : List zF := zq_ildg zG4 :: zq_k 40 :: zq_ic_ge 38 :: zq_aldg zG0 :: zq_getfg 8 zG0 :: zq_ildg zG1 :: zq_ildg zG4 :: zq_calli 47 2 1 6 :: zq_if_eq 32 :: zq_lldg zG2 :: zq_kl 1 :: zq_ildg zG4 :: zq_lshl :: zq_lor :: zq_lst 2 :: xb_152_2
noncomputable def xf_152_1 : zE → zKn := fun E => zq_ildg zG4 (zq_k 40 (zq_ic_ge 38 (zq_aldg zG0 (zq_getfg 8 zG0 (zq_ildg zG1 (zq_ildg zG4 (zq_calli 47 2 1 6 (zq_if_eq 32 (zq_lldg zG2 (zq_kl 1 (zq_ildg zG4 (zq_lshl (zq_lor (zq_lst 2 (xf_152_2 E) E) E) E) E) E) E) E) E) E) E) E) E) E) E) E
theorem xe_152_1 : xf_152_1 = zEx xb_152_1 := by
  unfold xf_152_1 xb_152_1
  rw [xe_152_2]
  rfl
theorem xc_152_1 : zCd 152 [0, 5, 32, 38] 5 xb_152_1 := zc_iload xj_152 7 4 rfl rfl zf_ild_4 (zc_bipush xj_152 9 40 40 rfl rfl rfl (zc_ic_ge xj_152 12 29 38 rfl rfl rfl (zc_aload_n xj_152 13 0 rfl rfl zf_ald_0 (zc_getf xj_152 16 12 8 0 84 rfl rfl (zf_getf_0 _) (zc_iload_n xj_152 17 1 rfl rfl zf_ild_1 (zc_iload xj_152 19 4 rfl rfl zf_ild_4 (zc_invokevirtual1 xj_152 22 294 47 2 183 1 6 rfl rfl rfl rfl (zc_if_eq xj_152 25 10 32 rfl rfl rfl (zc_lload_n xj_152 26 2 rfl rfl zf_lld_2 (zc_lconst xj_152 27 1 rfl rfl (zc_iload xj_152 29 4 rfl rfl zf_ild_4 (zc_lshl xj_152 30 rfl rfl (zc_lor xj_152 31 rfl rfl (zc_lstore_n xj_152 32 2 rfl rfl rfl (xc_152_2)))))))))))))))
noncomputable def xb_152_0 : List zF := zq_kl 0 :: zq_lst 2 :: zq_k 0 :: zq_istg zE4 :: xb_152_1
noncomputable def xf_152_0 : zE → zKn := fun E => zq_kl 0 (zq_lst 2 (zq_k 0 (zq_istg zE4 (xf_152_1 E) E) E) E) E
theorem xe_152_0 : xf_152_0 = zEx xb_152_0 := by
  unfold xf_152_0 xb_152_0
  rw [xe_152_1]
  rfl
theorem xc_152_0 : zCd 152 [0, 5, 32, 38] 0 xb_152_0 := zc_lconst xj_152 1 0 rfl rfl (zc_lstore_n xj_152 2 2 rfl rfl rfl (zc_iconst xj_152 3 0 0 rfl rfl rfl (zc_istore xj_152 5 4 rfl rfl zf_ist_4 (xc_152_1))))
noncomputable def xm_152 : Lean.RArray (zE → zKn) := .branch 32 (.branch 5 (.leaf xf_152_0) (.leaf xf_152_1)) (.branch 38 (.leaf xf_152_2) (.leaf xf_152_3))
theorem xa_152 : zCdAll 152 [0, 5, 32, 38] xm_152 := zAll2_ok (P := fun t => ∃ c, zCd 152 [0, 5, 32, 38] t c ∧ xm_152.get t = zEx c) ⟨⟨_, xc_152_0, xe_152_0⟩, ⟨_, xc_152_1, xe_152_1⟩, ⟨_, xc_152_2, xe_152_2⟩, ⟨_, xc_152_3, xe_152_3⟩, trivial⟩
/-- SquareMesh.region -/
theorem xj_153 : ∀ pc, pI 153 pc = pJ_153 pc := fun _ => rfl
noncomputable def xb_153_1 : List zF := [zq_aldg zG0, zq_getfg 8 zG4, zq_aldg zG0, zq_getfg 8 zG0, zq_calli 72 1 4 4, zq_aldg zG0, zq_getfg 8 zG4, zq_getfg 4 zG0, zq_ildg zG1, zq_ild_ 0, zq_iret 0]
noncomputable def xf_153_1 : zE → zKn := fun E => zq_aldg zG0 (zq_getfg 8 zG4 (zq_aldg zG0 (zq_getfg 8 zG0 (zq_calli 72 1 4 4 (zq_aldg zG0 (zq_getfg 8 zG4 (zq_getfg 4 zG0 (zq_ildg zG1 (zq_ild_ 0 (zq_iret 0 (zNil) E) E) E) E) E) E) E) E) E) E) E
theorem xe_153_1 : xf_153_1 = zEx xb_153_1 := by
  unfold xf_153_1 xb_153_1
  rfl
theorem xc_153_1 : zCd 153 [0, 13] 13 xb_153_1 := zc_aload_n xj_153 14 0 rfl rfl zf_ald_0 (zc_getf xj_153 17 32 8 4 88 rfl rfl (zf_getf_4 _) (zc_aload_n xj_153 18 0 rfl rfl zf_ald_0 (zc_getf xj_153 21 12 8 0 84 rfl rfl (zf_getf_0 _) (zc_invokevirtual1 xj_153 24 225 72 1 141 4 4 rfl rfl rfl rfl (zc_aload_n xj_153 25 0 rfl rfl zf_ald_0 (zc_getf xj_153 28 32 8 4 88 rfl rfl (zf_getf_4 _) (zc_getf xj_153 31 297 4 0 61 rfl rfl (zf_getf_0 _) (zc_iload_n xj_153 32 1 rfl rfl zf_ild_1 (zc_iaload xj_153 33 rfl rfl (zc_ireturn0 xj_153 34 rfl rfl (trivial)))))))))))
noncomputable def xb_153_0 : List zF := [zq_aldg zG0, zq_getfg 8 zG0, zq_ildg zG1, zq_calli 34 1 1 2, zq_if_ne 13, zq_k 4294967295, zq_iret 0]
noncomputable def xf_153_0 : zE → zKn := fun E => zq_aldg zG0 (zq_getfg 8 zG0 (zq_ildg zG1 (zq_calli 34 1 1 2 (zq_if_ne 13 (zq_k 4294967295 (zq_iret 0 (zNil) E) E) E) E) E) E) E
theorem xe_153_0 : xf_153_0 = zEx xb_153_0 := by
  unfold xf_153_0 xb_153_0
  rfl
theorem xc_153_0 : zCd 153 [0, 13] 0 xb_153_0 := zc_aload_n xj_153 1 0 rfl rfl zf_ald_0 (zc_getf xj_153 4 12 8 0 84 rfl rfl (zf_getf_0 _) (zc_iload_n xj_153 5 1 rfl rfl zf_ild_1 (zc_invokevirtual1 xj_153 8 249 34 1 154 1 2 rfl rfl rfl rfl (zc_if_ne xj_153 11 5 13 rfl rfl rfl (zc_iconst xj_153 12 (-1) 4294967295 rfl rfl rfl (zc_ireturn0 xj_153 13 rfl rfl (trivial)))))))
noncomputable def xm_153 : Lean.RArray (zE → zKn) := .branch 13 (.leaf xf_153_0) (.leaf xf_153_1)
theorem xa_153 : zCdAll 153 [0, 13] xm_153 := zAll2_ok (P := fun t => ∃ c, zCd 153 [0, 13] t c ∧ xm_153.get t = zEx c) ⟨⟨_, xc_153_0, xe_153_0⟩, ⟨_, xc_153_1, xe_153_1⟩, trivial⟩
/-- SquareMesh.ofRegion -/
theorem xj_154 : ∀ pc, pI 154 pc = pJ_154 pc := fun _ => rfl
noncomputable def xb_154_10 : List zF := [zq_k 4294967295, zq_iret 0]
noncomputable def xf_154_10 : zE → zKn := fun E => zq_k 4294967295 (zq_iret 0 (zNil) E) E
theorem xe_154_10 : xf_154_10 = zEx xb_154_10 := by
  unfold xf_154_10 xb_154_10
  rfl
theorem xc_154_10 : zCd 154 [0, 26, 28, 64, 77, 90, 106, 107, 108, 118, 134] 134 xb_154_10 := zc_iconst xj_154 135 (-1) 4294967295 rfl rfl rfl (zc_ireturn0 xj_154 136 rfl rfl (trivial))
noncomputable def xb_154_9 : List zF := [zq_aldg zG0, zq_getfg 8 zG4, zq_aldg zG0, zq_getfg 8 zG0, zq_ildg zG1, zq_calli 77 2 4 7, zq_calls 350 1 2, zq_iret 0]
noncomputable def xf_154_9 : zE → zKn := fun E => zq_aldg zG0 (zq_getfg 8 zG4 (zq_aldg zG0 (zq_getfg 8 zG0 (zq_ildg zG1 (zq_calli 77 2 4 7 (zq_calls 350 1 2 (zq_iret 0 (zNil) E) E) E) E) E) E) E) E
theorem xe_154_9 : xf_154_9 = zEx xb_154_9 := by
  unfold xf_154_9 xb_154_9
  rfl
theorem xc_154_9 : zCd 154 [0, 26, 28, 64, 77, 90, 106, 107, 108, 118, 134] 118 xb_154_9 := zc_aload_n xj_154 119 0 rfl rfl zf_ald_0 (zc_getf xj_154 122 32 8 4 88 rfl rfl (zf_getf_4 _) (zc_aload_n xj_154 123 0 rfl rfl zf_ald_0 (zc_getf xj_154 126 12 8 0 84 rfl rfl (zf_getf_0 _) (zc_iload_n xj_154 127 1 rfl rfl zf_ild_1 (zc_invokevirtual1 xj_154 130 309 77 2 190 4 7 rfl rfl rfl rfl (zc_invokestatic2 xj_154 133 237 350 1 149 0 2 rfl rfl rfl rfl (zc_ireturn0 xj_154 134 rfl rfl (trivial))))))))
noncomputable def xb_154_8 : List zF := [zq_aldg zG0, zq_getfg 8 zG4, zq_getfg 4 zG1, zq_ildg zG1, zq_ild_ 0, zq_iret 0]
noncomputable def xf_154_8 : zE → zKn := fun E => zq_aldg zG0 (zq_getfg 8 zG4 (zq_getfg 4 zG1 (zq_ildg zG1 (zq_ild_ 0 (zq_iret 0 (zNil) E) E) E) E) E) E
theorem xe_154_8 : xf_154_8 = zEx xb_154_8 := by
  unfold xf_154_8 xb_154_8
  rfl
theorem xc_154_8 : zCd 154 [0, 26, 28, 64, 77, 90, 106, 107, 108, 118, 134] 108 xb_154_8 := zc_aload_n xj_154 109 0 rfl rfl zf_ald_0 (zc_getf xj_154 112 32 8 4 88 rfl rfl (zf_getf_4 _) (zc_getf xj_154 115 306 4 1 63 rfl rfl (zf_getf_1 _) (zc_iload_n xj_154 116 1 rfl rfl zf_ild_1 (zc_iaload xj_154 117 rfl rfl (zc_ireturn0 xj_154 118 rfl rfl (trivial))))))
noncomputable def xb_154_7 : List zF := [zq_iret 0]
noncomputable def xf_154_7 : zE → zKn := fun E => zq_iret 0 (zNil) E
theorem xe_154_7 : xf_154_7 = zEx xb_154_7 := by
  unfold xf_154_7 xb_154_7
  rfl
theorem xc_154_7 : zCd 154 [0, 26, 28, 64, 77, 90, 106, 107, 108, 118, 134] 107 xb_154_7 := zc_ireturn0 xj_154 108 rfl rfl (trivial)
noncomputable def xb_154_6 : List zF := zq_k 0 :: xb_154_7
noncomputable def xf_154_6 : zE → zKn := fun E => zq_k 0 (xf_154_7 E) E
theorem xe_154_6 : xf_154_6 = zEx xb_154_6 := by
  unfold xf_154_6 xb_154_6
  rw [xe_154_7]
  rfl
theorem xc_154_6 : zCd 154 [0, 26, 28, 64, 77, 90, 106, 107, 108, 118, 134] 106 xb_154_6 := zc_iconst xj_154 107 0 0 rfl rfl rfl (xc_154_7)
noncomputable def xb_154_5 : List zF := [zq_aldg zG0, zq_getfg 8 zG4, zq_getfg 4 zG1, zq_ildg zG1, zq_ild_ 0, zq_if_le 106, zq_k 1, zq_goto 107]
noncomputable def xf_154_5 : zE → zKn := fun E => zq_aldg zG0 (zq_getfg 8 zG4 (zq_getfg 4 zG1 (zq_ildg zG1 (zq_ild_ 0 (zq_if_le 106 (zq_k 1 (zq_goto 107 (zNil) E) E) E) E) E) E) E) E
theorem xe_154_5 : xf_154_5 = zEx xb_154_5 := by
  unfold xf_154_5 xb_154_5
  rfl
theorem xc_154_5 : zCd 154 [0, 26, 28, 64, 77, 90, 106, 107, 108, 118, 134] 90 xb_154_5 := zc_aload_n xj_154 91 0 rfl rfl zf_ald_0 (zc_getf xj_154 94 32 8 4 88 rfl rfl (zf_getf_4 _) (zc_getf xj_154 97 306 4 1 63 rfl rfl (zf_getf_1 _) (zc_iload_n xj_154 98 1 rfl rfl zf_ild_1 (zc_iaload xj_154 99 rfl rfl (zc_if_le xj_154 102 7 106 rfl rfl rfl (zc_iconst xj_154 103 1 1 rfl rfl rfl (zc_goto xj_154 104 4 107 rfl rfl rfl (trivial))))))))
noncomputable def xb_154_4 : List zF := [zq_aldg zG0, zq_getfg 8 zG4, zq_aldg zG0, zq_getfg 8 zG0, zq_ildg zG1, zq_calli 76 2 4 5, zq_iret 0]
noncomputable def xf_154_4 : zE → zKn := fun E => zq_aldg zG0 (zq_getfg 8 zG4 (zq_aldg zG0 (zq_getfg 8 zG0 (zq_ildg zG1 (zq_calli 76 2 4 5 (zq_iret 0 (zNil) E) E) E) E) E) E) E
theorem xe_154_4 : xf_154_4 = zEx xb_154_4 := by
  unfold xf_154_4 xb_154_4
  rfl
theorem xc_154_4 : zCd 154 [0, 26, 28, 64, 77, 90, 106, 107, 108, 118, 134] 77 xb_154_4 := zc_aload_n xj_154 78 0 rfl rfl zf_ald_0 (zc_getf xj_154 81 32 8 4 88 rfl rfl (zf_getf_4 _) (zc_aload_n xj_154 82 0 rfl rfl zf_ald_0 (zc_getf xj_154 85 12 8 0 84 rfl rfl (zf_getf_0 _) (zc_iload_n xj_154 86 1 rfl rfl zf_ild_1 (zc_invokevirtual1 xj_154 89 304 76 2 188 4 5 rfl rfl rfl rfl (zc_ireturn0 xj_154 90 rfl rfl (trivial)))))))
noncomputable def xb_154_3 : List zF := [zq_aldg zG0, zq_getfg 8 zG4, zq_aldg zG0, zq_getfg 8 zG0, zq_ildg zG1, zq_calli 75 2 4 5, zq_iret 0]
noncomputable def xf_154_3 : zE → zKn := fun E => zq_aldg zG0 (zq_getfg 8 zG4 (zq_aldg zG0 (zq_getfg 8 zG0 (zq_ildg zG1 (zq_calli 75 2 4 5 (zq_iret 0 (zNil) E) E) E) E) E) E) E
theorem xe_154_3 : xf_154_3 = zEx xb_154_3 := by
  unfold xf_154_3 xb_154_3
  rfl
theorem xc_154_3 : zCd 154 [0, 26, 28, 64, 77, 90, 106, 107, 108, 118, 134] 64 xb_154_3 := zc_aload_n xj_154 65 0 rfl rfl zf_ald_0 (zc_getf xj_154 68 32 8 4 88 rfl rfl (zf_getf_4 _) (zc_aload_n xj_154 69 0 rfl rfl zf_ald_0 (zc_getf xj_154 72 12 8 0 84 rfl rfl (zf_getf_0 _) (zc_iload_n xj_154 73 1 rfl rfl zf_ild_1 (zc_invokevirtual1 xj_154 76 300 75 2 187 4 5 rfl rfl rfl rfl (zc_ireturn0 xj_154 77 rfl rfl (trivial)))))))
noncomputable def xb_154_2 : List zF := [zq_ildg zG2, zq_tab 0 [64, 77, 90, 108, 118] 134]
noncomputable def xf_154_2 : zE → zKn := fun E => zq_ildg zG2 (zq_tab 0 [64, 77, 90, 108, 118] 134 (zNil) E) E
theorem xe_154_2 : xf_154_2 = zEx xb_154_2 := by
  unfold xf_154_2 xb_154_2
  rfl
theorem xc_154_2 : zCd 154 [0, 26, 28, 64, 77, 90, 106, 107, 108, 118, 134] 28 xb_154_2 := zc_iload_n xj_154 29 2 rfl rfl zf_ild_2 (zc_tab xj_154 30 105 0 4 #[35, 48, 61, 79, 89] 134 [64, 77, 90, 108, 118] 0 rfl rfl rfl rfl rfl (trivial))
noncomputable def xb_154_1 : List zF := [zq_k 4294967295, zq_iret 0]
noncomputable def xf_154_1 : zE → zKn := fun E => zq_k 4294967295 (zq_iret 0 (zNil) E) E
theorem xe_154_1 : xf_154_1 = zEx xb_154_1 := by
  unfold xf_154_1 xb_154_1
  rfl
theorem xc_154_1 : zCd 154 [0, 26, 28, 64, 77, 90, 106, 107, 108, 118, 134] 26 xb_154_1 := zc_iconst xj_154 27 (-1) 4294967295 rfl rfl rfl (zc_ireturn0 xj_154 28 rfl rfl (trivial))
noncomputable def xb_154_0 : List zF := zq_aldg zG0 :: zq_getfg 8 zG4 :: zq_aldg zG0 :: zq_getfg 8 zG0 :: zq_calli 72 1 4 4 :: zq_ildg zG1 :: zq_if_lt 26 :: zq_ildg zG1 :: zq_aldg zG0 :: zq_getfg 8 zG4 :: zq_getfg 4 zG2 :: zq_ic_lt 28 :: xb_154_1
noncomputable def xf_154_0 : zE → zKn := fun E => zq_aldg zG0 (zq_getfg 8 zG4 (zq_aldg zG0 (zq_getfg 8 zG0 (zq_calli 72 1 4 4 (zq_ildg zG1 (zq_if_lt 26 (zq_ildg zG1 (zq_aldg zG0 (zq_getfg 8 zG4 (zq_getfg 4 zG2 (zq_ic_lt 28 (xf_154_1 E) E) E) E) E) E) E) E) E) E) E) E) E
theorem xe_154_0 : xf_154_0 = zEx xb_154_0 := by
  unfold xf_154_0 xb_154_0
  rw [xe_154_1]
  rfl
theorem xc_154_0 : zCd 154 [0, 26, 28, 64, 77, 90, 106, 107, 108, 118, 134] 0 xb_154_0 := zc_aload_n xj_154 1 0 rfl rfl zf_ald_0 (zc_getf xj_154 4 32 8 4 88 rfl rfl (zf_getf_4 _) (zc_aload_n xj_154 5 0 rfl rfl zf_ald_0 (zc_getf xj_154 8 12 8 0 84 rfl rfl (zf_getf_0 _) (zc_invokevirtual1 xj_154 11 225 72 1 141 4 4 rfl rfl rfl rfl (zc_iload_n xj_154 12 1 rfl rfl zf_ild_1 (zc_if_lt xj_154 15 14 26 rfl rfl rfl (zc_iload_n xj_154 16 1 rfl rfl zf_ild_1 (zc_aload_n xj_154 17 0 rfl rfl zf_ald_0 (zc_getf xj_154 20 32 8 4 88 rfl rfl (zf_getf_4 _) (zc_getf xj_154 23 228 4 2 65 rfl rfl (zf_getf_2 _) (zc_ic_lt xj_154 26 5 28 rfl rfl rfl (xc_154_1))))))))))))
noncomputable def xm_154 : Lean.RArray (zE → zKn) := .branch 90 (.branch 28 (.branch 26 (.leaf xf_154_0) (.leaf xf_154_1)) (.branch 64 (.leaf xf_154_2) (.branch 77 (.leaf xf_154_3) (.leaf xf_154_4)))) (.branch 108 (.branch 106 (.leaf xf_154_5) (.branch 107 (.leaf xf_154_6) (.leaf xf_154_7))) (.branch 118 (.leaf xf_154_8) (.branch 134 (.leaf xf_154_9) (.leaf xf_154_10))))
theorem xa_154 : zCdAll 154 [0, 26, 28, 64, 77, 90, 106, 107, 108, 118, 134] xm_154 := zAll2_ok (P := fun t => ∃ c, zCd 154 [0, 26, 28, 64, 77, 90, 106, 107, 108, 118, 134] t c ∧ xm_154.get t = zEx c) ⟨⟨_, xc_154_0, xe_154_0⟩, ⟨_, xc_154_1, xe_154_1⟩, ⟨_, xc_154_2, xe_154_2⟩, ⟨_, xc_154_3, xe_154_3⟩, ⟨_, xc_154_4, xe_154_4⟩, ⟨_, xc_154_5, xe_154_5⟩, ⟨_, xc_154_6, xe_154_6⟩, ⟨_, xc_154_7, xe_154_7⟩, ⟨_, xc_154_8, xe_154_8⟩, ⟨_, xc_154_9, xe_154_9⟩, ⟨_, xc_154_10, xe_154_10⟩, trivial⟩
/-- SquareMesh.firm -/
theorem xj_155 : ∀ pc, pI 155 pc = pJ_155 pc := fun _ => rfl
noncomputable def xb_155_3 : List zF := [zq_ildg zG1, zq_iret 0]
noncomputable def xf_155_3 : zE → zKn := fun E => zq_ildg zG1 (zq_iret 0 (zNil) E) E
theorem xe_155_3 : xf_155_3 = zEx xb_155_3 := by
  unfold xf_155_3 xb_155_3
  rfl
theorem xc_155_3 : zCd 155 [0, 15, 53, 59] 59 xb_155_3 := zc_iload_n xj_155 60 1 rfl rfl zf_ild_1 (zc_ireturn0 xj_155 61 rfl rfl (trivial))
noncomputable def xb_155_2 : List zF := [zq_incg zG2 zE2 1, zq_goto 15]
noncomputable def xf_155_2 : zE → zKn := fun E => zq_incg zG2 zE2 1 (zq_goto 15 (zNil) E) E
theorem xe_155_2 : xf_155_2 = zEx xb_155_2 := by
  unfold xf_155_2 xb_155_2
  rfl
theorem xc_155_2 : zCd 155 [0, 15, 53, 59] 53 xb_155_2 := zc_iinc xj_155 56 2 1 1 rfl rfl rfl (zf_inc_2 _) (zc_goto xj_155 57 (-41) 15 rfl rfl rfl (trivial))
noncomputable def xb_155_1 : List zF := zq_ildg zG2 :: zq_aldg zG0 :: zq_getfg 8 zG4 :: zq_getfg 4 zG2 :: zq_ic_ge 59 :: zq_aldg zG0 :: zq_getfg 8 zG4 :: zq_getfg 4 zG1 :: zq_ildg zG2 :: zq_ild_ 0 :: zq_if_ne 53 :: zq_ildg zG1 :: zq_aldg zG0 :: zq_getfg 8 zG4 :: zq_aldg zG0 :: zq_getfg 8 zG0 :: zq_ildg zG2 :: zq_calli 76 2 4 5 :: zq_add :: zq_istg zE1 :: xb_155_2
noncomputable def xf_155_1 : zE → zKn := fun E => zq_ildg zG2 (zq_aldg zG0 (zq_getfg 8 zG4 (zq_getfg 4 zG2 (zq_ic_ge 59 (zq_aldg zG0 (zq_getfg 8 zG4 (zq_getfg 4 zG1 (zq_ildg zG2 (zq_ild_ 0 (zq_if_ne 53 (zq_ildg zG1 (zq_aldg zG0 (zq_getfg 8 zG4 (zq_aldg zG0 (zq_getfg 8 zG0 (zq_ildg zG2 (zq_calli 76 2 4 5 (zq_add (zq_istg zE1 (xf_155_2 E) E) E) E) E) E) E) E) E) E) E) E) E) E) E) E) E) E) E) E) E
theorem xe_155_1 : xf_155_1 = zEx xb_155_1 := by
  unfold xf_155_1 xb_155_1
  rw [xe_155_2]
  rfl
theorem xc_155_1 : zCd 155 [0, 15, 53, 59] 15 xb_155_1 := zc_iload_n xj_155 16 2 rfl rfl zf_ild_2 (zc_aload_n xj_155 17 0 rfl rfl zf_ald_0 (zc_getf xj_155 20 32 8 4 88 rfl rfl (zf_getf_4 _) (zc_getf xj_155 23 228 4 2 65 rfl rfl (zf_getf_2 _) (zc_ic_ge xj_155 26 36 59 rfl rfl rfl (zc_aload_n xj_155 27 0 rfl rfl zf_ald_0 (zc_getf xj_155 30 32 8 4 88 rfl rfl (zf_getf_4 _) (zc_getf xj_155 33 306 4 1 63 rfl rfl (zf_getf_1 _) (zc_iload_n xj_155 34 2 rfl rfl zf_ild_2 (zc_iaload xj_155 35 rfl rfl (zc_if_ne xj_155 38 18 53 rfl rfl rfl (zc_iload_n xj_155 39 1 rfl rfl zf_ild_1 (zc_aload_n xj_155 40 0 rfl rfl zf_ald_0 (zc_getf xj_155 43 32 8 4 88 rfl rfl (zf_getf_4 _) (zc_aload_n xj_155 44 0 rfl rfl zf_ald_0 (zc_getf xj_155 47 12 8 0 84 rfl rfl (zf_getf_0 _) (zc_iload_n xj_155 48 2 rfl rfl zf_ild_2 (zc_invokevirtual1 xj_155 51 304 76 2 188 4 5 rfl rfl rfl rfl (zc_iadd xj_155 52 rfl rfl (zc_istore_n xj_155 53 1 rfl rfl zf_ist_1 (xc_155_2))))))))))))))))))))
noncomputable def xb_155_0 : List zF := zq_aldg zG0 :: zq_getfg 8 zG4 :: zq_aldg zG0 :: zq_getfg 8 zG0 :: zq_calli 72 1 4 4 :: zq_k 0 :: zq_istg zE1 :: zq_k 0 :: zq_istg zE2 :: xb_155_1
noncomputable def xf_155_0 : zE → zKn := fun E => zq_aldg zG0 (zq_getfg 8 zG4 (zq_aldg zG0 (zq_getfg 8 zG0 (zq_calli 72 1 4 4 (zq_k 0 (zq_istg zE1 (zq_k 0 (zq_istg zE2 (xf_155_1 E) E) E) E) E) E) E) E) E) E
theorem xe_155_0 : xf_155_0 = zEx xb_155_0 := by
  unfold xf_155_0 xb_155_0
  rw [xe_155_1]
  rfl
theorem xc_155_0 : zCd 155 [0, 15, 53, 59] 0 xb_155_0 := zc_aload_n xj_155 1 0 rfl rfl zf_ald_0 (zc_getf xj_155 4 32 8 4 88 rfl rfl (zf_getf_4 _) (zc_aload_n xj_155 5 0 rfl rfl zf_ald_0 (zc_getf xj_155 8 12 8 0 84 rfl rfl (zf_getf_0 _) (zc_invokevirtual1 xj_155 11 225 72 1 141 4 4 rfl rfl rfl rfl (zc_iconst xj_155 12 0 0 rfl rfl rfl (zc_istore_n xj_155 13 1 rfl rfl zf_ist_1 (zc_iconst xj_155 14 0 0 rfl rfl rfl (zc_istore_n xj_155 15 2 rfl rfl zf_ist_2 (xc_155_1)))))))))
noncomputable def xm_155 : Lean.RArray (zE → zKn) := .branch 53 (.branch 15 (.leaf xf_155_0) (.leaf xf_155_1)) (.branch 59 (.leaf xf_155_2) (.leaf xf_155_3))
theorem xa_155 : zCdAll 155 [0, 15, 53, 59] xm_155 := zAll2_ok (P := fun t => ∃ c, zCd 155 [0, 15, 53, 59] t c ∧ xm_155.get t = zEx c) ⟨⟨_, xc_155_0, xe_155_0⟩, ⟨_, xc_155_1, xe_155_1⟩, ⟨_, xc_155_2, xe_155_2⟩, ⟨_, xc_155_3, xe_155_3⟩, trivial⟩
/-- SquareMesh.nearest -/
theorem xj_156 : ∀ pc, pI 156 pc = pJ_156 pc := fun _ => rfl
noncomputable def xb_156_5 : List zF := [zq_ildg zG3, zq_iret 0]
noncomputable def xf_156_5 : zE → zKn := fun E => zq_ildg zG3 (zq_iret 0 (zNil) E) E
theorem xe_156_5 : xf_156_5 = zEx xb_156_5 := by
  unfold xf_156_5 xb_156_5
  rfl
theorem xc_156_5 : zCd 156 [0, 10, 18, 99, 106, 112] 112 xb_156_5 := zc_iload_n xj_156 113 3 rfl rfl zf_ild_3 (zc_ireturn0 xj_156 114 rfl rfl (trivial))
noncomputable def xb_156_4 : List zF := [zq_incg zG5 zE5 1, zq_goto 18]
noncomputable def xf_156_4 : zE → zKn := fun E => zq_incg zG5 zE5 1 (zq_goto 18 (zNil) E) E
theorem xe_156_4 : xf_156_4 = zEx xb_156_4 := by
  unfold xf_156_4 xb_156_4
  rfl
theorem xc_156_4 : zCd 156 [0, 10, 18, 99, 106, 112] 106 xb_156_4 := zc_iinc xj_156 109 5 1 1 rfl rfl rfl (zf_inc_5 _) (zc_goto xj_156 110 (-91) 18 rfl rfl rfl (trivial))
noncomputable def xb_156_3 : List zF := zq_ildg zG5 :: zq_istg zE3 :: zq_ildg zG8 :: zq_istg zE4 :: xb_156_4
noncomputable def xf_156_3 : zE → zKn := fun E => zq_ildg zG5 (zq_istg zE3 (zq_ildg zG8 (zq_istg zE4 (xf_156_4 E) E) E) E) E
theorem xe_156_3 : xf_156_3 = zEx xb_156_3 := by
  unfold xf_156_3 xb_156_3
  rw [xe_156_4]
  rfl
theorem xc_156_3 : zCd 156 [0, 10, 18, 99, 106, 112] 99 xb_156_3 := zc_iload xj_156 101 5 rfl rfl zf_ild_5 (zc_istore_n xj_156 102 3 rfl rfl zf_ist_3 (zc_iload xj_156 104 8 rfl rfl zf_ild_8 (zc_istore xj_156 106 4 rfl rfl zf_ist_4 (xc_156_4))))
noncomputable def xb_156_2 : List zF := zq_ildg zG5 :: zq_k 40 :: zq_ic_ge 112 :: zq_aldg zG0 :: zq_getfg 8 zG0 :: zq_getfg 1 zG0 :: zq_ildg zG5 :: zq_calli 82 1 5 2 :: zq_if_eq 106 :: zq_aldg zG0 :: zq_getfg 8 zG0 :: zq_getfg 1 zG0 :: zq_getfg 5 zG0 :: zq_ildg zG5 :: zq_ild_ 0 :: zq_ildg zG1 :: zq_sub :: zq_istg zE6 :: zq_aldg zG0 :: zq_getfg 8 zG0 :: zq_getfg 1 zG0 :: zq_getfg 5 zG1 :: zq_ildg zG5 :: zq_ild_ 0 :: zq_ildg zG2 :: zq_sub :: zq_istg zE7 :: zq_ildg zG6 :: zq_ildg zG6 :: zq_mul :: zq_ildg zG7 :: zq_ildg zG7 :: zq_mul :: zq_add :: zq_istg zE8 :: zq_ildg zG3 :: zq_k 4294967295 :: zq_ic_eq 99 :: zq_ildg zG8 :: zq_ildg zG4 :: zq_ic_ge 106 :: xb_156_3
noncomputable def xf_156_2 : zE → zKn := fun E => zq_ildg zG5 (zq_k 40 (zq_ic_ge 112 (zq_aldg zG0 (zq_getfg 8 zG0 (zq_getfg 1 zG0 (zq_ildg zG5 (zq_calli 82 1 5 2 (zq_if_eq 106 (zq_aldg zG0 (zq_getfg 8 zG0 (zq_getfg 1 zG0 (zq_getfg 5 zG0 (zq_ildg zG5 (zq_ild_ 0 (zq_ildg zG1 (zq_sub (zq_istg zE6 (zq_aldg zG0 (zq_getfg 8 zG0 (zq_getfg 1 zG0 (zq_getfg 5 zG1 (zq_ildg zG5 (zq_ild_ 0 (zq_ildg zG2 (zq_sub (zq_istg zE7 (zq_ildg zG6 (zq_ildg zG6 (zq_mul (zq_ildg zG7 (zq_ildg zG7 (zq_mul (zq_add (zq_istg zE8 (zq_ildg zG3 (zq_k 4294967295 (zq_ic_eq 99 (zq_ildg zG8 (zq_ildg zG4 (zq_ic_ge 106 (xf_156_3 E) E) E) E) E) E) E) E) E) E) E) E) E) E) E) E) E) E) E) E) E) E) E) E) E) E) E) E) E) E) E) E) E) E) E) E) E) E) E) E) E) E
set_option maxRecDepth 100000 in
theorem xe_156_2 : xf_156_2 = zEx xb_156_2 := by
  unfold xf_156_2 xb_156_2
  rw [xe_156_3]
  rfl
theorem xc_156_2 : zCd 156 [0, 10, 18, 99, 106, 112] 18 xb_156_2 := zc_iload xj_156 20 5 rfl rfl zf_ild_5 (zc_bipush xj_156 22 40 40 rfl rfl rfl (zc_ic_ge xj_156 25 90 112 rfl rfl rfl (zc_aload_n xj_156 26 0 rfl rfl zf_ald_0 (zc_getf xj_156 29 12 8 0 84 rfl rfl (zf_getf_0 _) (zc_getf xj_156 32 75 1 0 25 rfl rfl (zf_getf_0 _) (zc_iload xj_156 34 5 rfl rfl zf_ild_5 (zc_invokevirtual1 xj_156 37 127 82 1 98 5 2 rfl rfl rfl rfl (zc_if_eq xj_156 40 69 106 rfl rfl rfl (zc_aload_n xj_156 41 0 rfl rfl zf_ald_0 (zc_getf xj_156 44 12 8 0 84 rfl rfl (zf_getf_0 _) (zc_getf xj_156 47 75 1 0 25 rfl rfl (zf_getf_0 _) (zc_getf xj_156 50 147 5 0 1 rfl rfl (zf_getf_0 _) (zc_iload xj_156 52 5 rfl rfl zf_ild_5 (zc_iaload xj_156 53 rfl rfl (zc_iload_n xj_156 54 1 rfl rfl zf_ild_1 (zc_isub xj_156 55 rfl rfl (zc_istore xj_156 57 6 rfl rfl zf_ist_6 (zc_aload_n xj_156 58 0 rfl rfl zf_ald_0 (zc_getf xj_156 61 12 8 0 84 rfl rfl (zf_getf_0 _) (zc_getf xj_156 64 75 1 0 25 rfl rfl (zf_getf_0 _) (zc_getf xj_156 67 155 5 1 4 rfl rfl (zf_getf_1 _) (zc_iload xj_156 69 5 rfl rfl zf_ild_5 (zc_iaload xj_156 70 rfl rfl (zc_iload_n xj_156 71 2 rfl rfl zf_ild_2 (zc_isub xj_156 72 rfl rfl (zc_istore xj_156 74 7 rfl rfl zf_ist_7 (zc_iload xj_156 76 6 rfl rfl zf_ild_6 (zc_iload xj_156 78 6 rfl rfl zf_ild_6 (zc_imul xj_156 79 rfl rfl (zc_iload xj_156 81 7 rfl rfl zf_ild_7 (zc_iload xj_156 83 7 rfl rfl zf_ild_7 (zc_imul xj_156 84 rfl rfl (zc_iadd xj_156 85 rfl rfl (zc_istore xj_156 87 8 rfl rfl zf_ist_8 (zc_iload_n xj_156 88 3 rfl rfl zf_ild_3 (zc_iconst xj_156 89 (-1) 4294967295 rfl rfl rfl (zc_ic_eq xj_156 92 10 99 rfl rfl rfl (zc_iload xj_156 94 8 rfl rfl zf_ild_8 (zc_iload xj_156 96 4 rfl rfl zf_ild_4 (zc_ic_ge xj_156 99 10 106 rfl rfl rfl (xc_156_3)))))))))))))))))))))))))))))))))))))))))
noncomputable def xb_156_1 : List zF := zq_k 4294967295 :: zq_istg zE3 :: zq_k 0 :: zq_istg zE4 :: zq_k 0 :: zq_istg zE5 :: xb_156_2
noncomputable def xf_156_1 : zE → zKn := fun E => zq_k 4294967295 (zq_istg zE3 (zq_k 0 (zq_istg zE4 (zq_k 0 (zq_istg zE5 (xf_156_2 E) E) E) E) E) E) E
theorem xe_156_1 : xf_156_1 = zEx xb_156_1 := by
  unfold xf_156_1 xb_156_1
  rw [xe_156_2]
  rfl
theorem xc_156_1 : zCd 156 [0, 10, 18, 99, 106, 112] 10 xb_156_1 := zc_iconst xj_156 11 (-1) 4294967295 rfl rfl rfl (zc_istore_n xj_156 12 3 rfl rfl zf_ist_3 (zc_iconst xj_156 13 0 0 rfl rfl rfl (zc_istore xj_156 15 4 rfl rfl zf_ist_4 (zc_iconst xj_156 16 0 0 rfl rfl rfl (zc_istore xj_156 18 5 rfl rfl zf_ist_5 (xc_156_2))))))
noncomputable def xb_156_0 : List zF := [zq_ildg zG1, zq_ildg zG2, zq_calls 182 2 2, zq_if_ne 10, zq_k 4294967295, zq_iret 0]
noncomputable def xf_156_0 : zE → zKn := fun E => zq_ildg zG1 (zq_ildg zG2 (zq_calls 182 2 2 (zq_if_ne 10 (zq_k 4294967295 (zq_iret 0 (zNil) E) E) E) E) E) E
theorem xe_156_0 : xf_156_0 = zEx xb_156_0 := by
  unfold xf_156_0 xb_156_0
  rfl
theorem xc_156_0 : zCd 156 [0, 10, 18, 99, 106, 112] 0 xb_156_0 := zc_iload_n xj_156 1 1 rfl rfl zf_ild_1 (zc_iload_n xj_156 2 2 rfl rfl zf_ild_2 (zc_invokestatic2 xj_156 5 100 182 2 76 0 2 rfl rfl rfl rfl (zc_if_ne xj_156 8 5 10 rfl rfl rfl (zc_iconst xj_156 9 (-1) 4294967295 rfl rfl rfl (zc_ireturn0 xj_156 10 rfl rfl (trivial))))))
noncomputable def xm_156 : Lean.RArray (zE → zKn) := .branch 99 (.branch 10 (.leaf xf_156_0) (.branch 18 (.leaf xf_156_1) (.leaf xf_156_2))) (.branch 106 (.leaf xf_156_3) (.branch 112 (.leaf xf_156_4) (.leaf xf_156_5)))
theorem xa_156 : zCdAll 156 [0, 10, 18, 99, 106, 112] xm_156 := zAll2_ok (P := fun t => ∃ c, zCd 156 [0, 10, 18, 99, 106, 112] t c ∧ xm_156.get t = zEx c) ⟨⟨_, xc_156_0, xe_156_0⟩, ⟨_, xc_156_1, xe_156_1⟩, ⟨_, xc_156_2, xe_156_2⟩, ⟨_, xc_156_3, xe_156_3⟩, ⟨_, xc_156_4, xe_156_4⟩, ⟨_, xc_156_5, xe_156_5⟩, trivial⟩
/-- SquareMesh.length -/
theorem xj_157 : ∀ pc, pI 157 pc = pJ_157 pc := fun _ => rfl
noncomputable def xb_157_6 : List zF := [zq_ildg zG2, zq_iret 0]
noncomputable def xf_157_6 : zE → zKn := fun E => zq_ildg zG2 (zq_iret 0 (zNil) E) E
theorem xe_157_6 : xf_157_6 = zEx xb_157_6 := by
  unfold xf_157_6 xb_157_6
  rfl
theorem xc_157_6 : zCd 157 [0, 11, 22, 56, 62, 65, 71] 71 xb_157_6 := zc_iload_n xj_157 72 2 rfl rfl zf_ild_2 (zc_ireturn0 xj_157 73 rfl rfl (trivial))
noncomputable def xb_157_5 : List zF := [zq_incg zG3 zE3 1, zq_goto 22]
noncomputable def xf_157_5 : zE → zKn := fun E => zq_incg zG3 zE3 1 (zq_goto 22 (zNil) E) E
theorem xe_157_5 : xf_157_5 = zEx xb_157_5 := by
  unfold xf_157_5 xb_157_5
  rfl
theorem xc_157_5 : zCd 157 [0, 11, 22, 56, 62, 65, 71] 65 xb_157_5 := zc_iinc xj_157 68 3 1 1 rfl rfl rfl (zf_inc_3 _) (zc_goto xj_157 69 (-46) 22 rfl rfl rfl (trivial))
noncomputable def xb_157_4 : List zF := zq_ildg zG4 :: zq_istg zE2 :: xb_157_5
noncomputable def xf_157_4 : zE → zKn := fun E => zq_ildg zG4 (zq_istg zE2 (xf_157_5 E) E) E
theorem xe_157_4 : xf_157_4 = zEx xb_157_4 := by
  unfold xf_157_4 xb_157_4
  rw [xe_157_5]
  rfl
theorem xc_157_4 : zCd 157 [0, 11, 22, 56, 62, 65, 71] 62 xb_157_4 := zc_iload xj_157 64 4 rfl rfl zf_ild_4 (zc_istore_n xj_157 65 2 rfl rfl zf_ist_2 (xc_157_5))
noncomputable def xb_157_3 : List zF := zq_ildg zG4 :: zq_ildg zG2 :: zq_ic_le 65 :: xb_157_4
noncomputable def xf_157_3 : zE → zKn := fun E => zq_ildg zG4 (zq_ildg zG2 (zq_ic_le 65 (xf_157_4 E) E) E) E
theorem xe_157_3 : xf_157_3 = zEx xb_157_3 := by
  unfold xf_157_3 xb_157_3
  rw [xe_157_4]
  rfl
theorem xc_157_3 : zCd 157 [0, 11, 22, 56, 62, 65, 71] 56 xb_157_3 := zc_iload xj_157 58 4 rfl rfl zf_ild_4 (zc_iload_n xj_157 59 2 rfl rfl zf_ild_2 (zc_ic_le xj_157 62 6 65 rfl rfl rfl (xc_157_4)))
noncomputable def xb_157_2 : List zF := [zq_ildg zG3, zq_aldg zG0, zq_getfg 8 zG0, zq_getfg 1 zG8, zq_ic_ge 71, zq_aldg zG0, zq_getfg 8 zG0, zq_ildg zG3, zq_calli 42 1 1 2, zq_istg zE4, zq_ildg zG1, zq_if_ne 56, zq_ildg zG4, zq_ildg zG2, zq_ic_ge 65, zq_goto 62]
noncomputable def xf_157_2 : zE → zKn := fun E => zq_ildg zG3 (zq_aldg zG0 (zq_getfg 8 zG0 (zq_getfg 1 zG8 (zq_ic_ge 71 (zq_aldg zG0 (zq_getfg 8 zG0 (zq_ildg zG3 (zq_calli 42 1 1 2 (zq_istg zE4 (zq_ildg zG1 (zq_if_ne 56 (zq_ildg zG4 (zq_ildg zG2 (zq_ic_ge 65 (zq_goto 62 (zNil) E) E) E) E) E) E) E) E) E) E) E) E) E) E) E) E
theorem xe_157_2 : xf_157_2 = zEx xb_157_2 := by
  unfold xf_157_2 xb_157_2
  rfl
theorem xc_157_2 : zCd 157 [0, 11, 22, 56, 62, 65, 71] 22 xb_157_2 := zc_iload_n xj_157 23 3 rfl rfl zf_ild_3 (zc_aload_n xj_157 24 0 rfl rfl zf_ald_0 (zc_getf xj_157 27 12 8 0 84 rfl rfl (zf_getf_0 _) (zc_getf xj_157 30 204 1 8 51 rfl rfl (zf_getf_8 _) (zc_ic_ge xj_157 33 41 71 rfl rfl rfl (zc_aload_n xj_157 34 0 rfl rfl zf_ald_0 (zc_getf xj_157 37 12 8 0 84 rfl rfl (zf_getf_0 _) (zc_iload_n xj_157 38 3 rfl rfl zf_ild_3 (zc_invokevirtual1 xj_157 41 313 42 1 195 1 2 rfl rfl rfl rfl (zc_istore xj_157 43 4 rfl rfl zf_ist_4 (zc_iload_n xj_157 44 1 rfl rfl zf_ild_1 (zc_if_ne xj_157 47 12 56 rfl rfl rfl (zc_iload xj_157 49 4 rfl rfl zf_ild_4 (zc_iload_n xj_157 50 2 rfl rfl zf_ild_2 (zc_ic_ge xj_157 53 15 65 rfl rfl rfl (zc_goto xj_157 54 9 62 rfl rfl rfl (trivial))))))))))))))))
noncomputable def xb_157_1 : List zF := zq_aldg zG0 :: zq_getfg 8 zG0 :: zq_k 0 :: zq_calli 42 1 1 2 :: zq_istg zE2 :: zq_k 1 :: zq_istg zE3 :: xb_157_2
noncomputable def xf_157_1 : zE → zKn := fun E => zq_aldg zG0 (zq_getfg 8 zG0 (zq_k 0 (zq_calli 42 1 1 2 (zq_istg zE2 (zq_k 1 (zq_istg zE3 (xf_157_2 E) E) E) E) E) E) E) E
theorem xe_157_1 : xf_157_1 = zEx xb_157_1 := by
  unfold xf_157_1 xb_157_1
  rw [xe_157_2]
  rfl
theorem xc_157_1 : zCd 157 [0, 11, 22, 56, 62, 65, 71] 11 xb_157_1 := zc_aload_n xj_157 12 0 rfl rfl zf_ald_0 (zc_getf xj_157 15 12 8 0 84 rfl rfl (zf_getf_0 _) (zc_iconst xj_157 16 0 0 rfl rfl rfl (zc_invokevirtual1 xj_157 19 313 42 1 195 1 2 rfl rfl rfl rfl (zc_istore_n xj_157 20 2 rfl rfl zf_ist_2 (zc_iconst xj_157 21 1 1 rfl rfl rfl (zc_istore_n xj_157 22 3 rfl rfl zf_ist_3 (xc_157_2)))))))
noncomputable def xb_157_0 : List zF := [zq_ildg zG1, zq_if_eq 11, zq_ildg zG1, zq_k 1, zq_ic_eq 11, zq_k 4294967295, zq_iret 0]
noncomputable def xf_157_0 : zE → zKn := fun E => zq_ildg zG1 (zq_if_eq 11 (zq_ildg zG1 (zq_k 1 (zq_ic_eq 11 (zq_k 4294967295 (zq_iret 0 (zNil) E) E) E) E) E) E) E
theorem xe_157_0 : xf_157_0 = zEx xb_157_0 := by
  unfold xf_157_0 xb_157_0
  rfl
theorem xc_157_0 : zCd 157 [0, 11, 22, 56, 62, 65, 71] 0 xb_157_0 := zc_iload_n xj_157 1 1 rfl rfl zf_ild_1 (zc_if_eq xj_157 4 10 11 rfl rfl rfl (zc_iload_n xj_157 5 1 rfl rfl zf_ild_1 (zc_iconst xj_157 6 1 1 rfl rfl rfl (zc_ic_eq xj_157 9 5 11 rfl rfl rfl (zc_iconst xj_157 10 (-1) 4294967295 rfl rfl rfl (zc_ireturn0 xj_157 11 rfl rfl (trivial)))))))
noncomputable def xm_157 : Lean.RArray (zE → zKn) := .branch 56 (.branch 11 (.leaf xf_157_0) (.branch 22 (.leaf xf_157_1) (.leaf xf_157_2))) (.branch 65 (.branch 62 (.leaf xf_157_3) (.leaf xf_157_4)) (.branch 71 (.leaf xf_157_5) (.leaf xf_157_6)))
theorem xa_157 : zCdAll 157 [0, 11, 22, 56, 62, 65, 71] xm_157 := zAll2_ok (P := fun t => ∃ c, zCd 157 [0, 11, 22, 56, 62, 65, 71] t c ∧ xm_157.get t = zEx c) ⟨⟨_, xc_157_0, xe_157_0⟩, ⟨_, xc_157_1, xe_157_1⟩, ⟨_, xc_157_2, xe_157_2⟩, ⟨_, xc_157_3, xe_157_3⟩, ⟨_, xc_157_4, xe_157_4⟩, ⟨_, xc_157_5, xe_157_5⟩, ⟨_, xc_157_6, xe_157_6⟩, trivial⟩
/-- SquareMesh.busiest -/
theorem xj_158 : ∀ pc, pI 158 pc = pJ_158 pc := fun _ => rfl
noncomputable def xb_158_6 : List zF := [zq_ildg zG2, zq_iret 0]
noncomputable def xf_158_6 : zE → zKn := fun E => zq_ildg zG2 (zq_iret 0 (zNil) E) E
theorem xe_158_6 : xf_158_6 = zEx xb_158_6 := by
  unfold xf_158_6 xb_158_6
  rfl
theorem xc_158_6 : zCd 158 [0, 11, 15, 74, 79, 81, 87] 87 xb_158_6 := zc_iload_n xj_158 88 2 rfl rfl zf_ild_2 (zc_ireturn0 xj_158 89 rfl rfl (trivial))
noncomputable def xb_158_5 : List zF := [zq_incg zG3 zE3 1, zq_goto 15]
noncomputable def xf_158_5 : zE → zKn := fun E => zq_incg zG3 zE3 1 (zq_goto 15 (zNil) E) E
theorem xe_158_5 : xf_158_5 = zEx xb_158_5 := by
  unfold xf_158_5 xb_158_5
  rfl
theorem xc_158_5 : zCd 158 [0, 11, 15, 74, 79, 81, 87] 81 xb_158_5 := zc_iinc xj_158 84 3 1 1 rfl rfl rfl (zf_inc_3 _) (zc_goto xj_158 85 (-69) 15 rfl rfl rfl (trivial))
noncomputable def xb_158_4 : List zF := zq_ildg zG3 :: zq_istg zE2 :: xb_158_5
noncomputable def xf_158_4 : zE → zKn := fun E => zq_ildg zG3 (zq_istg zE2 (xf_158_5 E) E) E
theorem xe_158_4 : xf_158_4 = zEx xb_158_4 := by
  unfold xf_158_4 xb_158_4
  rw [xe_158_5]
  rfl
theorem xc_158_4 : zCd 158 [0, 11, 15, 74, 79, 81, 87] 79 xb_158_4 := zc_iload_n xj_158 80 3 rfl rfl zf_ild_3 (zc_istore_n xj_158 81 2 rfl rfl zf_ist_2 (xc_158_5))
noncomputable def xb_158_3 : List zF := zq_ildg zG4 :: zq_if_ge 81 :: xb_158_4
noncomputable def xf_158_3 : zE → zKn := fun E => zq_ildg zG4 (zq_if_ge 81 (xf_158_4 E) E) E
theorem xe_158_3 : xf_158_3 = zEx xb_158_3 := by
  unfold xf_158_3 xb_158_3
  rw [xe_158_4]
  rfl
theorem xc_158_3 : zCd 158 [0, 11, 15, 74, 79, 81, 87] 74 xb_158_3 := zc_iload xj_158 76 4 rfl rfl zf_ild_4 (zc_if_ge xj_158 79 5 81 rfl rfl rfl (xc_158_4))
noncomputable def xb_158_2 : List zF := [zq_ildg zG3, zq_k 40, zq_ic_ge 87, zq_aldg zG0, zq_getfg 8 zG0, zq_getfg 1 zG0, zq_ildg zG3, zq_calli 82 1 5 2, zq_if_eq 81, zq_aldg zG0, zq_getfg 8 zG0, zq_getfg 1 zG5, zq_ildg zG3, zq_ild_ 1, zq_calls 350 1 2, zq_aldg zG0, zq_getfg 8 zG0, zq_getfg 1 zG5, zq_ildg zG2, zq_ild_ 1, zq_calls 350 1 2, zq_sub, zq_istg zE4, zq_ildg zG1, zq_if_ne 74, zq_ildg zG4, zq_if_le 81, zq_goto 79]
noncomputable def xf_158_2 : zE → zKn := fun E => zq_ildg zG3 (zq_k 40 (zq_ic_ge 87 (zq_aldg zG0 (zq_getfg 8 zG0 (zq_getfg 1 zG0 (zq_ildg zG3 (zq_calli 82 1 5 2 (zq_if_eq 81 (zq_aldg zG0 (zq_getfg 8 zG0 (zq_getfg 1 zG5 (zq_ildg zG3 (zq_ild_ 1 (zq_calls 350 1 2 (zq_aldg zG0 (zq_getfg 8 zG0 (zq_getfg 1 zG5 (zq_ildg zG2 (zq_ild_ 1 (zq_calls 350 1 2 (zq_sub (zq_istg zE4 (zq_ildg zG1 (zq_if_ne 74 (zq_ildg zG4 (zq_if_le 81 (zq_goto 79 (zNil) E) E) E) E) E) E) E) E) E) E) E) E) E) E) E) E) E) E) E) E) E) E) E) E) E) E) E) E
theorem xe_158_2 : xf_158_2 = zEx xb_158_2 := by
  unfold xf_158_2 xb_158_2
  rfl
theorem xc_158_2 : zCd 158 [0, 11, 15, 74, 79, 81, 87] 15 xb_158_2 := zc_iload_n xj_158 16 3 rfl rfl zf_ild_3 (zc_bipush xj_158 18 40 40 rfl rfl rfl (zc_ic_ge xj_158 21 69 87 rfl rfl rfl (zc_aload_n xj_158 22 0 rfl rfl zf_ald_0 (zc_getf xj_158 25 12 8 0 84 rfl rfl (zf_getf_0 _) (zc_getf xj_158 28 75 1 0 25 rfl rfl (zf_getf_0 _) (zc_iload_n xj_158 29 3 rfl rfl zf_ild_3 (zc_invokevirtual1 xj_158 32 127 82 1 98 5 2 rfl rfl rfl rfl (zc_if_eq xj_158 35 49 81 rfl rfl rfl (zc_aload_n xj_158 36 0 rfl rfl zf_ald_0 (zc_getf xj_158 39 12 8 0 84 rfl rfl (zf_getf_0 _) (zc_getf xj_158 42 233 1 5 41 rfl rfl (zf_getf_5 _) (zc_iload_n xj_158 43 3 rfl rfl zf_ild_3 (zc_laload xj_158 44 rfl rfl (zc_invokestatic2 xj_158 47 237 350 1 149 0 2 rfl rfl rfl rfl (zc_aload_n xj_158 48 0 rfl rfl zf_ald_0 (zc_getf xj_158 51 12 8 0 84 rfl rfl (zf_getf_0 _) (zc_getf xj_158 54 233 1 5 41 rfl rfl (zf_getf_5 _) (zc_iload_n xj_158 55 2 rfl rfl zf_ild_2 (zc_laload xj_158 56 rfl rfl (zc_invokestatic2 xj_158 59 237 350 1 149 0 2 rfl rfl rfl rfl (zc_isub xj_158 60 rfl rfl (zc_istore xj_158 62 4 rfl rfl zf_ist_4 (zc_iload_n xj_158 63 1 rfl rfl zf_ild_1 (zc_if_ne xj_158 66 11 74 rfl rfl rfl (zc_iload xj_158 68 4 rfl rfl zf_ild_4 (zc_if_le xj_158 71 13 81 rfl rfl rfl (zc_goto xj_158 72 8 79 rfl rfl rfl (trivial))))))))))))))))))))))))))))
noncomputable def xb_158_1 : List zF := zq_k 0 :: zq_istg zE2 :: zq_k 1 :: zq_istg zE3 :: xb_158_2
noncomputable def xf_158_1 : zE → zKn := fun E => zq_k 0 (zq_istg zE2 (zq_k 1 (zq_istg zE3 (xf_158_2 E) E) E) E) E
theorem xe_158_1 : xf_158_1 = zEx xb_158_1 := by
  unfold xf_158_1 xb_158_1
  rw [xe_158_2]
  rfl
theorem xc_158_1 : zCd 158 [0, 11, 15, 74, 79, 81, 87] 11 xb_158_1 := zc_iconst xj_158 12 0 0 rfl rfl rfl (zc_istore_n xj_158 13 2 rfl rfl zf_ist_2 (zc_iconst xj_158 14 1 1 rfl rfl rfl (zc_istore_n xj_158 15 3 rfl rfl zf_ist_3 (xc_158_2))))
noncomputable def xb_158_0 : List zF := [zq_ildg zG1, zq_if_eq 11, zq_ildg zG1, zq_k 1, zq_ic_eq 11, zq_k 4294967295, zq_iret 0]
noncomputable def xf_158_0 : zE → zKn := fun E => zq_ildg zG1 (zq_if_eq 11 (zq_ildg zG1 (zq_k 1 (zq_ic_eq 11 (zq_k 4294967295 (zq_iret 0 (zNil) E) E) E) E) E) E) E
theorem xe_158_0 : xf_158_0 = zEx xb_158_0 := by
  unfold xf_158_0 xb_158_0
  rfl
theorem xc_158_0 : zCd 158 [0, 11, 15, 74, 79, 81, 87] 0 xb_158_0 := zc_iload_n xj_158 1 1 rfl rfl zf_ild_1 (zc_if_eq xj_158 4 10 11 rfl rfl rfl (zc_iload_n xj_158 5 1 rfl rfl zf_ild_1 (zc_iconst xj_158 6 1 1 rfl rfl rfl (zc_ic_eq xj_158 9 5 11 rfl rfl rfl (zc_iconst xj_158 10 (-1) 4294967295 rfl rfl rfl (zc_ireturn0 xj_158 11 rfl rfl (trivial)))))))
noncomputable def xm_158 : Lean.RArray (zE → zKn) := .branch 74 (.branch 11 (.leaf xf_158_0) (.branch 15 (.leaf xf_158_1) (.leaf xf_158_2))) (.branch 81 (.branch 79 (.leaf xf_158_3) (.leaf xf_158_4)) (.branch 87 (.leaf xf_158_5) (.leaf xf_158_6)))
theorem xa_158 : zCdAll 158 [0, 11, 15, 74, 79, 81, 87] xm_158 := zAll2_ok (P := fun t => ∃ c, zCd 158 [0, 11, 15, 74, 79, 81, 87] t c ∧ xm_158.get t = zEx c) ⟨⟨_, xc_158_0, xe_158_0⟩, ⟨_, xc_158_1, xe_158_1⟩, ⟨_, xc_158_2, xe_158_2⟩, ⟨_, xc_158_3, xe_158_3⟩, ⟨_, xc_158_4, xe_158_4⟩, ⟨_, xc_158_5, xe_158_5⟩, ⟨_, xc_158_6, xe_158_6⟩, trivial⟩
/-- SquareMesh.thinnest -/
theorem xj_159 : ∀ pc, pI 159 pc = pJ_159 pc := fun _ => rfl
noncomputable def xb_159_0 : List zF := [zq_aldg zG0, zq_getfg 8 zG0, zq_calli 55 0 1 11, zq_iret 0]
noncomputable def xf_159_0 : zE → zKn := fun E => zq_aldg zG0 (zq_getfg 8 zG0 (zq_calli 55 0 1 11 (zq_iret 0 (zNil) E) E) E) E
theorem xe_159_0 : xf_159_0 = zEx xb_159_0 := by
  unfold xf_159_0 xb_159_0
  rfl
theorem xc_159_0 : zCd 159 [0] 0 xb_159_0 := zc_aload_n xj_159 1 0 rfl rfl zf_ald_0 (zc_getf xj_159 4 12 8 0 84 rfl rfl (zf_getf_0 _) (zc_invokevirtual1 xj_159 7 137 55 0 101 1 11 rfl rfl rfl rfl (zc_ireturn0 xj_159 8 rfl rfl (trivial))))
noncomputable def xm_159 : Lean.RArray (zE → zKn) := .leaf xf_159_0
theorem xa_159 : zCdAll 159 [0] xm_159 := zAll2_ok (P := fun t => ∃ c, zCd 159 [0] t c ∧ xm_159.get t = zEx c) ⟨⟨_, xc_159_0, xe_159_0⟩, trivial⟩
/-- SquareMesh.circle -/
theorem xj_160 : ∀ pc, pI 160 pc = pJ_160 pc := fun _ => rfl
noncomputable def xb_160_2 : List zF := [zq_aldg zG0, zq_getfg 8 zG0, zq_ildg zG1, zq_ildg zG2, zq_ildg zG3, zq_calli 30 3 1 6, zq_kl 0, zq_calls 349 2 4, zq_iret 0]
noncomputable def xf_160_2 : zE → zKn := fun E => zq_aldg zG0 (zq_getfg 8 zG0 (zq_ildg zG1 (zq_ildg zG2 (zq_ildg zG3 (zq_calli 30 3 1 6 (zq_kl 0 (zq_calls 349 2 4 (zq_iret 0 (zNil) E) E) E) E) E) E) E) E) E
theorem xe_160_2 : xf_160_2 = zEx xb_160_2 := by
  unfold xf_160_2 xb_160_2
  rfl
theorem xc_160_2 : zCd 160 [0, 19, 22] 22 xb_160_2 := zc_aload_n xj_160 23 0 rfl rfl zf_ald_0 (zc_getf xj_160 26 12 8 0 84 rfl rfl (zf_getf_0 _) (zc_iload_n xj_160 27 1 rfl rfl zf_ild_1 (zc_iload_n xj_160 28 2 rfl rfl zf_ild_2 (zc_iload_n xj_160 29 3 rfl rfl zf_ild_3 (zc_invokevirtual1 xj_160 32 316 30 3 199 1 6 rfl rfl rfl rfl (zc_lconst xj_160 33 0 rfl rfl (zc_invokestatic2 xj_160 36 320 349 2 200 0 4 rfl rfl rfl rfl (zc_ireturn0 xj_160 37 rfl rfl (trivial)))))))))
noncomputable def xb_160_1 : List zF := [zq_k 4294967294, zq_iret 0]
noncomputable def xf_160_1 : zE → zKn := fun E => zq_k 4294967294 (zq_iret 0 (zNil) E) E
theorem xe_160_1 : xf_160_1 = zEx xb_160_1 := by
  unfold xf_160_1 xb_160_1
  rfl
theorem xc_160_1 : zCd 160 [0, 19, 22] 19 xb_160_1 := zc_bipush xj_160 21 (-2) 4294967294 rfl rfl rfl (zc_ireturn0 xj_160 22 rfl rfl (trivial))
noncomputable def xb_160_0 : List zF := zq_aldg zG0 :: zq_getfg 8 zG0 :: zq_ildg zG1 :: zq_calli 34 1 1 2 :: zq_if_eq 19 :: zq_ildg zG2 :: zq_ildg zG3 :: zq_calls 182 2 2 :: zq_if_ne 22 :: xb_160_1
noncomputable def xf_160_0 : zE → zKn := fun E => zq_aldg zG0 (zq_getfg 8 zG0 (zq_ildg zG1 (zq_calli 34 1 1 2 (zq_if_eq 19 (zq_ildg zG2 (zq_ildg zG3 (zq_calls 182 2 2 (zq_if_ne 22 (xf_160_1 E) E) E) E) E) E) E) E) E) E
theorem xe_160_0 : xf_160_0 = zEx xb_160_0 := by
  unfold xf_160_0 xb_160_0
  rw [xe_160_1]
  rfl
theorem xc_160_0 : zCd 160 [0, 19, 22] 0 xb_160_0 := zc_aload_n xj_160 1 0 rfl rfl zf_ald_0 (zc_getf xj_160 4 12 8 0 84 rfl rfl (zf_getf_0 _) (zc_iload_n xj_160 5 1 rfl rfl zf_ild_1 (zc_invokevirtual1 xj_160 8 249 34 1 154 1 2 rfl rfl rfl rfl (zc_if_eq xj_160 11 11 19 rfl rfl rfl (zc_iload_n xj_160 12 2 rfl rfl zf_ild_2 (zc_iload_n xj_160 13 3 rfl rfl zf_ild_3 (zc_invokestatic2 xj_160 16 100 182 2 76 0 2 rfl rfl rfl rfl (zc_if_ne xj_160 19 6 22 rfl rfl rfl (xc_160_1)))))))))
noncomputable def xm_160 : Lean.RArray (zE → zKn) := .branch 19 (.leaf xf_160_0) (.branch 22 (.leaf xf_160_1) (.leaf xf_160_2))
theorem xa_160 : zCdAll 160 [0, 19, 22] xm_160 := zAll2_ok (P := fun t => ∃ c, zCd 160 [0, 19, 22] t c ∧ xm_160.get t = zEx c) ⟨⟨_, xc_160_0, xe_160_0⟩, ⟨_, xc_160_1, xe_160_1⟩, ⟨_, xc_160_2, xe_160_2⟩, trivial⟩
/-- SquareMesh.mean -/
theorem xj_161 : ∀ pc, pI 161 pc = pJ_161 pc := fun _ => rfl
noncomputable def xb_161_4 : List zF := [zq_lret]
noncomputable def xf_161_4 : zE → zKn := fun E => zq_lret (zNil) E
theorem xe_161_4 : xf_161_4 = zEx xb_161_4 := by
  unfold xf_161_4 xb_161_4
  rfl
theorem xc_161_4 : zCd 161 [0, 4, 33, 60, 61] 61 xb_161_4 := zc_lreturn xj_161 62 rfl rfl (trivial)
noncomputable def xb_161_3 : List zF := zq_kl 0 :: xb_161_4
noncomputable def xf_161_3 : zE → zKn := fun E => zq_kl 0 (xf_161_4 E) E
theorem xe_161_3 : xf_161_3 = zEx xb_161_3 := by
  unfold xf_161_3 xb_161_3
  rw [xe_161_4]
  rfl
theorem xc_161_3 : zCd 161 [0, 4, 33, 60, 61] 60 xb_161_3 := zc_lconst xj_161 61 0 rfl rfl (xc_161_4)
noncomputable def xb_161_2 : List zF := [zq_aldg zG0, zq_getfg 8 zG0, zq_getfg 1 zG8, zq_if_le 60, zq_lldg zG1, zq_bad, zq_aldg zG0, zq_getfg 8 zG0, zq_getfg 1 zG8, zq_bad, zq_bad, zq_calls 162 1 7, zq_goto 61]
noncomputable def xf_161_2 : zE → zKn := fun E => zq_aldg zG0 (zq_getfg 8 zG0 (zq_getfg 1 zG8 (zq_if_le 60 (zq_lldg zG1 (zq_bad (zq_aldg zG0 (zq_getfg 8 zG0 (zq_getfg 1 zG8 (zq_bad (zq_bad (zq_calls 162 1 7 (zq_goto 61 (zNil) E) E) E) E) E) E) E) E) E) E) E) E) E
theorem xe_161_2 : xf_161_2 = zEx xb_161_2 := by
  unfold xf_161_2 xb_161_2
  rfl
theorem xc_161_2 : zCd 161 [0, 4, 33, 60, 61] 33 xb_161_2 := zc_aload_n xj_161 34 0 rfl rfl zf_ald_0 (zc_getf xj_161 37 12 8 0 84 rfl rfl (zf_getf_0 _) (zc_getf xj_161 40 204 1 8 51 rfl rfl (zf_getf_8 _) (zc_if_le xj_161 43 20 60 rfl rfl rfl (zc_lload_n xj_161 44 1 rfl rfl zf_lld_1 (zc_any xj_161 45 (.l2d) [] rfl rfl (zq_bad) rfl rfl (zc_aload_n xj_161 46 0 rfl rfl zf_ald_0 (zc_getf xj_161 49 12 8 0 84 rfl rfl (zf_getf_0 _) (zc_getf xj_161 52 204 1 8 51 rfl rfl (zf_getf_8 _) (zc_any xj_161 53 (.i2d) [] rfl rfl (zq_bad) rfl rfl (zc_any xj_161 54 (.ddiv) [] rfl rfl (zq_bad) rfl rfl (zc_invokestatic2 xj_161 57 324 162 1 202 0 7 rfl rfl rfl rfl (zc_goto xj_161 58 4 61 rfl rfl rfl (trivial)))))))))))))
noncomputable def xb_161_1 : List zF := [zq_ildg zG3, zq_aldg zG0, zq_getfg 8 zG0, zq_getfg 1 zG8, zq_ic_ge 33, zq_lldg zG1, zq_aldg zG0, zq_getfg 8 zG0, zq_ildg zG3, zq_calli 42 1 1 2, zq_i2l, zq_ladd, zq_lst 1, zq_incg zG3 zE3 1, zq_goto 4]
noncomputable def xf_161_1 : zE → zKn := fun E => zq_ildg zG3 (zq_aldg zG0 (zq_getfg 8 zG0 (zq_getfg 1 zG8 (zq_ic_ge 33 (zq_lldg zG1 (zq_aldg zG0 (zq_getfg 8 zG0 (zq_ildg zG3 (zq_calli 42 1 1 2 (zq_i2l (zq_ladd (zq_lst 1 (zq_incg zG3 zE3 1 (zq_goto 4 (zNil) E) E) E) E) E) E) E) E) E) E) E) E) E) E) E
theorem xe_161_1 : xf_161_1 = zEx xb_161_1 := by
  unfold xf_161_1 xb_161_1
  rfl
theorem xc_161_1 : zCd 161 [0, 4, 33, 60, 61] 4 xb_161_1 := zc_iload_n xj_161 5 3 rfl rfl zf_ild_3 (zc_aload_n xj_161 6 0 rfl rfl zf_ald_0 (zc_getf xj_161 9 12 8 0 84 rfl rfl (zf_getf_0 _) (zc_getf xj_161 12 204 1 8 51 rfl rfl (zf_getf_8 _) (zc_ic_ge xj_161 15 21 33 rfl rfl rfl (zc_lload_n xj_161 16 1 rfl rfl zf_lld_1 (zc_aload_n xj_161 17 0 rfl rfl zf_ald_0 (zc_getf xj_161 20 12 8 0 84 rfl rfl (zf_getf_0 _) (zc_iload_n xj_161 21 3 rfl rfl zf_ild_3 (zc_invokevirtual1 xj_161 24 313 42 1 195 1 2 rfl rfl rfl rfl (zc_i2l xj_161 25 rfl rfl (zc_ladd xj_161 26 rfl rfl (zc_lstore_n xj_161 27 1 rfl rfl rfl (zc_iinc xj_161 30 3 1 1 rfl rfl rfl (zf_inc_3 _) (zc_goto xj_161 31 (-26) 4 rfl rfl rfl (trivial)))))))))))))))
noncomputable def xb_161_0 : List zF := zq_kl 0 :: zq_lst 1 :: zq_k 0 :: zq_istg zE3 :: xb_161_1
noncomputable def xf_161_0 : zE → zKn := fun E => zq_kl 0 (zq_lst 1 (zq_k 0 (zq_istg zE3 (xf_161_1 E) E) E) E) E
theorem xe_161_0 : xf_161_0 = zEx xb_161_0 := by
  unfold xf_161_0 xb_161_0
  rw [xe_161_1]
  rfl
theorem xc_161_0 : zCd 161 [0, 4, 33, 60, 61] 0 xb_161_0 := zc_lconst xj_161 1 0 rfl rfl (zc_lstore_n xj_161 2 1 rfl rfl rfl (zc_iconst xj_161 3 0 0 rfl rfl rfl (zc_istore_n xj_161 4 3 rfl rfl zf_ist_3 (xc_161_1))))
noncomputable def xm_161 : Lean.RArray (zE → zKn) := .branch 33 (.branch 4 (.leaf xf_161_0) (.leaf xf_161_1)) (.branch 60 (.leaf xf_161_2) (.branch 61 (.leaf xf_161_3) (.leaf xf_161_4)))
theorem xa_161 : zCdAll 161 [0, 4, 33, 60, 61] xm_161 := zAll2_ok (P := fun t => ∃ c, zCd 161 [0, 4, 33, 60, 61] t c ∧ xm_161.get t = zEx c) ⟨⟨_, xc_161_0, xe_161_0⟩, ⟨_, xc_161_1, xe_161_1⟩, ⟨_, xc_161_2, xe_161_2⟩, ⟨_, xc_161_3, xe_161_3⟩, ⟨_, xc_161_4, xe_161_4⟩, trivial⟩
/-- SquareMesh.bitsOf -/
theorem xj_162 : ∀ pc, pI 162 pc = pJ_162 pc := fun _ => rfl
noncomputable def xb_162_2 : List zF := [zq_lldg zG4, zq_k 52, zq_lshl, zq_bad, zq_bad, zq_kl 4503599627370496, zq_lsub, zq_ladd, zq_lret]
noncomputable def xf_162_2 : zE → zKn := fun E => zq_lldg zG4 (zq_k 52 (zq_lshl (zq_bad (zq_bad (zq_kl 4503599627370496 (zq_lsub (zq_ladd (zq_lret (zNil) E) E) E) E) E) E) E) E) E
theorem xe_162_2 : xf_162_2 = zEx xb_162_2 := by
  unfold xf_162_2 xb_162_2
  rfl
theorem xc_162_2 : zCd 162 [0, 10, 43] 43 xb_162_2 := zc_lload xj_162 45 4 rfl rfl zf_lld_4 (zc_bipush xj_162 47 52 52 rfl rfl rfl (zc_lshl xj_162 48 rfl rfl (zc_any xj_162 49 (.dload_n 2) [] rfl rfl (zq_bad) rfl rfl (zc_any xj_162 50 (.d2l) [] rfl rfl (zq_bad) rfl rfl (zc_ldc2_w xj_162 53 334 4503599627370496 7 rfl rfl rfl (zc_lsub xj_162 54 rfl rfl (zc_ladd xj_162 55 rfl rfl (zc_lreturn xj_162 56 rfl rfl (trivial)))))))))
noncomputable def xb_162_1 : List zF := [zq_ildg zG6, zq_k 64, zq_ic_ge 43, zq_bad, zq_bad, zq_bad, zq_if_ge 43, zq_bad, zq_bad, zq_bad, zq_bad, zq_lldg zG4, zq_kl 1, zq_lsub, zq_lst 4, zq_incg zG6 zE6 1, zq_goto 10]
noncomputable def xf_162_1 : zE → zKn := fun E => zq_ildg zG6 (zq_k 64 (zq_ic_ge 43 (zq_bad (zq_bad (zq_bad (zq_if_ge 43 (zq_bad (zq_bad (zq_bad (zq_bad (zq_lldg zG4 (zq_kl 1 (zq_lsub (zq_lst 4 (zq_incg zG6 zE6 1 (zq_goto 10 (zNil) E) E) E) E) E) E) E) E) E) E) E) E) E) E) E) E) E
theorem xe_162_1 : xf_162_1 = zEx xb_162_1 := by
  unfold xf_162_1 xb_162_1
  rfl
theorem xc_162_1 : zCd 162 [0, 10, 43] 10 xb_162_1 := zc_iload xj_162 12 6 rfl rfl zf_ild_6 (zc_bipush xj_162 14 64 64 rfl rfl rfl (zc_ic_ge xj_162 17 29 43 rfl rfl rfl (zc_any xj_162 18 (.dload_n 2) [] rfl rfl (zq_bad) rfl rfl (zc_any xj_162 21 (.ldc2_w 330) [4841369599423283200, 0, 1] rfl rfl (zq_bad) rfl rfl (zc_any xj_162 22 (.dcmp .g) [] rfl rfl (zq_bad) rfl rfl (zc_if_ge xj_162 25 21 43 rfl rfl rfl (zc_any xj_162 26 (.dload_n 2) [] rfl rfl (zq_bad) rfl rfl (zc_any xj_162 29 (.ldc2_w 332) [4611686018427387904, 1, 1] rfl rfl (zq_bad) rfl rfl (zc_any xj_162 30 (.dmul) [] rfl rfl (zq_bad) rfl rfl (zc_any xj_162 31 (.dstore_n 2) [] rfl rfl (zq_bad) rfl rfl (zc_lload xj_162 33 4 rfl rfl zf_lld_4 (zc_lconst xj_162 34 1 rfl rfl (zc_lsub xj_162 35 rfl rfl (zc_lstore xj_162 37 4 rfl rfl rfl (zc_iinc xj_162 40 6 1 1 rfl rfl rfl (zf_inc_6 _) (zc_goto xj_162 41 (-30) 10 rfl rfl rfl (trivial)))))))))))))))))
noncomputable def xb_162_0 : List zF := zq_bad :: zq_bad :: zq_kl 1075 :: zq_lst 4 :: zq_k 0 :: zq_istg zE6 :: xb_162_1
noncomputable def xf_162_0 : zE → zKn := fun E => zq_bad (zq_bad (zq_kl 1075 (zq_lst 4 (zq_k 0 (zq_istg zE6 (xf_162_1 E) E) E) E) E) E) E
theorem xe_162_0 : xf_162_0 = zEx xb_162_0 := by
  unfold xf_162_0 xb_162_0
  rw [xe_162_1]
  rfl
theorem xc_162_0 : zCd 162 [0, 10, 43] 0 xb_162_0 := zc_any xj_162 1 (.dload_n 0) [] rfl rfl (zq_bad) rfl rfl (zc_any xj_162 2 (.dstore_n 2) [] rfl rfl (zq_bad) rfl rfl (zc_ldc2_w xj_162 5 328 1075 6 rfl rfl rfl (zc_lstore xj_162 7 4 rfl rfl rfl (zc_iconst xj_162 8 0 0 rfl rfl rfl (zc_istore xj_162 10 6 rfl rfl zf_ist_6 (xc_162_1))))))
noncomputable def xm_162 : Lean.RArray (zE → zKn) := .branch 10 (.leaf xf_162_0) (.branch 43 (.leaf xf_162_1) (.leaf xf_162_2))
theorem xa_162 : zCdAll 162 [0, 10, 43] xm_162 := zAll2_ok (P := fun t => ∃ c, zCd 162 [0, 10, 43] t c ∧ xm_162.get t = zEx c) ⟨⟨_, xc_162_0, xe_162_0⟩, ⟨_, xc_162_1, xe_162_1⟩, ⟨_, xc_162_2, xe_162_2⟩, trivial⟩
/-- SquareMesh.tree -/
theorem xj_163 : ∀ pc, pI 163 pc = pJ_163 pc := fun _ => rfl
noncomputable def xb_163_9 : List zF := [zq_k 4294967295, zq_iret 0]
noncomputable def xf_163_9 : zE → zKn := fun E => zq_k 4294967295 (zq_iret 0 (zNil) E) E
theorem xe_163_9 : xf_163_9 = zEx xb_163_9 := by
  unfold xf_163_9 xb_163_9
  rfl
theorem xc_163_9 : zCd 163 [0, 30, 31, 32, 47, 49, 88, 100, 114, 123] 123 xb_163_9 := zc_iconst xj_163 124 (-1) 4294967295 rfl rfl rfl (zc_ireturn0 xj_163 125 rfl rfl (trivial))
noncomputable def xb_163_8 : List zF := [zq_aldg zG0, zq_getfg 8 zG0, zq_ildg zG3, zq_calli 42 1 1 2, zq_iret 0]
noncomputable def xf_163_8 : zE → zKn := fun E => zq_aldg zG0 (zq_getfg 8 zG0 (zq_ildg zG3 (zq_calli 42 1 1 2 (zq_iret 0 (zNil) E) E) E) E) E
theorem xe_163_8 : xf_163_8 = zEx xb_163_8 := by
  unfold xf_163_8 xb_163_8
  rfl
theorem xc_163_8 : zCd 163 [0, 30, 31, 32, 47, 49, 88, 100, 114, 123] 114 xb_163_8 := zc_aload_n xj_163 115 0 rfl rfl zf_ald_0 (zc_getf xj_163 118 12 8 0 84 rfl rfl (zf_getf_0 _) (zc_iload_n xj_163 119 3 rfl rfl zf_ild_3 (zc_invokevirtual1 xj_163 122 313 42 1 195 1 2 rfl rfl rfl rfl (zc_ireturn0 xj_163 123 rfl rfl (trivial)))))
noncomputable def xb_163_7 : List zF := [zq_aldg zG0, zq_getfg 8 zG0, zq_getfg 1 zG4, zq_k 2, zq_ildg zG3, zq_mul, zq_k 1, zq_add, zq_ild_ 0, zq_iret 0]
noncomputable def xf_163_7 : zE → zKn := fun E => zq_aldg zG0 (zq_getfg 8 zG0 (zq_getfg 1 zG4 (zq_k 2 (zq_ildg zG3 (zq_mul (zq_k 1 (zq_add (zq_ild_ 0 (zq_iret 0 (zNil) E) E) E) E) E) E) E) E) E) E
theorem xe_163_7 : xf_163_7 = zEx xb_163_7 := by
  unfold xf_163_7 xb_163_7
  rfl
theorem xc_163_7 : zCd 163 [0, 30, 31, 32, 47, 49, 88, 100, 114, 123] 100 xb_163_7 := zc_aload_n xj_163 101 0 rfl rfl zf_ald_0 (zc_getf xj_163 104 12 8 0 84 rfl rfl (zf_getf_0 _) (zc_getf xj_163 107 343 1 4 38 rfl rfl (zf_getf_4 _) (zc_iconst xj_163 108 2 2 rfl rfl rfl (zc_iload_n xj_163 109 3 rfl rfl zf_ild_3 (zc_imul xj_163 110 rfl rfl (zc_iconst xj_163 111 1 1 rfl rfl rfl (zc_iadd xj_163 112 rfl rfl (zc_iaload xj_163 113 rfl rfl (zc_ireturn0 xj_163 114 rfl rfl (trivial))))))))))
noncomputable def xb_163_6 : List zF := [zq_aldg zG0, zq_getfg 8 zG0, zq_getfg 1 zG4, zq_k 2, zq_ildg zG3, zq_mul, zq_ild_ 0, zq_iret 0]
noncomputable def xf_163_6 : zE → zKn := fun E => zq_aldg zG0 (zq_getfg 8 zG0 (zq_getfg 1 zG4 (zq_k 2 (zq_ildg zG3 (zq_mul (zq_ild_ 0 (zq_iret 0 (zNil) E) E) E) E) E) E) E) E
theorem xe_163_6 : xf_163_6 = zEx xb_163_6 := by
  unfold xf_163_6 xb_163_6
  rfl
theorem xc_163_6 : zCd 163 [0, 30, 31, 32, 47, 49, 88, 100, 114, 123] 88 xb_163_6 := zc_aload_n xj_163 89 0 rfl rfl zf_ald_0 (zc_getf xj_163 92 12 8 0 84 rfl rfl (zf_getf_0 _) (zc_getf xj_163 95 343 1 4 38 rfl rfl (zf_getf_4 _) (zc_iconst xj_163 96 2 2 rfl rfl rfl (zc_iload_n xj_163 97 3 rfl rfl zf_ild_3 (zc_imul xj_163 98 rfl rfl (zc_iaload xj_163 99 rfl rfl (zc_ireturn0 xj_163 100 rfl rfl (trivial))))))))
noncomputable def xb_163_5 : List zF := [zq_aldg zG0, zq_getfg 8 zG7, zq_getfg 6 zG0, zq_ildg zG1, zq_ild_ 0, zq_istg zE3, zq_ildg zG2, zq_tab 0 [88, 100, 114] 123]
noncomputable def xf_163_5 : zE → zKn := fun E => zq_aldg zG0 (zq_getfg 8 zG7 (zq_getfg 6 zG0 (zq_ildg zG1 (zq_ild_ 0 (zq_istg zE3 (zq_ildg zG2 (zq_tab 0 [88, 100, 114] 123 (zNil) E) E) E) E) E) E) E) E
theorem xe_163_5 : xf_163_5 = zEx xb_163_5 := by
  unfold xf_163_5 xb_163_5
  rfl
theorem xc_163_5 : zCd 163 [0, 30, 31, 32, 47, 49, 88, 100, 114, 123] 49 xb_163_5 := zc_aload_n xj_163 50 0 rfl rfl zf_ald_0 (zc_getf xj_163 53 53 8 7 91 rfl rfl (zf_getf_7 _) (zc_getf xj_163 56 340 6 0 76 rfl rfl (zf_getf_0 _) (zc_iload_n xj_163 57 1 rfl rfl zf_ild_1 (zc_iaload xj_163 58 rfl rfl (zc_istore_n xj_163 59 3 rfl rfl zf_ist_3 (zc_iload_n xj_163 60 2 rfl rfl zf_ild_2 (zc_tab xj_163 61 63 0 2 #[28, 40, 54] 123 [88, 100, 114] 0 rfl rfl rfl rfl rfl (trivial))))))))
noncomputable def xb_163_4 : List zF := [zq_k 4294967295, zq_iret 0]
noncomputable def xf_163_4 : zE → zKn := fun E => zq_k 4294967295 (zq_iret 0 (zNil) E) E
theorem xe_163_4 : xf_163_4 = zEx xb_163_4 := by
  unfold xf_163_4 xb_163_4
  rfl
theorem xc_163_4 : zCd 163 [0, 30, 31, 32, 47, 49, 88, 100, 114, 123] 47 xb_163_4 := zc_iconst xj_163 48 (-1) 4294967295 rfl rfl rfl (zc_ireturn0 xj_163 49 rfl rfl (trivial))
noncomputable def xb_163_3 : List zF := zq_ildg zG1 :: zq_if_lt 47 :: zq_ildg zG1 :: zq_aldg zG0 :: zq_getfg 8 zG7 :: zq_getfg 6 zG1 :: zq_ic_lt 49 :: xb_163_4
noncomputable def xf_163_3 : zE → zKn := fun E => zq_ildg zG1 (zq_if_lt 47 (zq_ildg zG1 (zq_aldg zG0 (zq_getfg 8 zG7 (zq_getfg 6 zG1 (zq_ic_lt 49 (xf_163_4 E) E) E) E) E) E) E) E
theorem xe_163_3 : xf_163_3 = zEx xb_163_3 := by
  unfold xf_163_3 xb_163_3
  rw [xe_163_4]
  rfl
theorem xc_163_3 : zCd 163 [0, 30, 31, 32, 47, 49, 88, 100, 114, 123] 32 xb_163_3 := zc_iload_n xj_163 33 1 rfl rfl zf_ild_1 (zc_if_lt xj_163 36 14 47 rfl rfl rfl (zc_iload_n xj_163 37 1 rfl rfl zf_ild_1 (zc_aload_n xj_163 38 0 rfl rfl zf_ald_0 (zc_getf xj_163 41 53 8 7 91 rfl rfl (zf_getf_7 _) (zc_getf xj_163 44 339 6 1 78 rfl rfl (zf_getf_1 _) (zc_ic_lt xj_163 47 5 49 rfl rfl rfl (xc_163_4)))))))
noncomputable def xb_163_2 : List zF := [zq_iret 0]
noncomputable def xf_163_2 : zE → zKn := fun E => zq_iret 0 (zNil) E
theorem xe_163_2 : xf_163_2 = zEx xb_163_2 := by
  unfold xf_163_2 xb_163_2
  rfl
theorem xc_163_2 : zCd 163 [0, 30, 31, 32, 47, 49, 88, 100, 114, 123] 31 xb_163_2 := zc_ireturn0 xj_163 32 rfl rfl (trivial)
noncomputable def xb_163_1 : List zF := zq_k 4294967295 :: xb_163_2
noncomputable def xf_163_1 : zE → zKn := fun E => zq_k 4294967295 (xf_163_2 E) E
theorem xe_163_1 : xf_163_1 = zEx xb_163_1 := by
  unfold xf_163_1 xb_163_1
  rw [xe_163_2]
  rfl
theorem xc_163_1 : zCd 163 [0, 30, 31, 32, 47, 49, 88, 100, 114, 123] 30 xb_163_1 := zc_iconst xj_163 31 (-1) 4294967295 rfl rfl rfl (xc_163_2)
noncomputable def xb_163_0 : List zF := [zq_aldg zG0, zq_getfg 8 zG7, zq_aldg zG0, zq_getfg 8 zG0, zq_calli 103 1 6 4, zq_ildg zG1, zq_k 4294967295, zq_ic_ne 32, zq_ildg zG2, zq_if_ne 30, zq_aldg zG0, zq_getfg 8 zG7, zq_getfg 6 zG1, zq_goto 31]
noncomputable def xf_163_0 : zE → zKn := fun E => zq_aldg zG0 (zq_getfg 8 zG7 (zq_aldg zG0 (zq_getfg 8 zG0 (zq_calli 103 1 6 4 (zq_ildg zG1 (zq_k 4294967295 (zq_ic_ne 32 (zq_ildg zG2 (zq_if_ne 30 (zq_aldg zG0 (zq_getfg 8 zG7 (zq_getfg 6 zG1 (zq_goto 31 (zNil) E) E) E) E) E) E) E) E) E) E) E) E) E) E
theorem xe_163_0 : xf_163_0 = zEx xb_163_0 := by
  unfold xf_163_0 xb_163_0
  rfl
theorem xc_163_0 : zCd 163 [0, 30, 31, 32, 47, 49, 88, 100, 114, 123] 0 xb_163_0 := zc_aload_n xj_163 1 0 rfl rfl zf_ald_0 (zc_getf xj_163 4 53 8 7 91 rfl rfl (zf_getf_7 _) (zc_aload_n xj_163 5 0 rfl rfl zf_ald_0 (zc_getf xj_163 8 12 8 0 84 rfl rfl (zf_getf_0 _) (zc_invokevirtual1 xj_163 11 336 103 1 204 6 4 rfl rfl rfl rfl (zc_iload_n xj_163 12 1 rfl rfl zf_ild_1 (zc_iconst xj_163 13 (-1) 4294967295 rfl rfl rfl (zc_ic_ne xj_163 16 19 32 rfl rfl rfl (zc_iload_n xj_163 17 2 rfl rfl zf_ild_2 (zc_if_ne xj_163 20 13 30 rfl rfl rfl (zc_aload_n xj_163 21 0 rfl rfl zf_ald_0 (zc_getf xj_163 24 53 8 7 91 rfl rfl (zf_getf_7 _) (zc_getf xj_163 27 339 6 1 78 rfl rfl (zf_getf_1 _) (zc_goto xj_163 28 4 31 rfl rfl rfl (trivial))))))))))))))
noncomputable def xm_163 : Lean.RArray (zE → zKn) := .branch 49 (.branch 31 (.branch 30 (.leaf xf_163_0) (.leaf xf_163_1)) (.branch 32 (.leaf xf_163_2) (.branch 47 (.leaf xf_163_3) (.leaf xf_163_4)))) (.branch 100 (.branch 88 (.leaf xf_163_5) (.leaf xf_163_6)) (.branch 114 (.leaf xf_163_7) (.branch 123 (.leaf xf_163_8) (.leaf xf_163_9))))
theorem xa_163 : zCdAll 163 [0, 30, 31, 32, 47, 49, 88, 100, 114, 123] xm_163 := zAll2_ok (P := fun t => ∃ c, zCd 163 [0, 30, 31, 32, 47, 49, 88, 100, 114, 123] t c ∧ xm_163.get t = zEx c) ⟨⟨_, xc_163_0, xe_163_0⟩, ⟨_, xc_163_1, xe_163_1⟩, ⟨_, xc_163_2, xe_163_2⟩, ⟨_, xc_163_3, xe_163_3⟩, ⟨_, xc_163_4, xe_163_4⟩, ⟨_, xc_163_5, xe_163_5⟩, ⟨_, xc_163_6, xe_163_6⟩, ⟨_, xc_163_7, xe_163_7⟩, ⟨_, xc_163_8, xe_163_8⟩, ⟨_, xc_163_9, xe_163_9⟩, trivial⟩
/-- SquareMesh.way -/
theorem xj_164 : ∀ pc, pI 164 pc = pJ_164 pc := fun _ => rfl
noncomputable def xb_164_4 : List zF := [zq_iret 0]
noncomputable def xf_164_4 : zE → zKn := fun E => zq_iret 0 (zNil) E
theorem xe_164_4 : xf_164_4 = zEx xb_164_4 := by
  unfold xf_164_4 xb_164_4
  rfl
theorem xc_164_4 : zCd 164 [0, 28, 30, 60, 74] 74 xb_164_4 := zc_ireturn0 xj_164 75 rfl rfl (trivial)
noncomputable def xb_164_3 : List zF := zq_aldg zG0 :: zq_getfg 8 zG5 :: zq_aldg zG0 :: zq_getfg 8 zG0 :: zq_ildg zG1 :: zq_ildg zG3 :: zq_k 1 :: zq_calli 112 4 7 7 :: xb_164_4
noncomputable def xf_164_3 : zE → zKn := fun E => zq_aldg zG0 (zq_getfg 8 zG5 (zq_aldg zG0 (zq_getfg 8 zG0 (zq_ildg zG1 (zq_ildg zG3 (zq_k 1 (zq_calli 112 4 7 7 (xf_164_4 E) E) E) E) E) E) E) E) E
theorem xe_164_3 : xf_164_3 = zEx xb_164_3 := by
  unfold xf_164_3 xb_164_3
  rw [xe_164_4]
  rfl
theorem xc_164_3 : zCd 164 [0, 28, 30, 60, 74] 60 xb_164_3 := zc_aload_n xj_164 61 0 rfl rfl zf_ald_0 (zc_getf xj_164 64 39 8 5 89 rfl rfl (zf_getf_5 _) (zc_aload_n xj_164 65 0 rfl rfl zf_ald_0 (zc_getf xj_164 68 12 8 0 84 rfl rfl (zf_getf_0 _) (zc_iload_n xj_164 69 1 rfl rfl zf_ild_1 (zc_iload_n xj_164 70 3 rfl rfl zf_ild_3 (zc_iconst xj_164 71 1 1 rfl rfl rfl (zc_invokevirtual1 xj_164 74 352 112 4 211 7 7 rfl rfl rfl rfl (xc_164_4))))))))
noncomputable def xb_164_2 : List zF := [zq_aldg zG0, zq_getfg 8 zG5, zq_aldg zG0, zq_getfg 8 zG0, zq_ildg zG2, zq_calli 109 2 7 10, zq_pop, zq_ildg zG3, zq_k 4294967295, zq_ic_ne 60, zq_aldg zG0, zq_getfg 8 zG5, zq_getfg 7 zG0, zq_ildg zG1, zq_ild_ 0, zq_goto 74]
noncomputable def xf_164_2 : zE → zKn := fun E => zq_aldg zG0 (zq_getfg 8 zG5 (zq_aldg zG0 (zq_getfg 8 zG0 (zq_ildg zG2 (zq_calli 109 2 7 10 (zq_pop (zq_ildg zG3 (zq_k 4294967295 (zq_ic_ne 60 (zq_aldg zG0 (zq_getfg 8 zG5 (zq_getfg 7 zG0 (zq_ildg zG1 (zq_ild_ 0 (zq_goto 74 (zNil) E) E) E) E) E) E) E) E) E) E) E) E) E) E) E) E
theorem xe_164_2 : xf_164_2 = zEx xb_164_2 := by
  unfold xf_164_2 xb_164_2
  rfl
theorem xc_164_2 : zCd 164 [0, 28, 30, 60, 74] 30 xb_164_2 := zc_aload_n xj_164 31 0 rfl rfl zf_ald_0 (zc_getf xj_164 34 39 8 5 89 rfl rfl (zf_getf_5 _) (zc_aload_n xj_164 35 0 rfl rfl zf_ald_0 (zc_getf xj_164 38 12 8 0 84 rfl rfl (zf_getf_0 _) (zc_iload_n xj_164 39 2 rfl rfl zf_ild_2 (zc_invokevirtual1 xj_164 42 346 109 2 209 7 10 rfl rfl rfl rfl (zc_pop xj_164 43 rfl rfl (zc_iload_n xj_164 44 3 rfl rfl zf_ild_3 (zc_iconst xj_164 45 (-1) 4294967295 rfl rfl rfl (zc_ic_ne xj_164 48 15 60 rfl rfl rfl (zc_aload_n xj_164 49 0 rfl rfl zf_ald_0 (zc_getf xj_164 52 39 8 5 89 rfl rfl (zf_getf_5 _) (zc_getf xj_164 55 349 7 0 68 rfl rfl (zf_getf_0 _) (zc_iload_n xj_164 56 1 rfl rfl zf_ild_1 (zc_iaload xj_164 57 rfl rfl (zc_goto xj_164 58 17 74 rfl rfl rfl (trivial))))))))))))))))
noncomputable def xb_164_1 : List zF := [zq_k 4294967295, zq_iret 0]
noncomputable def xf_164_1 : zE → zKn := fun E => zq_k 4294967295 (zq_iret 0 (zNil) E) E
theorem xe_164_1 : xf_164_1 = zEx xb_164_1 := by
  unfold xf_164_1 xb_164_1
  rfl
theorem xc_164_1 : zCd 164 [0, 28, 30, 60, 74] 28 xb_164_1 := zc_iconst xj_164 29 (-1) 4294967295 rfl rfl rfl (zc_ireturn0 xj_164 30 rfl rfl (trivial))
noncomputable def xb_164_0 : List zF := zq_aldg zG0 :: zq_getfg 8 zG0 :: zq_getfg 1 zG0 :: zq_ildg zG1 :: zq_calli 82 1 5 2 :: zq_if_eq 28 :: zq_aldg zG0 :: zq_getfg 8 zG0 :: zq_getfg 1 zG0 :: zq_ildg zG2 :: zq_calli 82 1 5 2 :: zq_if_ne 30 :: xb_164_1
noncomputable def xf_164_0 : zE → zKn := fun E => zq_aldg zG0 (zq_getfg 8 zG0 (zq_getfg 1 zG0 (zq_ildg zG1 (zq_calli 82 1 5 2 (zq_if_eq 28 (zq_aldg zG0 (zq_getfg 8 zG0 (zq_getfg 1 zG0 (zq_ildg zG2 (zq_calli 82 1 5 2 (zq_if_ne 30 (xf_164_1 E) E) E) E) E) E) E) E) E) E) E) E) E
theorem xe_164_0 : xf_164_0 = zEx xb_164_0 := by
  unfold xf_164_0 xb_164_0
  rw [xe_164_1]
  rfl
theorem xc_164_0 : zCd 164 [0, 28, 30, 60, 74] 0 xb_164_0 := zc_aload_n xj_164 1 0 rfl rfl zf_ald_0 (zc_getf xj_164 4 12 8 0 84 rfl rfl (zf_getf_0 _) (zc_getf xj_164 7 75 1 0 25 rfl rfl (zf_getf_0 _) (zc_iload_n xj_164 8 1 rfl rfl zf_ild_1 (zc_invokevirtual1 xj_164 11 127 82 1 98 5 2 rfl rfl rfl rfl (zc_if_eq xj_164 14 17 28 rfl rfl rfl (zc_aload_n xj_164 15 0 rfl rfl zf_ald_0 (zc_getf xj_164 18 12 8 0 84 rfl rfl (zf_getf_0 _) (zc_getf xj_164 21 75 1 0 25 rfl rfl (zf_getf_0 _) (zc_iload_n xj_164 22 2 rfl rfl zf_ild_2 (zc_invokevirtual1 xj_164 25 127 82 1 98 5 2 rfl rfl rfl rfl (zc_if_ne xj_164 28 5 30 rfl rfl rfl (xc_164_1))))))))))))
noncomputable def xm_164 : Lean.RArray (zE → zKn) := .branch 30 (.branch 28 (.leaf xf_164_0) (.leaf xf_164_1)) (.branch 60 (.leaf xf_164_2) (.branch 74 (.leaf xf_164_3) (.leaf xf_164_4)))
theorem xa_164 : zCdAll 164 [0, 28, 30, 60, 74] xm_164 := zAll2_ok (P := fun t => ∃ c, zCd 164 [0, 28, 30, 60, 74] t c ∧ xm_164.get t = zEx c) ⟨⟨_, xc_164_0, xe_164_0⟩, ⟨_, xc_164_1, xe_164_1⟩, ⟨_, xc_164_2, xe_164_2⟩, ⟨_, xc_164_3, xe_164_3⟩, ⟨_, xc_164_4, xe_164_4⟩, trivial⟩
/-- SquareMesh.shortest -/
theorem xj_165 : ∀ pc, pI 165 pc = pJ_165 pc := fun _ => rfl
noncomputable def xb_165_4 : List zF := [zq_iret 0]
noncomputable def xf_165_4 : zE → zKn := fun E => zq_iret 0 (zNil) E
theorem xe_165_4 : xf_165_4 = zEx xb_165_4 := by
  unfold xf_165_4 xb_165_4
  rfl
theorem xc_165_4 : zCd 165 [0, 28, 30, 59, 73] 73 xb_165_4 := zc_ireturn0 xj_165 74 rfl rfl (trivial)
noncomputable def xb_165_3 : List zF := zq_aldg zG0 :: zq_getfg 8 zG5 :: zq_aldg zG0 :: zq_getfg 8 zG0 :: zq_ildg zG1 :: zq_ildg zG3 :: zq_k 0 :: zq_calli 112 4 7 7 :: xb_165_4
noncomputable def xf_165_3 : zE → zKn := fun E => zq_aldg zG0 (zq_getfg 8 zG5 (zq_aldg zG0 (zq_getfg 8 zG0 (zq_ildg zG1 (zq_ildg zG3 (zq_k 0 (zq_calli 112 4 7 7 (xf_165_4 E) E) E) E) E) E) E) E) E
theorem xe_165_3 : xf_165_3 = zEx xb_165_3 := by
  unfold xf_165_3 xb_165_3
  rw [xe_165_4]
  rfl
theorem xc_165_3 : zCd 165 [0, 28, 30, 59, 73] 59 xb_165_3 := zc_aload_n xj_165 60 0 rfl rfl zf_ald_0 (zc_getf xj_165 63 39 8 5 89 rfl rfl (zf_getf_5 _) (zc_aload_n xj_165 64 0 rfl rfl zf_ald_0 (zc_getf xj_165 67 12 8 0 84 rfl rfl (zf_getf_0 _) (zc_iload_n xj_165 68 1 rfl rfl zf_ild_1 (zc_iload_n xj_165 69 3 rfl rfl zf_ild_3 (zc_iconst xj_165 70 0 0 rfl rfl rfl (zc_invokevirtual1 xj_165 73 352 112 4 211 7 7 rfl rfl rfl rfl (xc_165_4))))))))
noncomputable def xb_165_2 : List zF := [zq_aldg zG0, zq_getfg 8 zG5, zq_aldg zG0, zq_getfg 8 zG0, zq_ildg zG2, zq_calli 110 2 7 10, zq_ildg zG3, zq_k 4294967295, zq_ic_ne 59, zq_aldg zG0, zq_getfg 8 zG5, zq_getfg 7 zG0, zq_ildg zG1, zq_ild_ 0, zq_goto 73]
noncomputable def xf_165_2 : zE → zKn := fun E => zq_aldg zG0 (zq_getfg 8 zG5 (zq_aldg zG0 (zq_getfg 8 zG0 (zq_ildg zG2 (zq_calli 110 2 7 10 (zq_ildg zG3 (zq_k 4294967295 (zq_ic_ne 59 (zq_aldg zG0 (zq_getfg 8 zG5 (zq_getfg 7 zG0 (zq_ildg zG1 (zq_ild_ 0 (zq_goto 73 (zNil) E) E) E) E) E) E) E) E) E) E) E) E) E) E) E
theorem xe_165_2 : xf_165_2 = zEx xb_165_2 := by
  unfold xf_165_2 xb_165_2
  rfl
theorem xc_165_2 : zCd 165 [0, 28, 30, 59, 73] 30 xb_165_2 := zc_aload_n xj_165 31 0 rfl rfl zf_ald_0 (zc_getf xj_165 34 39 8 5 89 rfl rfl (zf_getf_5 _) (zc_aload_n xj_165 35 0 rfl rfl zf_ald_0 (zc_getf xj_165 38 12 8 0 84 rfl rfl (zf_getf_0 _) (zc_iload_n xj_165 39 2 rfl rfl zf_ild_2 (zc_invokevirtual1 xj_165 42 356 110 2 217 7 10 rfl rfl rfl rfl (zc_iload_n xj_165 43 3 rfl rfl zf_ild_3 (zc_iconst xj_165 44 (-1) 4294967295 rfl rfl rfl (zc_ic_ne xj_165 47 15 59 rfl rfl rfl (zc_aload_n xj_165 48 0 rfl rfl zf_ald_0 (zc_getf xj_165 51 39 8 5 89 rfl rfl (zf_getf_5 _) (zc_getf xj_165 54 349 7 0 68 rfl rfl (zf_getf_0 _) (zc_iload_n xj_165 55 1 rfl rfl zf_ild_1 (zc_iaload xj_165 56 rfl rfl (zc_goto xj_165 57 17 73 rfl rfl rfl (trivial)))))))))))))))
noncomputable def xb_165_1 : List zF := [zq_k 4294967295, zq_iret 0]
noncomputable def xf_165_1 : zE → zKn := fun E => zq_k 4294967295 (zq_iret 0 (zNil) E) E
theorem xe_165_1 : xf_165_1 = zEx xb_165_1 := by
  unfold xf_165_1 xb_165_1
  rfl
theorem xc_165_1 : zCd 165 [0, 28, 30, 59, 73] 28 xb_165_1 := zc_iconst xj_165 29 (-1) 4294967295 rfl rfl rfl (zc_ireturn0 xj_165 30 rfl rfl (trivial))
noncomputable def xb_165_0 : List zF := zq_aldg zG0 :: zq_getfg 8 zG0 :: zq_getfg 1 zG0 :: zq_ildg zG1 :: zq_calli 82 1 5 2 :: zq_if_eq 28 :: zq_aldg zG0 :: zq_getfg 8 zG0 :: zq_getfg 1 zG0 :: zq_ildg zG2 :: zq_calli 82 1 5 2 :: zq_if_ne 30 :: xb_165_1
noncomputable def xf_165_0 : zE → zKn := fun E => zq_aldg zG0 (zq_getfg 8 zG0 (zq_getfg 1 zG0 (zq_ildg zG1 (zq_calli 82 1 5 2 (zq_if_eq 28 (zq_aldg zG0 (zq_getfg 8 zG0 (zq_getfg 1 zG0 (zq_ildg zG2 (zq_calli 82 1 5 2 (zq_if_ne 30 (xf_165_1 E) E) E) E) E) E) E) E) E) E) E) E) E
theorem xe_165_0 : xf_165_0 = zEx xb_165_0 := by
  unfold xf_165_0 xb_165_0
  rw [xe_165_1]
  rfl
theorem xc_165_0 : zCd 165 [0, 28, 30, 59, 73] 0 xb_165_0 := zc_aload_n xj_165 1 0 rfl rfl zf_ald_0 (zc_getf xj_165 4 12 8 0 84 rfl rfl (zf_getf_0 _) (zc_getf xj_165 7 75 1 0 25 rfl rfl (zf_getf_0 _) (zc_iload_n xj_165 8 1 rfl rfl zf_ild_1 (zc_invokevirtual1 xj_165 11 127 82 1 98 5 2 rfl rfl rfl rfl (zc_if_eq xj_165 14 17 28 rfl rfl rfl (zc_aload_n xj_165 15 0 rfl rfl zf_ald_0 (zc_getf xj_165 18 12 8 0 84 rfl rfl (zf_getf_0 _) (zc_getf xj_165 21 75 1 0 25 rfl rfl (zf_getf_0 _) (zc_iload_n xj_165 22 2 rfl rfl zf_ild_2 (zc_invokevirtual1 xj_165 25 127 82 1 98 5 2 rfl rfl rfl rfl (zc_if_ne xj_165 28 5 30 rfl rfl rfl (xc_165_1))))))))))))
noncomputable def xm_165 : Lean.RArray (zE → zKn) := .branch 30 (.branch 28 (.leaf xf_165_0) (.leaf xf_165_1)) (.branch 59 (.leaf xf_165_2) (.branch 73 (.leaf xf_165_3) (.leaf xf_165_4)))
theorem xa_165 : zCdAll 165 [0, 28, 30, 59, 73] xm_165 := zAll2_ok (P := fun t => ∃ c, zCd 165 [0, 28, 30, 59, 73] t c ∧ xm_165.get t = zEx c) ⟨⟨_, xc_165_0, xe_165_0⟩, ⟨_, xc_165_1, xe_165_1⟩, ⟨_, xc_165_2, xe_165_2⟩, ⟨_, xc_165_3, xe_165_3⟩, ⟨_, xc_165_4, xe_165_4⟩, trivial⟩
/-- SquareMesh.centre -/
theorem xj_166 : ∀ pc, pI 166 pc = pJ_166 pc := fun _ => rfl
noncomputable def xb_166_7 : List zF := [zq_iret 0]
noncomputable def xf_166_7 : zE → zKn := fun E => zq_iret 0 (zNil) E
theorem xe_166_7 : xf_166_7 = zEx xb_166_7 := by
  unfold xf_166_7 xb_166_7
  rfl
theorem xc_166_7 : zCd 166 [0, 11, 18, 66, 72, 78, 86, 87] 87 xb_166_7 := zc_ireturn0 xj_166 88 rfl rfl (trivial)
noncomputable def xb_166_6 : List zF := zq_ildg zG3 :: xb_166_7
noncomputable def xf_166_6 : zE → zKn := fun E => zq_ildg zG3 (xf_166_7 E) E
theorem xe_166_6 : xf_166_6 = zEx xb_166_6 := by
  unfold xf_166_6 xb_166_6
  rw [xe_166_7]
  rfl
theorem xc_166_6 : zCd 166 [0, 11, 18, 66, 72, 78, 86, 87] 86 xb_166_6 := zc_iload_n xj_166 87 3 rfl rfl zf_ild_3 (xc_166_7)
noncomputable def xb_166_5 : List zF := [zq_ildg zG1, zq_if_ne 86, zq_ildg zG2, zq_goto 87]
noncomputable def xf_166_5 : zE → zKn := fun E => zq_ildg zG1 (zq_if_ne 86 (zq_ildg zG2 (zq_goto 87 (zNil) E) E) E) E
theorem xe_166_5 : xf_166_5 = zEx xb_166_5 := by
  unfold xf_166_5 xb_166_5
  rfl
theorem xc_166_5 : zCd 166 [0, 11, 18, 66, 72, 78, 86, 87] 78 xb_166_5 := zc_iload_n xj_166 79 1 rfl rfl zf_ild_1 (zc_if_ne xj_166 82 7 86 rfl rfl rfl (zc_iload_n xj_166 83 2 rfl rfl zf_ild_2 (zc_goto xj_166 84 4 87 rfl rfl rfl (trivial))))
noncomputable def xb_166_4 : List zF := [zq_incg zG4 zE4 1, zq_goto 18]
noncomputable def xf_166_4 : zE → zKn := fun E => zq_incg zG4 zE4 1 (zq_goto 18 (zNil) E) E
theorem xe_166_4 : xf_166_4 = zEx xb_166_4 := by
  unfold xf_166_4 xb_166_4
  rfl
theorem xc_166_4 : zCd 166 [0, 11, 18, 66, 72, 78, 86, 87] 72 xb_166_4 := zc_iinc xj_166 75 4 1 1 rfl rfl rfl (zf_inc_4 _) (zc_goto xj_166 76 (-57) 18 rfl rfl rfl (trivial))
noncomputable def xb_166_3 : List zF := zq_ildg zG4 :: zq_istg zE2 :: zq_ildg zG5 :: zq_istg zE3 :: xb_166_4
noncomputable def xf_166_3 : zE → zKn := fun E => zq_ildg zG4 (zq_istg zE2 (zq_ildg zG5 (zq_istg zE3 (xf_166_4 E) E) E) E) E
theorem xe_166_3 : xf_166_3 = zEx xb_166_3 := by
  unfold xf_166_3 xb_166_3
  rw [xe_166_4]
  rfl
theorem xc_166_3 : zCd 166 [0, 11, 18, 66, 72, 78, 86, 87] 66 xb_166_3 := zc_iload xj_166 68 4 rfl rfl zf_ild_4 (zc_istore_n xj_166 69 2 rfl rfl zf_ist_2 (zc_iload xj_166 71 5 rfl rfl zf_ild_5 (zc_istore_n xj_166 72 3 rfl rfl zf_ist_3 (xc_166_4))))
noncomputable def xb_166_2 : List zF := zq_ildg zG4 :: zq_k 40 :: zq_ic_ge 78 :: zq_aldg zG0 :: zq_getfg 8 zG0 :: zq_getfg 1 zG0 :: zq_ildg zG4 :: zq_calli 82 1 5 2 :: zq_if_eq 72 :: zq_aldg zG0 :: zq_getfg 8 zG5 :: zq_aldg zG0 :: zq_getfg 8 zG0 :: zq_ildg zG4 :: zq_calli 109 2 7 10 :: zq_istg zE5 :: zq_ildg zG2 :: zq_k 4294967295 :: zq_ic_eq 66 :: zq_ildg zG5 :: zq_ildg zG3 :: zq_ic_ge 72 :: xb_166_3
noncomputable def xf_166_2 : zE → zKn := fun E => zq_ildg zG4 (zq_k 40 (zq_ic_ge 78 (zq_aldg zG0 (zq_getfg 8 zG0 (zq_getfg 1 zG0 (zq_ildg zG4 (zq_calli 82 1 5 2 (zq_if_eq 72 (zq_aldg zG0 (zq_getfg 8 zG5 (zq_aldg zG0 (zq_getfg 8 zG0 (zq_ildg zG4 (zq_calli 109 2 7 10 (zq_istg zE5 (zq_ildg zG2 (zq_k 4294967295 (zq_ic_eq 66 (zq_ildg zG5 (zq_ildg zG3 (zq_ic_ge 72 (xf_166_3 E) E) E) E) E) E) E) E) E) E) E) E) E) E) E) E) E) E) E) E) E) E) E
theorem xe_166_2 : xf_166_2 = zEx xb_166_2 := by
  unfold xf_166_2 xb_166_2
  rw [xe_166_3]
  rfl
theorem xc_166_2 : zCd 166 [0, 11, 18, 66, 72, 78, 86, 87] 18 xb_166_2 := zc_iload xj_166 20 4 rfl rfl zf_ild_4 (zc_bipush xj_166 22 40 40 rfl rfl rfl (zc_ic_ge xj_166 25 56 78 rfl rfl rfl (zc_aload_n xj_166 26 0 rfl rfl zf_ald_0 (zc_getf xj_166 29 12 8 0 84 rfl rfl (zf_getf_0 _) (zc_getf xj_166 32 75 1 0 25 rfl rfl (zf_getf_0 _) (zc_iload xj_166 34 4 rfl rfl zf_ild_4 (zc_invokevirtual1 xj_166 37 127 82 1 98 5 2 rfl rfl rfl rfl (zc_if_eq xj_166 40 35 72 rfl rfl rfl (zc_aload_n xj_166 41 0 rfl rfl zf_ald_0 (zc_getf xj_166 44 39 8 5 89 rfl rfl (zf_getf_5 _) (zc_aload_n xj_166 45 0 rfl rfl zf_ald_0 (zc_getf xj_166 48 12 8 0 84 rfl rfl (zf_getf_0 _) (zc_iload xj_166 50 4 rfl rfl zf_ild_4 (zc_invokevirtual1 xj_166 53 346 109 2 209 7 10 rfl rfl rfl rfl (zc_istore xj_166 55 5 rfl rfl zf_ist_5 (zc_iload_n xj_166 56 2 rfl rfl zf_ild_2 (zc_iconst xj_166 57 (-1) 4294967295 rfl rfl rfl (zc_ic_eq xj_166 60 9 66 rfl rfl rfl (zc_iload xj_166 62 5 rfl rfl zf_ild_5 (zc_iload_n xj_166 63 3 rfl rfl zf_ild_3 (zc_ic_ge xj_166 66 9 72 rfl rfl rfl (xc_166_3))))))))))))))))))))))
noncomputable def xb_166_1 : List zF := zq_k 4294967295 :: zq_istg zE2 :: zq_k 0 :: zq_istg zE3 :: zq_k 0 :: zq_istg zE4 :: xb_166_2
noncomputable def xf_166_1 : zE → zKn := fun E => zq_k 4294967295 (zq_istg zE2 (zq_k 0 (zq_istg zE3 (zq_k 0 (zq_istg zE4 (xf_166_2 E) E) E) E) E) E) E
theorem xe_166_1 : xf_166_1 = zEx xb_166_1 := by
  unfold xf_166_1 xb_166_1
  rw [xe_166_2]
  rfl
theorem xc_166_1 : zCd 166 [0, 11, 18, 66, 72, 78, 86, 87] 11 xb_166_1 := zc_iconst xj_166 12 (-1) 4294967295 rfl rfl rfl (zc_istore_n xj_166 13 2 rfl rfl zf_ist_2 (zc_iconst xj_166 14 0 0 rfl rfl rfl (zc_istore_n xj_166 15 3 rfl rfl zf_ist_3 (zc_iconst xj_166 16 0 0 rfl rfl rfl (zc_istore xj_166 18 4 rfl rfl zf_ist_4 (xc_166_2))))))
noncomputable def xb_166_0 : List zF := [zq_ildg zG1, zq_if_eq 11, zq_ildg zG1, zq_k 1, zq_ic_eq 11, zq_k 4294967295, zq_iret 0]
noncomputable def xf_166_0 : zE → zKn := fun E => zq_ildg zG1 (zq_if_eq 11 (zq_ildg zG1 (zq_k 1 (zq_ic_eq 11 (zq_k 4294967295 (zq_iret 0 (zNil) E) E) E) E) E) E) E
theorem xe_166_0 : xf_166_0 = zEx xb_166_0 := by
  unfold xf_166_0 xb_166_0
  rfl
theorem xc_166_0 : zCd 166 [0, 11, 18, 66, 72, 78, 86, 87] 0 xb_166_0 := zc_iload_n xj_166 1 1 rfl rfl zf_ild_1 (zc_if_eq xj_166 4 10 11 rfl rfl rfl (zc_iload_n xj_166 5 1 rfl rfl zf_ild_1 (zc_iconst xj_166 6 1 1 rfl rfl rfl (zc_ic_eq xj_166 9 5 11 rfl rfl rfl (zc_iconst xj_166 10 (-1) 4294967295 rfl rfl rfl (zc_ireturn0 xj_166 11 rfl rfl (trivial)))))))
noncomputable def xm_166 : Lean.RArray (zE → zKn) := .branch 72 (.branch 18 (.branch 11 (.leaf xf_166_0) (.leaf xf_166_1)) (.branch 66 (.leaf xf_166_2) (.leaf xf_166_3))) (.branch 86 (.branch 78 (.leaf xf_166_4) (.leaf xf_166_5)) (.branch 87 (.leaf xf_166_6) (.leaf xf_166_7)))
theorem xa_166 : zCdAll 166 [0, 11, 18, 66, 72, 78, 86, 87] xm_166 := zAll2_ok (P := fun t => ∃ c, zCd 166 [0, 11, 18, 66, 72, 78, 86, 87] t c ∧ xm_166.get t = zEx c) ⟨⟨_, xc_166_0, xe_166_0⟩, ⟨_, xc_166_1, xe_166_1⟩, ⟨_, xc_166_2, xe_166_2⟩, ⟨_, xc_166_3, xe_166_3⟩, ⟨_, xc_166_4, xe_166_4⟩, ⟨_, xc_166_5, xe_166_5⟩, ⟨_, xc_166_6, xe_166_6⟩, ⟨_, xc_166_7, xe_166_7⟩, trivial⟩
/-- SquareMesh.bent -/
theorem xj_167 : ∀ pc, pI 167 pc = pJ_167 pc := fun _ => rfl
noncomputable def xb_167_5 : List zF := [zq_k 4294967295, zq_iret 0]
noncomputable def xf_167_5 : zE → zKn := fun E => zq_k 4294967295 (zq_iret 0 (zNil) E) E
theorem xe_167_5 : xf_167_5 = zEx xb_167_5 := by
  unfold xf_167_5 xb_167_5
  rfl
theorem xc_167_5 : zCd 167 [0, 6, 10, 65, 68, 74] 74 xb_167_5 := zc_iconst xj_167 75 (-1) 4294967295 rfl rfl rfl (zc_ireturn0 xj_167 76 rfl rfl (trivial))
noncomputable def xb_167_4 : List zF := [zq_incg zG3 zE3 1, zq_goto 10]
noncomputable def xf_167_4 : zE → zKn := fun E => zq_incg zG3 zE3 1 (zq_goto 10 (zNil) E) E
theorem xe_167_4 : xf_167_4 = zEx xb_167_4 := by
  unfold xf_167_4 xb_167_4
  rfl
theorem xc_167_4 : zCd 167 [0, 6, 10, 65, 68, 74] 68 xb_167_4 := zc_iinc xj_167 71 3 1 1 rfl rfl rfl (zf_inc_3 _) (zc_goto xj_167 72 (-61) 10 rfl rfl rfl (trivial))
noncomputable def xb_167_3 : List zF := zq_incg zG2 zE2 4294967295 :: xb_167_4
noncomputable def xf_167_3 : zE → zKn := fun E => zq_incg zG2 zE2 4294967295 (xf_167_4 E) E
theorem xe_167_3 : xf_167_3 = zEx xb_167_3 := by
  unfold xf_167_3 xb_167_3
  rw [xe_167_4]
  rfl
theorem xc_167_3 : zCd 167 [0, 6, 10, 65, 68, 74] 65 xb_167_3 := zc_iinc xj_167 68 2 (-1) 4294967295 rfl rfl rfl (zf_inc_2 _) (xc_167_4)
noncomputable def xb_167_2 : List zF := [zq_ildg zG3, zq_aldg zG0, zq_getfg 8 zG0, zq_getfg 1 zG8, zq_ic_ge 74, zq_aldg zG0, zq_getfg 8 zG0, zq_ildg zG3, zq_calli 51 1 1 4, zq_if_eq 68, zq_ildg zG2, zq_if_ne 65, zq_k 100, zq_aldg zG0, zq_getfg 8 zG0, zq_getfg 1 zG4, zq_k 2, zq_ildg zG3, zq_mul, zq_ild_ 0, zq_mul, zq_aldg zG0, zq_getfg 8 zG0, zq_getfg 1 zG4, zq_k 2, zq_ildg zG3, zq_mul, zq_k 1, zq_add, zq_ild_ 0, zq_add, zq_iret 0]
noncomputable def xf_167_2 : zE → zKn := fun E => zq_ildg zG3 (zq_aldg zG0 (zq_getfg 8 zG0 (zq_getfg 1 zG8 (zq_ic_ge 74 (zq_aldg zG0 (zq_getfg 8 zG0 (zq_ildg zG3 (zq_calli 51 1 1 4 (zq_if_eq 68 (zq_ildg zG2 (zq_if_ne 65 (zq_k 100 (zq_aldg zG0 (zq_getfg 8 zG0 (zq_getfg 1 zG4 (zq_k 2 (zq_ildg zG3 (zq_mul (zq_ild_ 0 (zq_mul (zq_aldg zG0 (zq_getfg 8 zG0 (zq_getfg 1 zG4 (zq_k 2 (zq_ildg zG3 (zq_mul (zq_k 1 (zq_add (zq_ild_ 0 (zq_add (zq_iret 0 (zNil) E) E) E) E) E) E) E) E) E) E) E) E) E) E) E) E) E) E) E) E) E) E) E) E) E) E) E) E) E) E) E) E
set_option maxRecDepth 100000 in
theorem xe_167_2 : xf_167_2 = zEx xb_167_2 := by
  unfold xf_167_2 xb_167_2
  rfl
theorem xc_167_2 : zCd 167 [0, 6, 10, 65, 68, 74] 10 xb_167_2 := zc_iload_n xj_167 11 3 rfl rfl zf_ild_3 (zc_aload_n xj_167 12 0 rfl rfl zf_ald_0 (zc_getf xj_167 15 12 8 0 84 rfl rfl (zf_getf_0 _) (zc_getf xj_167 18 204 1 8 51 rfl rfl (zf_getf_8 _) (zc_ic_ge xj_167 21 56 74 rfl rfl rfl (zc_aload_n xj_167 22 0 rfl rfl zf_ald_0 (zc_getf xj_167 25 12 8 0 84 rfl rfl (zf_getf_0 _) (zc_iload_n xj_167 26 3 rfl rfl zf_ild_3 (zc_invokevirtual1 xj_167 29 360 51 1 222 1 4 rfl rfl rfl rfl (zc_if_eq xj_167 32 39 68 rfl rfl rfl (zc_iload_n xj_167 33 2 rfl rfl zf_ild_2 (zc_if_ne xj_167 36 32 65 rfl rfl rfl (zc_bipush xj_167 38 100 100 rfl rfl rfl (zc_aload_n xj_167 39 0 rfl rfl zf_ald_0 (zc_getf xj_167 42 12 8 0 84 rfl rfl (zf_getf_0 _) (zc_getf xj_167 45 343 1 4 38 rfl rfl (zf_getf_4 _) (zc_iconst xj_167 46 2 2 rfl rfl rfl (zc_iload_n xj_167 47 3 rfl rfl zf_ild_3 (zc_imul xj_167 48 rfl rfl (zc_iaload xj_167 49 rfl rfl (zc_imul xj_167 50 rfl rfl (zc_aload_n xj_167 51 0 rfl rfl zf_ald_0 (zc_getf xj_167 54 12 8 0 84 rfl rfl (zf_getf_0 _) (zc_getf xj_167 57 343 1 4 38 rfl rfl (zf_getf_4 _) (zc_iconst xj_167 58 2 2 rfl rfl rfl (zc_iload_n xj_167 59 3 rfl rfl zf_ild_3 (zc_imul xj_167 60 rfl rfl (zc_iconst xj_167 61 1 1 rfl rfl rfl (zc_iadd xj_167 62 rfl rfl (zc_iaload xj_167 63 rfl rfl (zc_iadd xj_167 64 rfl rfl (zc_ireturn0 xj_167 65 rfl rfl (trivial))))))))))))))))))))))))))))))))
noncomputable def xb_167_1 : List zF := zq_ildg zG1 :: zq_istg zE2 :: zq_k 0 :: zq_istg zE3 :: xb_167_2
noncomputable def xf_167_1 : zE → zKn := fun E => zq_ildg zG1 (zq_istg zE2 (zq_k 0 (zq_istg zE3 (xf_167_2 E) E) E) E) E
theorem xe_167_1 : xf_167_1 = zEx xb_167_1 := by
  unfold xf_167_1 xb_167_1
  rw [xe_167_2]
  rfl
theorem xc_167_1 : zCd 167 [0, 6, 10, 65, 68, 74] 6 xb_167_1 := zc_iload_n xj_167 7 1 rfl rfl zf_ild_1 (zc_istore_n xj_167 8 2 rfl rfl zf_ist_2 (zc_iconst xj_167 9 0 0 rfl rfl rfl (zc_istore_n xj_167 10 3 rfl rfl zf_ist_3 (xc_167_2))))
noncomputable def xb_167_0 : List zF := [zq_ildg zG1, zq_if_ge 6, zq_k 4294967295, zq_iret 0]
noncomputable def xf_167_0 : zE → zKn := fun E => zq_ildg zG1 (zq_if_ge 6 (zq_k 4294967295 (zq_iret 0 (zNil) E) E) E) E
theorem xe_167_0 : xf_167_0 = zEx xb_167_0 := by
  unfold xf_167_0 xb_167_0
  rfl
theorem xc_167_0 : zCd 167 [0, 6, 10, 65, 68, 74] 0 xb_167_0 := zc_iload_n xj_167 1 1 rfl rfl zf_ild_1 (zc_if_ge xj_167 4 5 6 rfl rfl rfl (zc_iconst xj_167 5 (-1) 4294967295 rfl rfl rfl (zc_ireturn0 xj_167 6 rfl rfl (trivial))))
noncomputable def xm_167 : Lean.RArray (zE → zKn) := .branch 65 (.branch 6 (.leaf xf_167_0) (.branch 10 (.leaf xf_167_1) (.leaf xf_167_2))) (.branch 68 (.leaf xf_167_3) (.branch 74 (.leaf xf_167_4) (.leaf xf_167_5)))
theorem xa_167 : zCdAll 167 [0, 6, 10, 65, 68, 74] xm_167 := zAll2_ok (P := fun t => ∃ c, zCd 167 [0, 6, 10, 65, 68, 74] t c ∧ xm_167.get t = zEx c) ⟨⟨_, xc_167_0, xe_167_0⟩, ⟨_, xc_167_1, xe_167_1⟩, ⟨_, xc_167_2, xe_167_2⟩, ⟨_, xc_167_3, xe_167_3⟩, ⟨_, xc_167_4, xe_167_4⟩, ⟨_, xc_167_5, xe_167_5⟩, trivial⟩
/-- SquareMesh.colour -/
theorem xj_168 : ∀ pc, pI 168 pc = pJ_168 pc := fun _ => rfl
noncomputable def xb_168_1 : List zF := [zq_aldg zG0, zq_calli 169 0 8 3, zq_pop, zq_aldg zG0, zq_getfg 8 zG9, zq_ildg zG1, zq_ild_ 0, zq_iret 0]
noncomputable def xf_168_1 : zE → zKn := fun E => zq_aldg zG0 (zq_calli 169 0 8 3 (zq_pop (zq_aldg zG0 (zq_getfg 8 zG9 (zq_ildg zG1 (zq_ild_ 0 (zq_iret 0 (zNil) E) E) E) E) E) E) E) E
theorem xe_168_1 : xf_168_1 = zEx xb_168_1 := by
  unfold xf_168_1 xb_168_1
  rfl
theorem xc_168_1 : zCd 168 [0, 16] 16 xb_168_1 := zc_aload_n xj_168 17 0 rfl rfl zf_ald_0 (zc_invokevirtual1 xj_168 20 219 169 0 136 8 3 rfl rfl rfl rfl (zc_pop xj_168 21 rfl rfl (zc_aload_n xj_168 22 0 rfl rfl zf_ald_0 (zc_getf xj_168 25 64 8 9 93 rfl rfl (zf_getf_9 _) (zc_iload_n xj_168 26 1 rfl rfl zf_ild_1 (zc_iaload xj_168 27 rfl rfl (zc_ireturn0 xj_168 28 rfl rfl (trivial))))))))
noncomputable def xb_168_0 : List zF := [zq_aldg zG0, zq_getfg 8 zG0, zq_getfg 1 zG0, zq_ildg zG1, zq_calli 82 1 5 2, zq_if_ne 16, zq_k 4294967295, zq_iret 0]
noncomputable def xf_168_0 : zE → zKn := fun E => zq_aldg zG0 (zq_getfg 8 zG0 (zq_getfg 1 zG0 (zq_ildg zG1 (zq_calli 82 1 5 2 (zq_if_ne 16 (zq_k 4294967295 (zq_iret 0 (zNil) E) E) E) E) E) E) E) E
theorem xe_168_0 : xf_168_0 = zEx xb_168_0 := by
  unfold xf_168_0 xb_168_0
  rfl
theorem xc_168_0 : zCd 168 [0, 16] 0 xb_168_0 := zc_aload_n xj_168 1 0 rfl rfl zf_ald_0 (zc_getf xj_168 4 12 8 0 84 rfl rfl (zf_getf_0 _) (zc_getf xj_168 7 75 1 0 25 rfl rfl (zf_getf_0 _) (zc_iload_n xj_168 8 1 rfl rfl zf_ild_1 (zc_invokevirtual1 xj_168 11 127 82 1 98 5 2 rfl rfl rfl rfl (zc_if_ne xj_168 14 5 16 rfl rfl rfl (zc_iconst xj_168 15 (-1) 4294967295 rfl rfl rfl (zc_ireturn0 xj_168 16 rfl rfl (trivial))))))))
noncomputable def xm_168 : Lean.RArray (zE → zKn) := .branch 16 (.leaf xf_168_0) (.leaf xf_168_1)
theorem xa_168 : zCdAll 168 [0, 16] xm_168 := zAll2_ok (P := fun t => ∃ c, zCd 168 [0, 16] t c ∧ xm_168.get t = zEx c) ⟨⟨_, xc_168_0, xe_168_0⟩, ⟨_, xc_168_1, xe_168_1⟩, trivial⟩
/-- SquareMesh.paint -/
theorem xj_169 : ∀ pc, pI 169 pc = pJ_169 pc := fun _ => rfl
noncomputable def xb_169_3 : List zF := [zq_ildg zG1, zq_iret 0]
noncomputable def xf_169_3 : zE → zKn := fun E => zq_ildg zG1 (zq_iret 0 (zNil) E) E
theorem xe_169_3 : xf_169_3 = zEx xb_169_3 := by
  unfold xf_169_3 xb_169_3
  rfl
theorem xc_169_3 : zCd 169 [0, 4, 48, 54] 54 xb_169_3 := zc_iload_n xj_169 55 1 rfl rfl zf_ild_1 (zc_ireturn0 xj_169 56 rfl rfl (trivial))
noncomputable def xb_169_2 : List zF := [zq_incg zG2 zE2 1, zq_goto 4]
noncomputable def xf_169_2 : zE → zKn := fun E => zq_incg zG2 zE2 1 (zq_goto 4 (zNil) E) E
theorem xe_169_2 : xf_169_2 = zEx xb_169_2 := by
  unfold xf_169_2 xb_169_2
  rfl
theorem xc_169_2 : zCd 169 [0, 4, 48, 54] 48 xb_169_2 := zc_iinc xj_169 51 2 1 1 rfl rfl rfl (zf_inc_2 _) (zc_goto xj_169 52 (-47) 4 rfl rfl rfl (trivial))
noncomputable def xb_169_1 : List zF := zq_ildg zG2 :: zq_k 40 :: zq_ic_ge 54 :: zq_aldg zG0 :: zq_getfg 8 zG0 :: zq_getfg 1 zG0 :: zq_ildg zG2 :: zq_calli 82 1 5 2 :: zq_if_eq 48 :: zq_aldg zG0 :: zq_getfg 8 zG9 :: zq_ildg zG2 :: zq_aldg zG0 :: zq_ildg zG2 :: zq_calli 170 1 8 6 :: zq_iast :: zq_ildg zG1 :: zq_aldg zG0 :: zq_getfg 8 zG9 :: zq_ildg zG2 :: zq_ild_ 0 :: zq_k 1 :: zq_add :: zq_calls 354 2 2 :: zq_istg zE1 :: xb_169_2
noncomputable def xf_169_1 : zE → zKn := fun E => zq_ildg zG2 (zq_k 40 (zq_ic_ge 54 (zq_aldg zG0 (zq_getfg 8 zG0 (zq_getfg 1 zG0 (zq_ildg zG2 (zq_calli 82 1 5 2 (zq_if_eq 48 (zq_aldg zG0 (zq_getfg 8 zG9 (zq_ildg zG2 (zq_aldg zG0 (zq_ildg zG2 (zq_calli 170 1 8 6 (zq_iast (zq_ildg zG1 (zq_aldg zG0 (zq_getfg 8 zG9 (zq_ildg zG2 (zq_ild_ 0 (zq_k 1 (zq_add (zq_calls 354 2 2 (zq_istg zE1 (xf_169_2 E) E) E) E) E) E) E) E) E) E) E) E) E) E) E) E) E) E) E) E) E) E) E) E) E) E
theorem xe_169_1 : xf_169_1 = zEx xb_169_1 := by
  unfold xf_169_1 xb_169_1
  rw [xe_169_2]
  rfl
theorem xc_169_1 : zCd 169 [0, 4, 48, 54] 4 xb_169_1 := zc_iload_n xj_169 5 2 rfl rfl zf_ild_2 (zc_bipush xj_169 7 40 40 rfl rfl rfl (zc_ic_ge xj_169 10 47 54 rfl rfl rfl (zc_aload_n xj_169 11 0 rfl rfl zf_ald_0 (zc_getf xj_169 14 12 8 0 84 rfl rfl (zf_getf_0 _) (zc_getf xj_169 17 75 1 0 25 rfl rfl (zf_getf_0 _) (zc_iload_n xj_169 18 2 rfl rfl zf_ild_2 (zc_invokevirtual1 xj_169 21 127 82 1 98 5 2 rfl rfl rfl rfl (zc_if_eq xj_169 24 27 48 rfl rfl rfl (zc_aload_n xj_169 25 0 rfl rfl zf_ald_0 (zc_getf xj_169 28 64 8 9 93 rfl rfl (zf_getf_9 _) (zc_iload_n xj_169 29 2 rfl rfl zf_ild_2 (zc_aload_n xj_169 30 0 rfl rfl zf_ald_0 (zc_iload_n xj_169 31 2 rfl rfl zf_ild_2 (zc_invokevirtual1 xj_169 34 363 170 1 137 8 6 rfl rfl rfl rfl (zc_iastore xj_169 35 rfl rfl (zc_iload_n xj_169 36 1 rfl rfl zf_ild_1 (zc_aload_n xj_169 37 0 rfl rfl zf_ald_0 (zc_getf xj_169 40 64 8 9 93 rfl rfl (zf_getf_9 _) (zc_iload_n xj_169 41 2 rfl rfl zf_ild_2 (zc_iaload xj_169 42 rfl rfl (zc_iconst xj_169 43 1 1 rfl rfl rfl (zc_iadd xj_169 44 rfl rfl (zc_invokestatic2 xj_169 47 366 354 2 139 0 2 rfl rfl rfl rfl (zc_istore_n xj_169 48 1 rfl rfl zf_ist_1 (xc_169_2)))))))))))))))))))))))))
noncomputable def xb_169_0 : List zF := zq_k 0 :: zq_istg zE1 :: zq_k 0 :: zq_istg zE2 :: xb_169_1
noncomputable def xf_169_0 : zE → zKn := fun E => zq_k 0 (zq_istg zE1 (zq_k 0 (zq_istg zE2 (xf_169_1 E) E) E) E) E
theorem xe_169_0 : xf_169_0 = zEx xb_169_0 := by
  unfold xf_169_0 xb_169_0
  rw [xe_169_1]
  rfl
theorem xc_169_0 : zCd 169 [0, 4, 48, 54] 0 xb_169_0 := zc_iconst xj_169 1 0 0 rfl rfl rfl (zc_istore_n xj_169 2 1 rfl rfl zf_ist_1 (zc_iconst xj_169 3 0 0 rfl rfl rfl (zc_istore_n xj_169 4 2 rfl rfl zf_ist_2 (xc_169_1))))
noncomputable def xm_169 : Lean.RArray (zE → zKn) := .branch 48 (.branch 4 (.leaf xf_169_0) (.leaf xf_169_1)) (.branch 54 (.leaf xf_169_2) (.leaf xf_169_3))
theorem xa_169 : zCdAll 169 [0, 4, 48, 54] xm_169 := zAll2_ok (P := fun t => ∃ c, zCd 169 [0, 4, 48, 54] t c ∧ xm_169.get t = zEx c) ⟨⟨_, xc_169_0, xe_169_0⟩, ⟨_, xc_169_1, xe_169_1⟩, ⟨_, xc_169_2, xe_169_2⟩, ⟨_, xc_169_3, xe_169_3⟩, trivial⟩
/-- SquareMesh.leastColour -/
theorem xj_170 : ∀ pc, pI 170 pc = pJ_170 pc := fun _ => rfl
noncomputable def xb_170_5 : List zF := [zq_ildg zG4, zq_iret 0]
noncomputable def xf_170_5 : zE → zKn := fun E => zq_ildg zG4 (zq_iret 0 (zNil) E) E
theorem xe_170_5 : xf_170_5 = zEx xb_170_5 := by
  unfold xf_170_5 xb_170_5
  rfl
theorem xc_170_5 : zCd 170 [0, 5, 36, 42, 48, 75] 75 xb_170_5 := zc_iload xj_170 77 4 rfl rfl zf_ild_4 (zc_ireturn0 xj_170 78 rfl rfl (trivial))
noncomputable def xb_170_4 : List zF := [zq_ildg zG5, zq_k 40, zq_ic_ge 75, zq_lldg zG2, zq_ildg zG4, zq_lushr, zq_kl 1, zq_land, zq_kl 0, zq_lcmp, zq_if_eq 75, zq_incg zG4 zE4 1, zq_incg zG5 zE5 1, zq_goto 48]
noncomputable def xf_170_4 : zE → zKn := fun E => zq_ildg zG5 (zq_k 40 (zq_ic_ge 75 (zq_lldg zG2 (zq_ildg zG4 (zq_lushr (zq_kl 1 (zq_land (zq_kl 0 (zq_lcmp (zq_if_eq 75 (zq_incg zG4 zE4 1 (zq_incg zG5 zE5 1 (zq_goto 48 (zNil) E) E) E) E) E) E) E) E) E) E) E) E) E) E
theorem xe_170_4 : xf_170_4 = zEx xb_170_4 := by
  unfold xf_170_4 xb_170_4
  rfl
theorem xc_170_4 : zCd 170 [0, 5, 36, 42, 48, 75] 48 xb_170_4 := zc_iload xj_170 50 5 rfl rfl zf_ild_5 (zc_bipush xj_170 52 40 40 rfl rfl rfl (zc_ic_ge xj_170 55 23 75 rfl rfl rfl (zc_lload_n xj_170 56 2 rfl rfl zf_lld_2 (zc_iload xj_170 58 4 rfl rfl zf_ild_4 (zc_lushr xj_170 59 rfl rfl (zc_lconst xj_170 60 1 rfl rfl (zc_land xj_170 61 rfl rfl (zc_lconst xj_170 62 0 rfl rfl (zc_lcmp xj_170 63 rfl rfl (zc_if_eq xj_170 66 12 75 rfl rfl rfl (zc_iinc xj_170 69 4 1 1 rfl rfl rfl (zf_inc_4 _) (zc_iinc xj_170 72 5 1 1 rfl rfl rfl (zf_inc_5 _) (zc_goto xj_170 73 (-24) 48 rfl rfl rfl (trivial))))))))))))))
noncomputable def xb_170_3 : List zF := zq_k 0 :: zq_istg zE4 :: zq_k 0 :: zq_istg zE5 :: xb_170_4
noncomputable def xf_170_3 : zE → zKn := fun E => zq_k 0 (zq_istg zE4 (zq_k 0 (zq_istg zE5 (xf_170_4 E) E) E) E) E
theorem xe_170_3 : xf_170_3 = zEx xb_170_3 := by
  unfold xf_170_3 xb_170_3
  rw [xe_170_4]
  rfl
theorem xc_170_3 : zCd 170 [0, 5, 36, 42, 48, 75] 42 xb_170_3 := zc_iconst xj_170 43 0 0 rfl rfl rfl (zc_istore xj_170 45 4 rfl rfl zf_ist_4 (zc_iconst xj_170 46 0 0 rfl rfl rfl (zc_istore xj_170 48 5 rfl rfl zf_ist_5 (xc_170_4))))
noncomputable def xb_170_2 : List zF := [zq_incg zG4 zE4 1, zq_goto 5]
noncomputable def xf_170_2 : zE → zKn := fun E => zq_incg zG4 zE4 1 (zq_goto 5 (zNil) E) E
theorem xe_170_2 : xf_170_2 = zEx xb_170_2 := by
  unfold xf_170_2 xb_170_2
  rfl
theorem xc_170_2 : zCd 170 [0, 5, 36, 42, 48, 75] 36 xb_170_2 := zc_iinc xj_170 39 4 1 1 rfl rfl rfl (zf_inc_4 _) (zc_goto xj_170 40 (-34) 5 rfl rfl rfl (trivial))
noncomputable def xb_170_1 : List zF := zq_ildg zG4 :: zq_ildg zG1 :: zq_ic_ge 42 :: zq_aldg zG0 :: zq_getfg 8 zG0 :: zq_ildg zG1 :: zq_ildg zG4 :: zq_calli 36 2 1 3 :: zq_if_eq 36 :: zq_lldg zG2 :: zq_kl 1 :: zq_aldg zG0 :: zq_getfg 8 zG9 :: zq_ildg zG4 :: zq_ild_ 0 :: zq_lshl :: zq_lor :: zq_lst 2 :: xb_170_2
noncomputable def xf_170_1 : zE → zKn := fun E => zq_ildg zG4 (zq_ildg zG1 (zq_ic_ge 42 (zq_aldg zG0 (zq_getfg 8 zG0 (zq_ildg zG1 (zq_ildg zG4 (zq_calli 36 2 1 3 (zq_if_eq 36 (zq_lldg zG2 (zq_kl 1 (zq_aldg zG0 (zq_getfg 8 zG9 (zq_ildg zG4 (zq_ild_ 0 (zq_lshl (zq_lor (zq_lst 2 (xf_170_2 E) E) E) E) E) E) E) E) E) E) E) E) E) E) E) E) E) E) E
theorem xe_170_1 : xf_170_1 = zEx xb_170_1 := by
  unfold xf_170_1 xb_170_1
  rw [xe_170_2]
  rfl
theorem xc_170_1 : zCd 170 [0, 5, 36, 42, 48, 75] 5 xb_170_1 := zc_iload xj_170 7 4 rfl rfl zf_ild_4 (zc_iload_n xj_170 8 1 rfl rfl zf_ild_1 (zc_ic_ge xj_170 11 34 42 rfl rfl rfl (zc_aload_n xj_170 12 0 rfl rfl zf_ald_0 (zc_getf xj_170 15 12 8 0 84 rfl rfl (zf_getf_0 _) (zc_iload_n xj_170 16 1 rfl rfl zf_ild_1 (zc_iload xj_170 18 4 rfl rfl zf_ild_4 (zc_invokevirtual1 xj_170 21 264 36 2 138 1 3 rfl rfl rfl rfl (zc_if_eq xj_170 24 15 36 rfl rfl rfl (zc_lload_n xj_170 25 2 rfl rfl zf_lld_2 (zc_lconst xj_170 26 1 rfl rfl (zc_aload_n xj_170 27 0 rfl rfl zf_ald_0 (zc_getf xj_170 30 64 8 9 93 rfl rfl (zf_getf_9 _) (zc_iload xj_170 32 4 rfl rfl zf_ild_4 (zc_iaload xj_170 33 rfl rfl (zc_lshl xj_170 34 rfl rfl (zc_lor xj_170 35 rfl rfl (zc_lstore_n xj_170 36 2 rfl rfl rfl (xc_170_2))))))))))))))))))
noncomputable def xb_170_0 : List zF := zq_kl 0 :: zq_lst 2 :: zq_k 0 :: zq_istg zE4 :: xb_170_1
noncomputable def xf_170_0 : zE → zKn := fun E => zq_kl 0 (zq_lst 2 (zq_k 0 (zq_istg zE4 (xf_170_1 E) E) E) E) E
theorem xe_170_0 : xf_170_0 = zEx xb_170_0 := by
  unfold xf_170_0 xb_170_0
  rw [xe_170_1]
  rfl
theorem xc_170_0 : zCd 170 [0, 5, 36, 42, 48, 75] 0 xb_170_0 := zc_lconst xj_170 1 0 rfl rfl (zc_lstore_n xj_170 2 2 rfl rfl rfl (zc_iconst xj_170 3 0 0 rfl rfl rfl (zc_istore xj_170 5 4 rfl rfl zf_ist_4 (xc_170_1))))
noncomputable def xm_170 : Lean.RArray (zE → zKn) := .branch 42 (.branch 5 (.leaf xf_170_0) (.branch 36 (.leaf xf_170_1) (.leaf xf_170_2))) (.branch 48 (.leaf xf_170_3) (.branch 75 (.leaf xf_170_4) (.leaf xf_170_5)))
theorem xa_170 : zCdAll 170 [0, 5, 36, 42, 48, 75] xm_170 := zAll2_ok (P := fun t => ∃ c, zCd 170 [0, 5, 36, 42, 48, 75] t c ∧ xm_170.get t = zEx c) ⟨⟨_, xc_170_0, xe_170_0⟩, ⟨_, xc_170_1, xe_170_1⟩, ⟨_, xc_170_2, xe_170_2⟩, ⟨_, xc_170_3, xe_170_3⟩, ⟨_, xc_170_4, xe_170_4⟩, ⟨_, xc_170_5, xe_170_5⟩, trivial⟩
/-- SquareMesh.heightAt -/
theorem xj_171 : ∀ pc, pI 171 pc = pJ_171 pc := fun _ => rfl
noncomputable def xb_171_5 : List zF := [zq_iret 0]
noncomputable def xf_171_5 : zE → zKn := fun E => zq_iret 0 (zNil) E
theorem xe_171_5 : xf_171_5 = zEx xb_171_5 := by
  unfold xf_171_5 xb_171_5
  rfl
theorem xc_171_5 : zCd 171 [0, 18, 24, 85, 114, 116] 116 xb_171_5 := zc_ireturn0 xj_171 117 rfl rfl (trivial)
noncomputable def xb_171_4 : List zF := zq_k 4294867296 :: xb_171_5
noncomputable def xf_171_4 : zE → zKn := fun E => zq_k 4294867296 (xf_171_5 E) E
theorem xe_171_4 : xf_171_4 = zEx xb_171_4 := by
  unfold xf_171_4 xb_171_4
  rw [xe_171_5]
  rfl
theorem xc_171_4 : zCd 171 [0, 18, 24, 85, 114, 116] 114 xb_171_4 := zc_ldc xj_171 116 232 4294867296 1 rfl rfl rfl (xc_171_5)
noncomputable def xb_171_3 : List zF := [zq_aldg zG0, zq_getfg 8 zG0, zq_ildg zG3, zq_calli 39 1 1 2, zq_i2l, zq_lst 6, zq_lldg zG6, zq_kl 0, zq_lcmp, zq_if_le 114, zq_lldg zG4, zq_lldg zG6, zq_calls 352 2 6, zq_l2i, zq_goto 116]
noncomputable def xf_171_3 : zE → zKn := fun E => zq_aldg zG0 (zq_getfg 8 zG0 (zq_ildg zG3 (zq_calli 39 1 1 2 (zq_i2l (zq_lst 6 (zq_lldg zG6 (zq_kl 0 (zq_lcmp (zq_if_le 114 (zq_lldg zG4 (zq_lldg zG6 (zq_calls 352 2 6 (zq_l2i (zq_goto 116 (zNil) E) E) E) E) E) E) E) E) E) E) E) E) E) E) E
theorem xe_171_3 : xf_171_3 = zEx xb_171_3 := by
  unfold xf_171_3 xb_171_3
  rfl
theorem xc_171_3 : zCd 171 [0, 18, 24, 85, 114, 116] 85 xb_171_3 := zc_aload_n xj_171 86 0 rfl rfl zf_ald_0 (zc_getf xj_171 89 12 8 0 84 rfl rfl (zf_getf_0 _) (zc_iload_n xj_171 90 3 rfl rfl zf_ild_3 (zc_invokevirtual1 xj_171 93 255 39 1 158 1 2 rfl rfl rfl rfl (zc_i2l xj_171 94 rfl rfl (zc_lstore xj_171 96 6 rfl rfl rfl (zc_lload xj_171 98 6 rfl rfl zf_lld_6 (zc_lconst xj_171 99 0 rfl rfl (zc_lcmp xj_171 100 rfl rfl (zc_if_le xj_171 103 14 114 rfl rfl rfl (zc_lload xj_171 105 4 rfl rfl zf_lld_4 (zc_lload xj_171 107 6 rfl rfl zf_lld_6 (zc_invokestatic2 xj_171 110 369 352 2 225 0 6 rfl rfl rfl rfl (zc_l2i xj_171 111 rfl rfl (zc_goto xj_171 112 5 116 rfl rfl rfl (trivial)))))))))))))))
noncomputable def xb_171_2 : List zF := [zq_ildg zG6, zq_k 3, zq_ic_ge 85, zq_aldg zG0, zq_getfg 8 zG0, zq_ildg zG3, zq_ildg zG6, zq_k 2, zq_add, zq_k 3, zq_rem, zq_calli 35 2 1 3, zq_istg zE7, zq_lldg zG4, zq_aldg zG0, zq_getfg 8 zG0, zq_getfg 1 zG0, zq_getfg 5 zG2, zq_ildg zG7, zq_ild_ 0, zq_i2l, zq_aldg zG0, zq_getfg 8 zG0, zq_ildg zG3, zq_ildg zG6, zq_ildg zG1, zq_ildg zG2, zq_calli 40 4 1 5, zq_i2l, zq_lmul, zq_ladd, zq_lst 4, zq_incg zG6 zE6 1, zq_goto 24]
noncomputable def xf_171_2 : zE → zKn := fun E => zq_ildg zG6 (zq_k 3 (zq_ic_ge 85 (zq_aldg zG0 (zq_getfg 8 zG0 (zq_ildg zG3 (zq_ildg zG6 (zq_k 2 (zq_add (zq_k 3 (zq_rem (zq_calli 35 2 1 3 (zq_istg zE7 (zq_lldg zG4 (zq_aldg zG0 (zq_getfg 8 zG0 (zq_getfg 1 zG0 (zq_getfg 5 zG2 (zq_ildg zG7 (zq_ild_ 0 (zq_i2l (zq_aldg zG0 (zq_getfg 8 zG0 (zq_ildg zG3 (zq_ildg zG6 (zq_ildg zG1 (zq_ildg zG2 (zq_calli 40 4 1 5 (zq_i2l (zq_lmul (zq_ladd (zq_lst 4 (zq_incg zG6 zE6 1 (zq_goto 24 (zNil) E) E) E) E) E) E) E) E) E) E) E) E) E) E) E) E) E) E) E) E) E) E) E) E) E) E) E) E) E) E) E) E) E) E
set_option maxRecDepth 100000 in
theorem xe_171_2 : xf_171_2 = zEx xb_171_2 := by
  unfold xf_171_2 xb_171_2
  rfl
theorem xc_171_2 : zCd 171 [0, 18, 24, 85, 114, 116] 24 xb_171_2 := zc_iload xj_171 26 6 rfl rfl zf_ild_6 (zc_iconst xj_171 27 3 3 rfl rfl rfl (zc_ic_ge xj_171 30 58 85 rfl rfl rfl (zc_aload_n xj_171 31 0 rfl rfl zf_ald_0 (zc_getf xj_171 34 12 8 0 84 rfl rfl (zf_getf_0 _) (zc_iload_n xj_171 35 3 rfl rfl zf_ild_3 (zc_iload xj_171 37 6 rfl rfl zf_ild_6 (zc_iconst xj_171 38 2 2 rfl rfl rfl (zc_iadd xj_171 39 rfl rfl (zc_iconst xj_171 40 3 3 rfl rfl rfl (zc_irem xj_171 41 rfl rfl (zc_invokevirtual1 xj_171 44 144 35 2 107 1 3 rfl rfl rfl rfl (zc_istore xj_171 46 7 rfl rfl zf_ist_7 (zc_lload xj_171 48 4 rfl rfl zf_lld_4 (zc_aload_n xj_171 49 0 rfl rfl zf_ald_0 (zc_getf xj_171 52 12 8 0 84 rfl rfl (zf_getf_0 _) (zc_getf xj_171 55 75 1 0 25 rfl rfl (zf_getf_0 _) (zc_getf xj_171 58 130 5 2 8 rfl rfl (zf_getf_2 _) (zc_iload xj_171 60 7 rfl rfl zf_ild_7 (zc_iaload xj_171 61 rfl rfl (zc_i2l xj_171 62 rfl rfl (zc_aload_n xj_171 63 0 rfl rfl zf_ald_0 (zc_getf xj_171 66 12 8 0 84 rfl rfl (zf_getf_0 _) (zc_iload_n xj_171 67 3 rfl rfl zf_ild_3 (zc_iload xj_171 69 6 rfl rfl zf_ild_6 (zc_iload_n xj_171 70 1 rfl rfl zf_ild_1 (zc_iload_n xj_171 71 2 rfl rfl zf_ild_2 (zc_invokevirtual1 xj_171 74 273 40 4 166 1 5 rfl rfl rfl rfl (zc_i2l xj_171 75 rfl rfl (zc_lmul xj_171 76 rfl rfl (zc_ladd xj_171 77 rfl rfl (zc_lstore xj_171 79 4 rfl rfl rfl (zc_iinc xj_171 82 6 1 1 rfl rfl rfl (zf_inc_6 _) (zc_goto xj_171 83 (-58) 24 rfl rfl rfl (trivial))))))))))))))))))))))))))))))))))
noncomputable def xb_171_1 : List zF := zq_kl 0 :: zq_lst 4 :: zq_k 0 :: zq_istg zE6 :: xb_171_2
noncomputable def xf_171_1 : zE → zKn := fun E => zq_kl 0 (zq_lst 4 (zq_k 0 (zq_istg zE6 (xf_171_2 E) E) E) E) E
theorem xe_171_1 : xf_171_1 = zEx xb_171_1 := by
  unfold xf_171_1 xb_171_1
  rw [xe_171_2]
  rfl
theorem xc_171_1 : zCd 171 [0, 18, 24, 85, 114, 116] 18 xb_171_1 := zc_lconst xj_171 19 0 rfl rfl (zc_lstore xj_171 21 4 rfl rfl rfl (zc_iconst xj_171 22 0 0 rfl rfl rfl (zc_istore xj_171 24 6 rfl rfl zf_ist_6 (xc_171_2))))
noncomputable def xb_171_0 : List zF := [zq_aldg zG0, zq_getfg 8 zG0, zq_ildg zG1, zq_ildg zG2, zq_calli 44 2 1 4, zq_istg zE3, zq_ildg zG3, zq_k 4294967295, zq_ic_ne 18, zq_k 4294867296, zq_iret 0]
noncomputable def xf_171_0 : zE → zKn := fun E => zq_aldg zG0 (zq_getfg 8 zG0 (zq_ildg zG1 (zq_ildg zG2 (zq_calli 44 2 1 4 (zq_istg zE3 (zq_ildg zG3 (zq_k 4294967295 (zq_ic_ne 18 (zq_k 4294867296 (zq_iret 0 (zNil) E) E) E) E) E) E) E) E) E) E) E
theorem xe_171_0 : xf_171_0 = zEx xb_171_0 := by
  unfold xf_171_0 xb_171_0
  rfl
theorem xc_171_0 : zCd 171 [0, 18, 24, 85, 114, 116] 0 xb_171_0 := zc_aload_n xj_171 1 0 rfl rfl zf_ald_0 (zc_getf xj_171 4 12 8 0 84 rfl rfl (zf_getf_0 _) (zc_iload_n xj_171 5 1 rfl rfl zf_ild_1 (zc_iload_n xj_171 6 2 rfl rfl zf_ild_2 (zc_invokevirtual1 xj_171 9 270 44 2 164 1 4 rfl rfl rfl rfl (zc_istore_n xj_171 10 3 rfl rfl zf_ist_3 (zc_iload_n xj_171 11 3 rfl rfl zf_ild_3 (zc_iconst xj_171 12 (-1) 4294967295 rfl rfl rfl (zc_ic_ne xj_171 15 6 18 rfl rfl rfl (zc_ldc xj_171 17 232 4294867296 1 rfl rfl rfl (zc_ireturn0 xj_171 18 rfl rfl (trivial)))))))))))
noncomputable def xm_171 : Lean.RArray (zE → zKn) := .branch 85 (.branch 18 (.leaf xf_171_0) (.branch 24 (.leaf xf_171_1) (.leaf xf_171_2))) (.branch 114 (.leaf xf_171_3) (.branch 116 (.leaf xf_171_4) (.leaf xf_171_5)))
theorem xa_171 : zCdAll 171 [0, 18, 24, 85, 114, 116] xm_171 := zAll2_ok (P := fun t => ∃ c, zCd 171 [0, 18, 24, 85, 114, 116] t c ∧ xm_171.get t = zEx c) ⟨⟨_, xc_171_0, xe_171_0⟩, ⟨_, xc_171_1, xe_171_1⟩, ⟨_, xc_171_2, xe_171_2⟩, ⟨_, xc_171_3, xe_171_3⟩, ⟨_, xc_171_4, xe_171_4⟩, ⟨_, xc_171_5, xe_171_5⟩, trivial⟩
/-- SquareMesh.level -/
theorem xj_172 : ∀ pc, pI 172 pc = pJ_172 pc := fun _ => rfl
noncomputable def xb_172_7 : List zF := [zq_ildg zG2, zq_iret 0]
noncomputable def xf_172_7 : zE → zKn := fun E => zq_ildg zG2 (zq_iret 0 (zNil) E) E
theorem xe_172_7 : xf_172_7 = zEx xb_172_7 := by
  unfold xf_172_7 xb_172_7
  rfl
theorem xc_172_7 : zCd 172 [0, 4, 45, 46, 80, 81, 93, 99] 99 xb_172_7 := zc_iload_n xj_172 100 2 rfl rfl zf_ild_2 (zc_ireturn0 xj_172 101 rfl rfl (trivial))
noncomputable def xb_172_6 : List zF := [zq_incg zG3 zE3 1, zq_goto 4]
noncomputable def xf_172_6 : zE → zKn := fun E => zq_incg zG3 zE3 1 (zq_goto 4 (zNil) E) E
theorem xe_172_6 : xf_172_6 = zEx xb_172_6 := by
  unfold xf_172_6 xb_172_6
  rfl
theorem xc_172_6 : zCd 172 [0, 4, 45, 46, 80, 81, 93, 99] 93 xb_172_6 := zc_iinc xj_172 96 3 1 1 rfl rfl rfl (zf_inc_3 _) (zc_goto xj_172 97 (-92) 4 rfl rfl rfl (trivial))
noncomputable def xb_172_5 : List zF := zq_istg zE5 :: zq_ildg zG4 :: zq_ildg zG5 :: zq_ic_eq 93 :: zq_incg zG2 zE2 1 :: xb_172_6
noncomputable def xf_172_5 : zE → zKn := fun E => zq_istg zE5 (zq_ildg zG4 (zq_ildg zG5 (zq_ic_eq 93 (zq_incg zG2 zE2 1 (xf_172_6 E) E) E) E) E) E
theorem xe_172_5 : xf_172_5 = zEx xb_172_5 := by
  unfold xf_172_5 xb_172_5
  rw [xe_172_6]
  rfl
theorem xc_172_5 : zCd 172 [0, 4, 45, 46, 80, 81, 93, 99] 81 xb_172_5 := zc_istore xj_172 83 5 rfl rfl zf_ist_5 (zc_iload xj_172 85 4 rfl rfl zf_ild_4 (zc_iload xj_172 87 5 rfl rfl zf_ild_5 (zc_ic_eq xj_172 90 6 93 rfl rfl rfl (zc_iinc xj_172 93 2 1 1 rfl rfl rfl (zf_inc_2 _) (xc_172_6)))))
noncomputable def xb_172_4 : List zF := zq_k 0 :: xb_172_5
noncomputable def xf_172_4 : zE → zKn := fun E => zq_k 0 (xf_172_5 E) E
theorem xe_172_4 : xf_172_4 = zEx xb_172_4 := by
  unfold xf_172_4 xb_172_4
  rw [xe_172_5]
  rfl
theorem xc_172_4 : zCd 172 [0, 4, 45, 46, 80, 81, 93, 99] 80 xb_172_4 := zc_iconst xj_172 81 0 0 rfl rfl rfl (xc_172_5)
noncomputable def xb_172_3 : List zF := [zq_istg zE4, zq_aldg zG0, zq_getfg 8 zG0, zq_getfg 1 zG0, zq_getfg 5 zG2, zq_aldg zG0, zq_getfg 8 zG0, zq_getfg 1 zG4, zq_k 2, zq_ildg zG3, zq_mul, zq_k 1, zq_add, zq_ild_ 0, zq_ild_ 0, zq_ildg zG1, zq_ic_le 80, zq_k 1, zq_goto 81]
noncomputable def xf_172_3 : zE → zKn := fun E => zq_istg zE4 (zq_aldg zG0 (zq_getfg 8 zG0 (zq_getfg 1 zG0 (zq_getfg 5 zG2 (zq_aldg zG0 (zq_getfg 8 zG0 (zq_getfg 1 zG4 (zq_k 2 (zq_ildg zG3 (zq_mul (zq_k 1 (zq_add (zq_ild_ 0 (zq_ild_ 0 (zq_ildg zG1 (zq_ic_le 80 (zq_k 1 (zq_goto 81 (zNil) E) E) E) E) E) E) E) E) E) E) E) E) E) E) E) E) E) E) E
theorem xe_172_3 : xf_172_3 = zEx xb_172_3 := by
  unfold xf_172_3 xb_172_3
  rfl
theorem xc_172_3 : zCd 172 [0, 4, 45, 46, 80, 81, 93, 99] 46 xb_172_3 := zc_istore xj_172 48 4 rfl rfl zf_ist_4 (zc_aload_n xj_172 49 0 rfl rfl zf_ald_0 (zc_getf xj_172 52 12 8 0 84 rfl rfl (zf_getf_0 _) (zc_getf xj_172 55 75 1 0 25 rfl rfl (zf_getf_0 _) (zc_getf xj_172 58 130 5 2 8 rfl rfl (zf_getf_2 _) (zc_aload_n xj_172 59 0 rfl rfl zf_ald_0 (zc_getf xj_172 62 12 8 0 84 rfl rfl (zf_getf_0 _) (zc_getf xj_172 65 343 1 4 38 rfl rfl (zf_getf_4 _) (zc_iconst xj_172 66 2 2 rfl rfl rfl (zc_iload_n xj_172 67 3 rfl rfl zf_ild_3 (zc_imul xj_172 68 rfl rfl (zc_iconst xj_172 69 1 1 rfl rfl rfl (zc_iadd xj_172 70 rfl rfl (zc_iaload xj_172 71 rfl rfl (zc_iaload xj_172 72 rfl rfl (zc_iload_n xj_172 73 1 rfl rfl zf_ild_1 (zc_ic_le xj_172 76 7 80 rfl rfl rfl (zc_iconst xj_172 77 1 1 rfl rfl rfl (zc_goto xj_172 78 4 81 rfl rfl rfl (trivial)))))))))))))))))))
noncomputable def xb_172_2 : List zF := zq_k 0 :: xb_172_3
noncomputable def xf_172_2 : zE → zKn := fun E => zq_k 0 (xf_172_3 E) E
theorem xe_172_2 : xf_172_2 = zEx xb_172_2 := by
  unfold xf_172_2 xb_172_2
  rw [xe_172_3]
  rfl
theorem xc_172_2 : zCd 172 [0, 4, 45, 46, 80, 81, 93, 99] 45 xb_172_2 := zc_iconst xj_172 46 0 0 rfl rfl rfl (xc_172_3)
noncomputable def xb_172_1 : List zF := [zq_ildg zG3, zq_aldg zG0, zq_getfg 8 zG0, zq_getfg 1 zG8, zq_ic_ge 99, zq_aldg zG0, zq_getfg 8 zG0, zq_getfg 1 zG0, zq_getfg 5 zG2, zq_aldg zG0, zq_getfg 8 zG0, zq_getfg 1 zG4, zq_k 2, zq_ildg zG3, zq_mul, zq_ild_ 0, zq_ild_ 0, zq_ildg zG1, zq_ic_le 45, zq_k 1, zq_goto 46]
noncomputable def xf_172_1 : zE → zKn := fun E => zq_ildg zG3 (zq_aldg zG0 (zq_getfg 8 zG0 (zq_getfg 1 zG8 (zq_ic_ge 99 (zq_aldg zG0 (zq_getfg 8 zG0 (zq_getfg 1 zG0 (zq_getfg 5 zG2 (zq_aldg zG0 (zq_getfg 8 zG0 (zq_getfg 1 zG4 (zq_k 2 (zq_ildg zG3 (zq_mul (zq_ild_ 0 (zq_ild_ 0 (zq_ildg zG1 (zq_ic_le 45 (zq_k 1 (zq_goto 46 (zNil) E) E) E) E) E) E) E) E) E) E) E) E) E) E) E) E) E) E) E) E) E
theorem xe_172_1 : xf_172_1 = zEx xb_172_1 := by
  unfold xf_172_1 xb_172_1
  rfl
theorem xc_172_1 : zCd 172 [0, 4, 45, 46, 80, 81, 93, 99] 4 xb_172_1 := zc_iload_n xj_172 5 3 rfl rfl zf_ild_3 (zc_aload_n xj_172 6 0 rfl rfl zf_ald_0 (zc_getf xj_172 9 12 8 0 84 rfl rfl (zf_getf_0 _) (zc_getf xj_172 12 204 1 8 51 rfl rfl (zf_getf_8 _) (zc_ic_ge xj_172 15 87 99 rfl rfl rfl (zc_aload_n xj_172 16 0 rfl rfl zf_ald_0 (zc_getf xj_172 19 12 8 0 84 rfl rfl (zf_getf_0 _) (zc_getf xj_172 22 75 1 0 25 rfl rfl (zf_getf_0 _) (zc_getf xj_172 25 130 5 2 8 rfl rfl (zf_getf_2 _) (zc_aload_n xj_172 26 0 rfl rfl zf_ald_0 (zc_getf xj_172 29 12 8 0 84 rfl rfl (zf_getf_0 _) (zc_getf xj_172 32 343 1 4 38 rfl rfl (zf_getf_4 _) (zc_iconst xj_172 33 2 2 rfl rfl rfl (zc_iload_n xj_172 34 3 rfl rfl zf_ild_3 (zc_imul xj_172 35 rfl rfl (zc_iaload xj_172 36 rfl rfl (zc_iaload xj_172 37 rfl rfl (zc_iload_n xj_172 38 1 rfl rfl zf_ild_1 (zc_ic_le xj_172 41 7 45 rfl rfl rfl (zc_iconst xj_172 42 1 1 rfl rfl rfl (zc_goto xj_172 43 4 46 rfl rfl rfl (trivial)))))))))))))))))))))
noncomputable def xb_172_0 : List zF := zq_k 0 :: zq_istg zE2 :: zq_k 0 :: zq_istg zE3 :: xb_172_1
noncomputable def xf_172_0 : zE → zKn := fun E => zq_k 0 (zq_istg zE2 (zq_k 0 (zq_istg zE3 (xf_172_1 E) E) E) E) E
theorem xe_172_0 : xf_172_0 = zEx xb_172_0 := by
  unfold xf_172_0 xb_172_0
  rw [xe_172_1]
  rfl
theorem xc_172_0 : zCd 172 [0, 4, 45, 46, 80, 81, 93, 99] 0 xb_172_0 := zc_iconst xj_172 1 0 0 rfl rfl rfl (zc_istore_n xj_172 2 2 rfl rfl zf_ist_2 (zc_iconst xj_172 3 0 0 rfl rfl rfl (zc_istore_n xj_172 4 3 rfl rfl zf_ist_3 (xc_172_1))))
noncomputable def xm_172 : Lean.RArray (zE → zKn) := .branch 80 (.branch 45 (.branch 4 (.leaf xf_172_0) (.leaf xf_172_1)) (.branch 46 (.leaf xf_172_2) (.leaf xf_172_3))) (.branch 93 (.branch 81 (.leaf xf_172_4) (.leaf xf_172_5)) (.branch 99 (.leaf xf_172_6) (.leaf xf_172_7)))
theorem xa_172 : zCdAll 172 [0, 4, 45, 46, 80, 81, 93, 99] xm_172 := zAll2_ok (P := fun t => ∃ c, zCd 172 [0, 4, 45, 46, 80, 81, 93, 99] t c ∧ xm_172.get t = zEx c) ⟨⟨_, xc_172_0, xe_172_0⟩, ⟨_, xc_172_1, xe_172_1⟩, ⟨_, xc_172_2, xe_172_2⟩, ⟨_, xc_172_3, xe_172_3⟩, ⟨_, xc_172_4, xe_172_4⟩, ⟨_, xc_172_5, xe_172_5⟩, ⟨_, xc_172_6, xe_172_6⟩, ⟨_, xc_172_7, xe_172_7⟩, trivial⟩
/-- SquareMesh.drain -/
theorem xj_173 : ∀ pc, pI 173 pc = pJ_173 pc := fun _ => rfl
noncomputable def xb_173_7 : List zF := [zq_iret 0]
noncomputable def xf_173_7 : zE → zKn := fun E => zq_iret 0 (zNil) E
theorem xe_173_7 : xf_173_7 = zEx xb_173_7 := by
  unfold xf_173_7 xb_173_7
  rfl
theorem xc_173_7 : zCd 173 [0, 23, 25, 33, 87, 99, 107, 109] 109 xb_173_7 := zc_ireturn0 xj_173 110 rfl rfl (trivial)
noncomputable def xb_173_6 : List zF := zq_ildg zG4 :: xb_173_7
noncomputable def xf_173_6 : zE → zKn := fun E => zq_ildg zG4 (xf_173_7 E) E
theorem xe_173_6 : xf_173_6 = zEx xb_173_6 := by
  unfold xf_173_6 xb_173_6
  rw [xe_173_7]
  rfl
theorem xc_173_6 : zCd 173 [0, 23, 25, 33, 87, 99, 107, 109] 107 xb_173_6 := zc_iload xj_173 109 4 rfl rfl zf_ild_4 (xc_173_7)
noncomputable def xb_173_5 : List zF := [zq_ildg zG2, zq_if_ne 107, zq_ildg zG3, zq_goto 109]
noncomputable def xf_173_5 : zE → zKn := fun E => zq_ildg zG2 (zq_if_ne 107 (zq_ildg zG3 (zq_goto 109 (zNil) E) E) E) E
theorem xe_173_5 : xf_173_5 = zEx xb_173_5 := by
  unfold xf_173_5 xb_173_5
  rfl
theorem xc_173_5 : zCd 173 [0, 23, 25, 33, 87, 99, 107, 109] 99 xb_173_5 := zc_iload_n xj_173 100 2 rfl rfl zf_ild_2 (zc_if_ne xj_173 103 7 107 rfl rfl rfl (zc_iload_n xj_173 104 3 rfl rfl zf_ild_3 (zc_goto xj_173 105 5 109 rfl rfl rfl (trivial))))
noncomputable def xb_173_4 : List zF := [zq_ildg zG6, zq_istg zE3, zq_incg zG4 zE4 1, zq_incg zG5 zE5 1, zq_goto 33]
noncomputable def xf_173_4 : zE → zKn := fun E => zq_ildg zG6 (zq_istg zE3 (zq_incg zG4 zE4 1 (zq_incg zG5 zE5 1 (zq_goto 33 (zNil) E) E) E) E) E
theorem xe_173_4 : xf_173_4 = zEx xb_173_4 := by
  unfold xf_173_4 xb_173_4
  rfl
theorem xc_173_4 : zCd 173 [0, 23, 25, 33, 87, 99, 107, 109] 87 xb_173_4 := zc_iload xj_173 89 6 rfl rfl zf_ild_6 (zc_istore_n xj_173 90 3 rfl rfl zf_ist_3 (zc_iinc xj_173 93 4 1 1 rfl rfl rfl (zf_inc_4 _) (zc_iinc xj_173 96 5 1 1 rfl rfl rfl (zf_inc_5 _) (zc_goto xj_173 97 (-63) 33 rfl rfl rfl (trivial)))))
noncomputable def xb_173_3 : List zF := [zq_ildg zG5, zq_k 40, zq_ic_ge 99, zq_aldg zG0, zq_getfg 8 zG0, zq_ildg zG3, zq_calli 56 1 1 4, zq_istg zE6, zq_ildg zG6, zq_k 4294967295, zq_ic_eq 99, zq_aldg zG0, zq_getfg 8 zG0, zq_getfg 1 zG0, zq_getfg 5 zG2, zq_ildg zG6, zq_ild_ 0, zq_aldg zG0, zq_getfg 8 zG0, zq_getfg 1 zG0, zq_getfg 5 zG2, zq_ildg zG3, zq_ild_ 0, zq_ic_lt 87, zq_goto 99]
noncomputable def xf_173_3 : zE → zKn := fun E => zq_ildg zG5 (zq_k 40 (zq_ic_ge 99 (zq_aldg zG0 (zq_getfg 8 zG0 (zq_ildg zG3 (zq_calli 56 1 1 4 (zq_istg zE6 (zq_ildg zG6 (zq_k 4294967295 (zq_ic_eq 99 (zq_aldg zG0 (zq_getfg 8 zG0 (zq_getfg 1 zG0 (zq_getfg 5 zG2 (zq_ildg zG6 (zq_ild_ 0 (zq_aldg zG0 (zq_getfg 8 zG0 (zq_getfg 1 zG0 (zq_getfg 5 zG2 (zq_ildg zG3 (zq_ild_ 0 (zq_ic_lt 87 (zq_goto 99 (zNil) E) E) E) E) E) E) E) E) E) E) E) E) E) E) E) E) E) E) E) E) E) E) E) E) E
theorem xe_173_3 : xf_173_3 = zEx xb_173_3 := by
  unfold xf_173_3 xb_173_3
  rfl
theorem xc_173_3 : zCd 173 [0, 23, 25, 33, 87, 99, 107, 109] 33 xb_173_3 := zc_iload xj_173 35 5 rfl rfl zf_ild_5 (zc_bipush xj_173 37 40 40 rfl rfl rfl (zc_ic_ge xj_173 40 62 99 rfl rfl rfl (zc_aload_n xj_173 41 0 rfl rfl zf_ald_0 (zc_getf xj_173 44 12 8 0 84 rfl rfl (zf_getf_0 _) (zc_iload_n xj_173 45 3 rfl rfl zf_ild_3 (zc_invokevirtual1 xj_173 48 372 56 1 228 1 4 rfl rfl rfl rfl (zc_istore xj_173 50 6 rfl rfl zf_ist_6 (zc_iload xj_173 52 6 rfl rfl zf_ild_6 (zc_iconst xj_173 53 (-1) 4294967295 rfl rfl rfl (zc_ic_eq xj_173 56 46 99 rfl rfl rfl (zc_aload_n xj_173 57 0 rfl rfl zf_ald_0 (zc_getf xj_173 60 12 8 0 84 rfl rfl (zf_getf_0 _) (zc_getf xj_173 63 75 1 0 25 rfl rfl (zf_getf_0 _) (zc_getf xj_173 66 130 5 2 8 rfl rfl (zf_getf_2 _) (zc_iload xj_173 68 6 rfl rfl zf_ild_6 (zc_iaload xj_173 69 rfl rfl (zc_aload_n xj_173 70 0 rfl rfl zf_ald_0 (zc_getf xj_173 73 12 8 0 84 rfl rfl (zf_getf_0 _) (zc_getf xj_173 76 75 1 0 25 rfl rfl (zf_getf_0 _) (zc_getf xj_173 79 130 5 2 8 rfl rfl (zf_getf_2 _) (zc_iload_n xj_173 80 3 rfl rfl zf_ild_3 (zc_iaload xj_173 81 rfl rfl (zc_ic_lt xj_173 84 6 87 rfl rfl rfl (zc_goto xj_173 85 15 99 rfl rfl rfl (trivial)))))))))))))))))))))))))
noncomputable def xb_173_2 : List zF := zq_ildg zG1 :: zq_istg zE3 :: zq_k 0 :: zq_istg zE4 :: zq_k 0 :: zq_istg zE5 :: xb_173_3
noncomputable def xf_173_2 : zE → zKn := fun E => zq_ildg zG1 (zq_istg zE3 (zq_k 0 (zq_istg zE4 (zq_k 0 (zq_istg zE5 (xf_173_3 E) E) E) E) E) E) E
theorem xe_173_2 : xf_173_2 = zEx xb_173_2 := by
  unfold xf_173_2 xb_173_2
  rw [xe_173_3]
  rfl
theorem xc_173_2 : zCd 173 [0, 23, 25, 33, 87, 99, 107, 109] 25 xb_173_2 := zc_iload_n xj_173 26 1 rfl rfl zf_ild_1 (zc_istore_n xj_173 27 3 rfl rfl zf_ist_3 (zc_iconst xj_173 28 0 0 rfl rfl rfl (zc_istore xj_173 30 4 rfl rfl zf_ist_4 (zc_iconst xj_173 31 0 0 rfl rfl rfl (zc_istore xj_173 33 5 rfl rfl zf_ist_5 (xc_173_3))))))
noncomputable def xb_173_1 : List zF := [zq_k 4294967295, zq_iret 0]
noncomputable def xf_173_1 : zE → zKn := fun E => zq_k 4294967295 (zq_iret 0 (zNil) E) E
theorem xe_173_1 : xf_173_1 = zEx xb_173_1 := by
  unfold xf_173_1 xb_173_1
  rfl
theorem xc_173_1 : zCd 173 [0, 23, 25, 33, 87, 99, 107, 109] 23 xb_173_1 := zc_iconst xj_173 24 (-1) 4294967295 rfl rfl rfl (zc_ireturn0 xj_173 25 rfl rfl (trivial))
noncomputable def xb_173_0 : List zF := zq_aldg zG0 :: zq_getfg 8 zG0 :: zq_getfg 1 zG0 :: zq_ildg zG1 :: zq_calli 82 1 5 2 :: zq_if_eq 23 :: zq_ildg zG2 :: zq_if_lt 23 :: zq_ildg zG2 :: zq_k 1 :: zq_ic_le 25 :: xb_173_1
noncomputable def xf_173_0 : zE → zKn := fun E => zq_aldg zG0 (zq_getfg 8 zG0 (zq_getfg 1 zG0 (zq_ildg zG1 (zq_calli 82 1 5 2 (zq_if_eq 23 (zq_ildg zG2 (zq_if_lt 23 (zq_ildg zG2 (zq_k 1 (zq_ic_le 25 (xf_173_1 E) E) E) E) E) E) E) E) E) E) E) E
theorem xe_173_0 : xf_173_0 = zEx xb_173_0 := by
  unfold xf_173_0 xb_173_0
  rw [xe_173_1]
  rfl
theorem xc_173_0 : zCd 173 [0, 23, 25, 33, 87, 99, 107, 109] 0 xb_173_0 := zc_aload_n xj_173 1 0 rfl rfl zf_ald_0 (zc_getf xj_173 4 12 8 0 84 rfl rfl (zf_getf_0 _) (zc_getf xj_173 7 75 1 0 25 rfl rfl (zf_getf_0 _) (zc_iload_n xj_173 8 1 rfl rfl zf_ild_1 (zc_invokevirtual1 xj_173 11 127 82 1 98 5 2 rfl rfl rfl rfl (zc_if_eq xj_173 14 12 23 rfl rfl rfl (zc_iload_n xj_173 15 2 rfl rfl zf_ild_2 (zc_if_lt xj_173 18 8 23 rfl rfl rfl (zc_iload_n xj_173 19 2 rfl rfl zf_ild_2 (zc_iconst xj_173 20 1 1 rfl rfl rfl (zc_ic_le xj_173 23 5 25 rfl rfl rfl (xc_173_1)))))))))))
noncomputable def xm_173 : Lean.RArray (zE → zKn) := .branch 87 (.branch 25 (.branch 23 (.leaf xf_173_0) (.leaf xf_173_1)) (.branch 33 (.leaf xf_173_2) (.leaf xf_173_3))) (.branch 107 (.branch 99 (.leaf xf_173_4) (.leaf xf_173_5)) (.branch 109 (.leaf xf_173_6) (.leaf xf_173_7)))
theorem xa_173 : zCdAll 173 [0, 23, 25, 33, 87, 99, 107, 109] xm_173 := zAll2_ok (P := fun t => ∃ c, zCd 173 [0, 23, 25, 33, 87, 99, 107, 109] t c ∧ xm_173.get t = zEx c) ⟨⟨_, xc_173_0, xe_173_0⟩, ⟨_, xc_173_1, xe_173_1⟩, ⟨_, xc_173_2, xe_173_2⟩, ⟨_, xc_173_3, xe_173_3⟩, ⟨_, xc_173_4, xe_173_4⟩, ⟨_, xc_173_5, xe_173_5⟩, ⟨_, xc_173_6, xe_173_6⟩, ⟨_, xc_173_7, xe_173_7⟩, trivial⟩
/-- SquareMesh.volume -/
theorem xj_174 : ∀ pc, pI 174 pc = pJ_174 pc := fun _ => rfl
noncomputable def xb_174_4 : List zF := [zq_lldg zG1, zq_lret]
noncomputable def xf_174_4 : zE → zKn := fun E => zq_lldg zG1 (zq_lret (zNil) E) E
theorem xe_174_4 : xf_174_4 = zEx xb_174_4 := by
  unfold xf_174_4 xb_174_4
  rfl
theorem xc_174_4 : zCd 174 [0, 4, 21, 60, 81] 81 xb_174_4 := zc_lload_n xj_174 82 1 rfl rfl zf_lld_1 (zc_lreturn xj_174 83 rfl rfl (trivial))
noncomputable def xb_174_3 : List zF := [zq_lldg zG1, zq_lldg zG4, zq_aldg zG0, zq_getfg 8 zG0, zq_ildg zG3, zq_calli 39 1 1 2, zq_i2l, zq_lmul, zq_ladd, zq_lst 1, zq_incg zG3 zE3 1, zq_goto 4]
noncomputable def xf_174_3 : zE → zKn := fun E => zq_lldg zG1 (zq_lldg zG4 (zq_aldg zG0 (zq_getfg 8 zG0 (zq_ildg zG3 (zq_calli 39 1 1 2 (zq_i2l (zq_lmul (zq_ladd (zq_lst 1 (zq_incg zG3 zE3 1 (zq_goto 4 (zNil) E) E) E) E) E) E) E) E) E) E) E) E
theorem xe_174_3 : xf_174_3 = zEx xb_174_3 := by
  unfold xf_174_3 xb_174_3
  rfl
theorem xc_174_3 : zCd 174 [0, 4, 21, 60, 81] 60 xb_174_3 := zc_lload_n xj_174 61 1 rfl rfl zf_lld_1 (zc_lload xj_174 63 4 rfl rfl zf_lld_4 (zc_aload_n xj_174 64 0 rfl rfl zf_ald_0 (zc_getf xj_174 67 12 8 0 84 rfl rfl (zf_getf_0 _) (zc_iload_n xj_174 68 3 rfl rfl zf_ild_3 (zc_invokevirtual1 xj_174 71 255 39 1 158 1 2 rfl rfl rfl rfl (zc_i2l xj_174 72 rfl rfl (zc_lmul xj_174 73 rfl rfl (zc_ladd xj_174 74 rfl rfl (zc_lstore_n xj_174 75 1 rfl rfl rfl (zc_iinc xj_174 78 3 1 1 rfl rfl rfl (zf_inc_3 _) (zc_goto xj_174 79 (-74) 4 rfl rfl rfl (trivial))))))))))))
noncomputable def xb_174_2 : List zF := [zq_ildg zG6, zq_k 3, zq_ic_ge 60, zq_lldg zG4, zq_aldg zG0, zq_getfg 8 zG0, zq_getfg 1 zG0, zq_getfg 5 zG2, zq_aldg zG0, zq_getfg 8 zG0, zq_ildg zG3, zq_ildg zG6, zq_calli 35 2 1 3, zq_ild_ 0, zq_i2l, zq_ladd, zq_lst 4, zq_incg zG6 zE6 1, zq_goto 21]
noncomputable def xf_174_2 : zE → zKn := fun E => zq_ildg zG6 (zq_k 3 (zq_ic_ge 60 (zq_lldg zG4 (zq_aldg zG0 (zq_getfg 8 zG0 (zq_getfg 1 zG0 (zq_getfg 5 zG2 (zq_aldg zG0 (zq_getfg 8 zG0 (zq_ildg zG3 (zq_ildg zG6 (zq_calli 35 2 1 3 (zq_ild_ 0 (zq_i2l (zq_ladd (zq_lst 4 (zq_incg zG6 zE6 1 (zq_goto 21 (zNil) E) E) E) E) E) E) E) E) E) E) E) E) E) E) E) E) E) E) E
theorem xe_174_2 : xf_174_2 = zEx xb_174_2 := by
  unfold xf_174_2 xb_174_2
  rfl
theorem xc_174_2 : zCd 174 [0, 4, 21, 60, 81] 21 xb_174_2 := zc_iload xj_174 23 6 rfl rfl zf_ild_6 (zc_iconst xj_174 24 3 3 rfl rfl rfl (zc_ic_ge xj_174 27 36 60 rfl rfl rfl (zc_lload xj_174 29 4 rfl rfl zf_lld_4 (zc_aload_n xj_174 30 0 rfl rfl zf_ald_0 (zc_getf xj_174 33 12 8 0 84 rfl rfl (zf_getf_0 _) (zc_getf xj_174 36 75 1 0 25 rfl rfl (zf_getf_0 _) (zc_getf xj_174 39 130 5 2 8 rfl rfl (zf_getf_2 _) (zc_aload_n xj_174 40 0 rfl rfl zf_ald_0 (zc_getf xj_174 43 12 8 0 84 rfl rfl (zf_getf_0 _) (zc_iload_n xj_174 44 3 rfl rfl zf_ild_3 (zc_iload xj_174 46 6 rfl rfl zf_ild_6 (zc_invokevirtual1 xj_174 49 144 35 2 107 1 3 rfl rfl rfl rfl (zc_iaload xj_174 50 rfl rfl (zc_i2l xj_174 51 rfl rfl (zc_ladd xj_174 52 rfl rfl (zc_lstore xj_174 54 4 rfl rfl rfl (zc_iinc xj_174 57 6 1 1 rfl rfl rfl (zf_inc_6 _) (zc_goto xj_174 58 (-36) 21 rfl rfl rfl (trivial)))))))))))))))))))
noncomputable def xb_174_1 : List zF := zq_ildg zG3 :: zq_aldg zG0 :: zq_getfg 8 zG0 :: zq_getfg 1 zG7 :: zq_ic_ge 81 :: zq_kl 0 :: zq_lst 4 :: zq_k 0 :: zq_istg zE6 :: xb_174_2
noncomputable def xf_174_1 : zE → zKn := fun E => zq_ildg zG3 (zq_aldg zG0 (zq_getfg 8 zG0 (zq_getfg 1 zG7 (zq_ic_ge 81 (zq_kl 0 (zq_lst 4 (zq_k 0 (zq_istg zE6 (xf_174_2 E) E) E) E) E) E) E) E) E) E
theorem xe_174_1 : xf_174_1 = zEx xb_174_1 := by
  unfold xf_174_1 xb_174_1
  rw [xe_174_2]
  rfl
theorem xc_174_1 : zCd 174 [0, 4, 21, 60, 81] 4 xb_174_1 := zc_iload_n xj_174 5 3 rfl rfl zf_ild_3 (zc_aload_n xj_174 6 0 rfl rfl zf_ald_0 (zc_getf xj_174 9 12 8 0 84 rfl rfl (zf_getf_0 _) (zc_getf xj_174 12 197 1 7 47 rfl rfl (zf_getf_7 _) (zc_ic_ge xj_174 15 69 81 rfl rfl rfl (zc_lconst xj_174 16 0 rfl rfl (zc_lstore xj_174 18 4 rfl rfl rfl (zc_iconst xj_174 19 0 0 rfl rfl rfl (zc_istore xj_174 21 6 rfl rfl zf_ist_6 (xc_174_2)))))))))
noncomputable def xb_174_0 : List zF := zq_kl 0 :: zq_lst 1 :: zq_k 0 :: zq_istg zE3 :: xb_174_1
noncomputable def xf_174_0 : zE → zKn := fun E => zq_kl 0 (zq_lst 1 (zq_k 0 (zq_istg zE3 (xf_174_1 E) E) E) E) E
theorem xe_174_0 : xf_174_0 = zEx xb_174_0 := by
  unfold xf_174_0 xb_174_0
  rw [xe_174_1]
  rfl
theorem xc_174_0 : zCd 174 [0, 4, 21, 60, 81] 0 xb_174_0 := zc_lconst xj_174 1 0 rfl rfl (zc_lstore_n xj_174 2 1 rfl rfl rfl (zc_iconst xj_174 3 0 0 rfl rfl rfl (zc_istore_n xj_174 4 3 rfl rfl zf_ist_3 (xc_174_1))))
noncomputable def xm_174 : Lean.RArray (zE → zKn) := .branch 21 (.branch 4 (.leaf xf_174_0) (.leaf xf_174_1)) (.branch 60 (.leaf xf_174_2) (.branch 81 (.leaf xf_174_3) (.leaf xf_174_4)))
theorem xa_174 : zCdAll 174 [0, 4, 21, 60, 81] xm_174 := zAll2_ok (P := fun t => ∃ c, zCd 174 [0, 4, 21, 60, 81] t c ∧ xm_174.get t = zEx c) ⟨⟨_, xc_174_0, xe_174_0⟩, ⟨_, xc_174_1, xe_174_1⟩, ⟨_, xc_174_2, xe_174_2⟩, ⟨_, xc_174_3, xe_174_3⟩, ⟨_, xc_174_4, xe_174_4⟩, trivial⟩
/-- SquareMesh.passage -/
theorem xj_175 : ∀ pc, pI 175 pc = pJ_175 pc := fun _ => rfl
noncomputable def xb_175_4 : List zF := [zq_iret 0]
noncomputable def xf_175_4 : zE → zKn := fun E => zq_iret 0 (zNil) E
theorem xe_175_4 : xf_175_4 = zEx xb_175_4 := by
  unfold xf_175_4 xb_175_4
  rfl
theorem xc_175_4 : zCd 175 [0, 35, 37, 69, 84] 84 xb_175_4 := zc_ireturn0 xj_175 85 rfl rfl (trivial)
noncomputable def xb_175_3 : List zF := zq_aldg zG0 :: zq_getfg 8 zG6 :: zq_aldg zG0 :: zq_getfg 8 zG0 :: zq_ildg zG6 :: zq_ildg zG5 :: zq_calli 59 3 2 6 :: xb_175_4
noncomputable def xf_175_3 : zE → zKn := fun E => zq_aldg zG0 (zq_getfg 8 zG6 (zq_aldg zG0 (zq_getfg 8 zG0 (zq_ildg zG6 (zq_ildg zG5 (zq_calli 59 3 2 6 (xf_175_4 E) E) E) E) E) E) E) E
theorem xe_175_3 : xf_175_3 = zEx xb_175_3 := by
  unfold xf_175_3 xb_175_3
  rw [xe_175_4]
  rfl
theorem xc_175_3 : zCd 175 [0, 35, 37, 69, 84] 69 xb_175_3 := zc_aload_n xj_175 70 0 rfl rfl zf_ald_0 (zc_getf xj_175 73 46 8 6 90 rfl rfl (zf_getf_6 _) (zc_aload_n xj_175 74 0 rfl rfl zf_ald_0 (zc_getf xj_175 77 12 8 0 84 rfl rfl (zf_getf_0 _) (zc_iload xj_175 79 6 rfl rfl zf_ild_6 (zc_iload xj_175 81 5 rfl rfl zf_ild_5 (zc_invokevirtual1 xj_175 84 379 59 3 233 2 6 rfl rfl rfl rfl (xc_175_4)))))))
noncomputable def xb_175_2 : List zF := [zq_aldg zG0, zq_getfg 8 zG6, zq_aldg zG0, zq_getfg 8 zG0, zq_ildg zG7, zq_calli 58 2 2 8, zq_ildg zG5, zq_k 4294967295, zq_ic_ne 69, zq_aldg zG0, zq_getfg 8 zG6, zq_getfg 2 zG0, zq_ildg zG6, zq_ild_ 0, zq_goto 84]
noncomputable def xf_175_2 : zE → zKn := fun E => zq_aldg zG0 (zq_getfg 8 zG6 (zq_aldg zG0 (zq_getfg 8 zG0 (zq_ildg zG7 (zq_calli 58 2 2 8 (zq_ildg zG5 (zq_k 4294967295 (zq_ic_ne 69 (zq_aldg zG0 (zq_getfg 8 zG6 (zq_getfg 2 zG0 (zq_ildg zG6 (zq_ild_ 0 (zq_goto 84 (zNil) E) E) E) E) E) E) E) E) E) E) E) E) E) E) E
theorem xe_175_2 : xf_175_2 = zEx xb_175_2 := by
  unfold xf_175_2 xb_175_2
  rfl
theorem xc_175_2 : zCd 175 [0, 35, 37, 69, 84] 37 xb_175_2 := zc_aload_n xj_175 38 0 rfl rfl zf_ald_0 (zc_getf xj_175 41 46 8 6 90 rfl rfl (zf_getf_6 _) (zc_aload_n xj_175 42 0 rfl rfl zf_ald_0 (zc_getf xj_175 45 12 8 0 84 rfl rfl (zf_getf_0 _) (zc_iload xj_175 47 7 rfl rfl zf_ild_7 (zc_invokevirtual1 xj_175 50 375 58 2 231 2 8 rfl rfl rfl rfl (zc_iload xj_175 52 5 rfl rfl zf_ild_5 (zc_iconst xj_175 53 (-1) 4294967295 rfl rfl rfl (zc_ic_ne xj_175 56 16 69 rfl rfl rfl (zc_aload_n xj_175 57 0 rfl rfl zf_ald_0 (zc_getf xj_175 60 46 8 6 90 rfl rfl (zf_getf_6 _) (zc_getf xj_175 63 378 2 0 71 rfl rfl (zf_getf_0 _) (zc_iload xj_175 65 6 rfl rfl zf_ild_6 (zc_iaload xj_175 66 rfl rfl (zc_goto xj_175 67 18 84 rfl rfl rfl (trivial)))))))))))))))
noncomputable def xb_175_1 : List zF := [zq_k 4294967295, zq_iret 0]
noncomputable def xf_175_1 : zE → zKn := fun E => zq_k 4294967295 (zq_iret 0 (zNil) E) E
theorem xe_175_1 : xf_175_1 = zEx xb_175_1 := by
  unfold xf_175_1 xb_175_1
  rfl
theorem xc_175_1 : zCd 175 [0, 35, 37, 69, 84] 35 xb_175_1 := zc_iconst xj_175 36 (-1) 4294967295 rfl rfl rfl (zc_ireturn0 xj_175 37 rfl rfl (trivial))
noncomputable def xb_175_0 : List zF := zq_aldg zG0 :: zq_getfg 8 zG0 :: zq_ildg zG1 :: zq_ildg zG2 :: zq_calli 44 2 1 4 :: zq_istg zE6 :: zq_aldg zG0 :: zq_getfg 8 zG0 :: zq_ildg zG3 :: zq_ildg zG4 :: zq_calli 44 2 1 4 :: zq_istg zE7 :: zq_ildg zG6 :: zq_k 4294967295 :: zq_ic_eq 35 :: zq_ildg zG7 :: zq_k 4294967295 :: zq_ic_ne 37 :: xb_175_1
noncomputable def xf_175_0 : zE → zKn := fun E => zq_aldg zG0 (zq_getfg 8 zG0 (zq_ildg zG1 (zq_ildg zG2 (zq_calli 44 2 1 4 (zq_istg zE6 (zq_aldg zG0 (zq_getfg 8 zG0 (zq_ildg zG3 (zq_ildg zG4 (zq_calli 44 2 1 4 (zq_istg zE7 (zq_ildg zG6 (zq_k 4294967295 (zq_ic_eq 35 (zq_ildg zG7 (zq_k 4294967295 (zq_ic_ne 37 (xf_175_1 E) E) E) E) E) E) E) E) E) E) E) E) E) E) E) E) E) E) E
theorem xe_175_0 : xf_175_0 = zEx xb_175_0 := by
  unfold xf_175_0 xb_175_0
  rw [xe_175_1]
  rfl
theorem xc_175_0 : zCd 175 [0, 35, 37, 69, 84] 0 xb_175_0 := zc_aload_n xj_175 1 0 rfl rfl zf_ald_0 (zc_getf xj_175 4 12 8 0 84 rfl rfl (zf_getf_0 _) (zc_iload_n xj_175 5 1 rfl rfl zf_ild_1 (zc_iload_n xj_175 6 2 rfl rfl zf_ild_2 (zc_invokevirtual1 xj_175 9 270 44 2 164 1 4 rfl rfl rfl rfl (zc_istore xj_175 11 6 rfl rfl zf_ist_6 (zc_aload_n xj_175 12 0 rfl rfl zf_ald_0 (zc_getf xj_175 15 12 8 0 84 rfl rfl (zf_getf_0 _) (zc_iload_n xj_175 16 3 rfl rfl zf_ild_3 (zc_iload xj_175 18 4 rfl rfl zf_ild_4 (zc_invokevirtual1 xj_175 21 270 44 2 164 1 4 rfl rfl rfl rfl (zc_istore xj_175 23 7 rfl rfl zf_ist_7 (zc_iload xj_175 25 6 rfl rfl zf_ild_6 (zc_iconst xj_175 26 (-1) 4294967295 rfl rfl rfl (zc_ic_eq xj_175 29 9 35 rfl rfl rfl (zc_iload xj_175 31 7 rfl rfl zf_ild_7 (zc_iconst xj_175 32 (-1) 4294967295 rfl rfl rfl (zc_ic_ne xj_175 35 5 37 rfl rfl rfl (xc_175_1))))))))))))))))))
noncomputable def xm_175 : Lean.RArray (zE → zKn) := .branch 37 (.branch 35 (.leaf xf_175_0) (.leaf xf_175_1)) (.branch 69 (.leaf xf_175_2) (.branch 84 (.leaf xf_175_3) (.leaf xf_175_4)))
theorem xa_175 : zCdAll 175 [0, 35, 37, 69, 84] xm_175 := zAll2_ok (P := fun t => ∃ c, zCd 175 [0, 35, 37, 69, 84] t c ∧ xm_175.get t = zEx c) ⟨⟨_, xc_175_0, xe_175_0⟩, ⟨_, xc_175_1, xe_175_1⟩, ⟨_, xc_175_2, xe_175_2⟩, ⟨_, xc_175_3, xe_175_3⟩, ⟨_, xc_175_4, xe_175_4⟩, trivial⟩
/-- SquareMesh.hull -/
theorem xj_176 : ∀ pc, pI 176 pc = pJ_176 pc := fun _ => rfl
noncomputable def xb_176_3 : List zF := [zq_iret 0]
noncomputable def xf_176_3 : zE → zKn := fun E => zq_iret 0 (zNil) E
theorem xe_176_3 : xf_176_3 = zEx xb_176_3 := by
  unfold xf_176_3 xb_176_3
  rfl
theorem xc_176_3 : zCd 176 [0, 27, 54, 55] 55 xb_176_3 := zc_ireturn0 xj_176 56 rfl rfl (trivial)
noncomputable def xb_176_2 : List zF := zq_k 4294967295 :: xb_176_3
noncomputable def xf_176_2 : zE → zKn := fun E => zq_k 4294967295 (xf_176_3 E) E
theorem xe_176_2 : xf_176_2 = zEx xb_176_2 := by
  unfold xf_176_2 xb_176_2
  rw [xe_176_3]
  rfl
theorem xc_176_2 : zCd 176 [0, 27, 54, 55] 54 xb_176_2 := zc_iconst xj_176 55 (-1) 4294967295 rfl rfl rfl (xc_176_3)
noncomputable def xb_176_1 : List zF := [zq_ildg zG1, zq_if_lt 54, zq_ildg zG1, zq_aldg zG0, zq_getfg 8 zG8, zq_getfg 0 zG1, zq_ic_ge 54, zq_aldg zG0, zq_getfg 8 zG8, zq_getfg 0 zG0, zq_ildg zG1, zq_ild_ 0, zq_goto 55]
noncomputable def xf_176_1 : zE → zKn := fun E => zq_ildg zG1 (zq_if_lt 54 (zq_ildg zG1 (zq_aldg zG0 (zq_getfg 8 zG8 (zq_getfg 0 zG1 (zq_ic_ge 54 (zq_aldg zG0 (zq_getfg 8 zG8 (zq_getfg 0 zG0 (zq_ildg zG1 (zq_ild_ 0 (zq_goto 55 (zNil) E) E) E) E) E) E) E) E) E) E) E) E) E
theorem xe_176_1 : xf_176_1 = zEx xb_176_1 := by
  unfold xf_176_1 xb_176_1
  rfl
theorem xc_176_1 : zCd 176 [0, 27, 54, 55] 27 xb_176_1 := zc_iload_n xj_176 28 1 rfl rfl zf_ild_1 (zc_if_lt xj_176 31 26 54 rfl rfl rfl (zc_iload_n xj_176 32 1 rfl rfl zf_ild_1 (zc_aload_n xj_176 33 0 rfl rfl zf_ald_0 (zc_getf xj_176 36 60 8 8 92 rfl rfl (zf_getf_8 _) (zc_getf xj_176 39 386 0 1 83 rfl rfl (zf_getf_1 _) (zc_ic_ge xj_176 42 15 54 rfl rfl rfl (zc_aload_n xj_176 43 0 rfl rfl zf_ald_0 (zc_getf xj_176 46 60 8 8 92 rfl rfl (zf_getf_8 _) (zc_getf xj_176 49 387 0 0 81 rfl rfl (zf_getf_0 _) (zc_iload_n xj_176 50 1 rfl rfl zf_ild_1 (zc_iaload xj_176 51 rfl rfl (zc_goto xj_176 52 4 55 rfl rfl rfl (trivial)))))))))))))
noncomputable def xb_176_0 : List zF := [zq_aldg zG0, zq_getfg 8 zG8, zq_aldg zG0, zq_getfg 8 zG0, zq_getfg 1 zG0, zq_calli 1 1 0 5, zq_ildg zG1, zq_k 4294967295, zq_ic_ne 27, zq_aldg zG0, zq_getfg 8 zG8, zq_getfg 0 zG1, zq_iret 0]
noncomputable def xf_176_0 : zE → zKn := fun E => zq_aldg zG0 (zq_getfg 8 zG8 (zq_aldg zG0 (zq_getfg 8 zG0 (zq_getfg 1 zG0 (zq_calli 1 1 0 5 (zq_ildg zG1 (zq_k 4294967295 (zq_ic_ne 27 (zq_aldg zG0 (zq_getfg 8 zG8 (zq_getfg 0 zG1 (zq_iret 0 (zNil) E) E) E) E) E) E) E) E) E) E) E) E) E
theorem xe_176_0 : xf_176_0 = zEx xb_176_0 := by
  unfold xf_176_0 xb_176_0
  rfl
theorem xc_176_0 : zCd 176 [0, 27, 54, 55] 0 xb_176_0 := zc_aload_n xj_176 1 0 rfl rfl zf_ald_0 (zc_getf xj_176 4 60 8 8 92 rfl rfl (zf_getf_8 _) (zc_aload_n xj_176 5 0 rfl rfl zf_ald_0 (zc_getf xj_176 8 12 8 0 84 rfl rfl (zf_getf_0 _) (zc_getf xj_176 11 75 1 0 25 rfl rfl (zf_getf_0 _) (zc_invokevirtual1 xj_176 14 382 1 1 236 0 5 rfl rfl rfl rfl (zc_iload_n xj_176 15 1 rfl rfl zf_ild_1 (zc_iconst xj_176 16 (-1) 4294967295 rfl rfl rfl (zc_ic_ne xj_176 19 11 27 rfl rfl rfl (zc_aload_n xj_176 20 0 rfl rfl zf_ald_0 (zc_getf xj_176 23 60 8 8 92 rfl rfl (zf_getf_8 _) (zc_getf xj_176 26 386 0 1 83 rfl rfl (zf_getf_1 _) (zc_ireturn0 xj_176 27 rfl rfl (trivial)))))))))))))
noncomputable def xm_176 : Lean.RArray (zE → zKn) := .branch 54 (.branch 27 (.leaf xf_176_0) (.leaf xf_176_1)) (.branch 55 (.leaf xf_176_2) (.leaf xf_176_3))
theorem xa_176 : zCdAll 176 [0, 27, 54, 55] xm_176 := zAll2_ok (P := fun t => ∃ c, zCd 176 [0, 27, 54, 55] t c ∧ xm_176.get t = zEx c) ⟨⟨_, xc_176_0, xe_176_0⟩, ⟨_, xc_176_1, xe_176_1⟩, ⟨_, xc_176_2, xe_176_2⟩, ⟨_, xc_176_3, xe_176_3⟩, trivial⟩
/-- SquareMesh.wouldPoint -/
theorem xj_177 : ∀ pc, pI 177 pc = pJ_177 pc := fun _ => rfl
noncomputable def xb_177_1 : List zF := [zq_aldg zG0, zq_getfg 8 zG1, zq_aldg zG0, zq_getfg 8 zG0, zq_calli 6 1 1 2, zq_aldg zG0, zq_getfg 8 zG1, zq_ildg zG1, zq_ildg zG2, zq_calli 8 2 1 4, zq_pop, zq_aldg zG0, zq_calli 181 0 8 4, zq_iret 0]
noncomputable def xf_177_1 : zE → zKn := fun E => zq_aldg zG0 (zq_getfg 8 zG1 (zq_aldg zG0 (zq_getfg 8 zG0 (zq_calli 6 1 1 2 (zq_aldg zG0 (zq_getfg 8 zG1 (zq_ildg zG1 (zq_ildg zG2 (zq_calli 8 2 1 4 (zq_pop (zq_aldg zG0 (zq_calli 181 0 8 4 (zq_iret 0 (zNil) E) E) E) E) E) E) E) E) E) E) E) E) E) E
theorem xe_177_1 : xf_177_1 = zEx xb_177_1 := by
  unfold xf_177_1 xb_177_1
  rfl
theorem xc_177_1 : zCd 177 [0, 17] 17 xb_177_1 := zc_aload_n xj_177 18 0 rfl rfl zf_ald_0 (zc_getf xj_177 21 16 8 1 85 rfl rfl (zf_getf_1 _) (zc_aload_n xj_177 22 0 rfl rfl zf_ald_0 (zc_getf xj_177 25 12 8 0 84 rfl rfl (zf_getf_0 _) (zc_invokevirtual1 xj_177 28 390 6 1 244 1 2 rfl rfl rfl rfl (zc_aload_n xj_177 29 0 rfl rfl zf_ald_0 (zc_getf xj_177 32 16 8 1 85 rfl rfl (zf_getf_1 _) (zc_iload_n xj_177 33 1 rfl rfl zf_ild_1 (zc_iload_n xj_177 34 2 rfl rfl zf_ild_2 (zc_invokevirtual1 xj_177 37 88 8 2 42 1 4 rfl rfl rfl rfl (zc_pop xj_177 38 rfl rfl (zc_aload_n xj_177 39 0 rfl rfl zf_ald_0 (zc_invokevirtual1 xj_177 42 393 181 0 247 8 4 rfl rfl rfl rfl (zc_ireturn0 xj_177 43 rfl rfl (trivial))))))))))))))
noncomputable def xb_177_0 : List zF := [zq_aldg zG0, zq_getfg 8 zG0, zq_getfg 1 zG0, zq_ildg zG1, zq_ildg zG2, zq_calli 88 2 5 3, zq_if_ne 17, zq_k 4294967295, zq_iret 0]
noncomputable def xf_177_0 : zE → zKn := fun E => zq_aldg zG0 (zq_getfg 8 zG0 (zq_getfg 1 zG0 (zq_ildg zG1 (zq_ildg zG2 (zq_calli 88 2 5 3 (zq_if_ne 17 (zq_k 4294967295 (zq_iret 0 (zNil) E) E) E) E) E) E) E) E) E
theorem xe_177_0 : xf_177_0 = zEx xb_177_0 := by
  unfold xf_177_0 xb_177_0
  rfl
theorem xc_177_0 : zCd 177 [0, 17] 0 xb_177_0 := zc_aload_n xj_177 1 0 rfl rfl zf_ald_0 (zc_getf xj_177 4 12 8 0 84 rfl rfl (zf_getf_0 _) (zc_getf xj_177 7 75 1 0 25 rfl rfl (zf_getf_0 _) (zc_iload_n xj_177 8 1 rfl rfl zf_ild_1 (zc_iload_n xj_177 9 2 rfl rfl zf_ild_2 (zc_invokevirtual1 xj_177 12 79 88 2 34 5 3 rfl rfl rfl rfl (zc_if_ne xj_177 15 5 17 rfl rfl rfl (zc_iconst xj_177 16 (-1) 4294967295 rfl rfl rfl (zc_ireturn0 xj_177 17 rfl rfl (trivial)))))))))
noncomputable def xm_177 : Lean.RArray (zE → zKn) := .branch 17 (.leaf xf_177_0) (.leaf xf_177_1)
theorem xa_177 : zCdAll 177 [0, 17] xm_177 := zAll2_ok (P := fun t => ∃ c, zCd 177 [0, 17] t c ∧ xm_177.get t = zEx c) ⟨⟨_, xc_177_0, xe_177_0⟩, ⟨_, xc_177_1, xe_177_1⟩, trivial⟩
/-- SquareMesh.wouldDrop -/
theorem xj_178 : ∀ pc, pI 178 pc = pJ_178 pc := fun _ => rfl
noncomputable def xb_178_1 : List zF := [zq_aldg zG0, zq_getfg 8 zG1, zq_aldg zG0, zq_getfg 8 zG0, zq_calli 6 1 1 2, zq_aldg zG0, zq_getfg 8 zG1, zq_ildg zG1, zq_calli 11 1 1 4, zq_aldg zG0, zq_calli 181 0 8 4, zq_iret 0]
noncomputable def xf_178_1 : zE → zKn := fun E => zq_aldg zG0 (zq_getfg 8 zG1 (zq_aldg zG0 (zq_getfg 8 zG0 (zq_calli 6 1 1 2 (zq_aldg zG0 (zq_getfg 8 zG1 (zq_ildg zG1 (zq_calli 11 1 1 4 (zq_aldg zG0 (zq_calli 181 0 8 4 (zq_iret 0 (zNil) E) E) E) E) E) E) E) E) E) E) E) E
theorem xe_178_1 : xf_178_1 = zEx xb_178_1 := by
  unfold xf_178_1 xb_178_1
  rfl
theorem xc_178_1 : zCd 178 [0, 16] 16 xb_178_1 := zc_aload_n xj_178 17 0 rfl rfl zf_ald_0 (zc_getf xj_178 20 16 8 1 85 rfl rfl (zf_getf_1 _) (zc_aload_n xj_178 21 0 rfl rfl zf_ald_0 (zc_getf xj_178 24 12 8 0 84 rfl rfl (zf_getf_0 _) (zc_invokevirtual1 xj_178 27 390 6 1 244 1 2 rfl rfl rfl rfl (zc_aload_n xj_178 28 0 rfl rfl zf_ald_0 (zc_getf xj_178 31 16 8 1 85 rfl rfl (zf_getf_1 _) (zc_iload_n xj_178 32 1 rfl rfl zf_ild_1 (zc_invokevirtual1 xj_178 35 96 11 1 68 1 4 rfl rfl rfl rfl (zc_aload_n xj_178 36 0 rfl rfl zf_ald_0 (zc_invokevirtual1 xj_178 39 393 181 0 247 8 4 rfl rfl rfl rfl (zc_ireturn0 xj_178 40 rfl rfl (trivial))))))))))))
noncomputable def xb_178_0 : List zF := [zq_aldg zG0, zq_getfg 8 zG0, zq_getfg 1 zG0, zq_ildg zG1, zq_calli 89 1 5 2, zq_if_ne 16, zq_k 4294967295, zq_iret 0]
noncomputable def xf_178_0 : zE → zKn := fun E => zq_aldg zG0 (zq_getfg 8 zG0 (zq_getfg 1 zG0 (zq_ildg zG1 (zq_calli 89 1 5 2 (zq_if_ne 16 (zq_k 4294967295 (zq_iret 0 (zNil) E) E) E) E) E) E) E) E
theorem xe_178_0 : xf_178_0 = zEx xb_178_0 := by
  unfold xf_178_0 xb_178_0
  rfl
theorem xc_178_0 : zCd 178 [0, 16] 0 xb_178_0 := zc_aload_n xj_178 1 0 rfl rfl zf_ald_0 (zc_getf xj_178 4 12 8 0 84 rfl rfl (zf_getf_0 _) (zc_getf xj_178 7 75 1 0 25 rfl rfl (zf_getf_0 _) (zc_iload_n xj_178 8 1 rfl rfl zf_ild_1 (zc_invokevirtual1 xj_178 11 92 89 1 67 5 2 rfl rfl rfl rfl (zc_if_ne xj_178 14 5 16 rfl rfl rfl (zc_iconst xj_178 15 (-1) 4294967295 rfl rfl rfl (zc_ireturn0 xj_178 16 rfl rfl (trivial))))))))
noncomputable def xm_178 : Lean.RArray (zE → zKn) := .branch 16 (.leaf xf_178_0) (.leaf xf_178_1)
theorem xa_178 : zCdAll 178 [0, 16] xm_178 := zAll2_ok (P := fun t => ∃ c, zCd 178 [0, 16] t c ∧ xm_178.get t = zEx c) ⟨⟨_, xc_178_0, xe_178_0⟩, ⟨_, xc_178_1, xe_178_1⟩, trivial⟩
/-- SquareMesh.wouldFix -/
theorem xj_179 : ∀ pc, pI 179 pc = pJ_179 pc := fun _ => rfl
noncomputable def xb_179_1 : List zF := [zq_aldg zG0, zq_getfg 8 zG1, zq_aldg zG0, zq_getfg 8 zG0, zq_calli 6 1 1 2, zq_aldg zG0, zq_getfg 8 zG1, zq_ildg zG1, zq_ildg zG2, zq_calli 15 2 1 4, zq_aldg zG0, zq_calli 181 0 8 4, zq_iret 0]
noncomputable def xf_179_1 : zE → zKn := fun E => zq_aldg zG0 (zq_getfg 8 zG1 (zq_aldg zG0 (zq_getfg 8 zG0 (zq_calli 6 1 1 2 (zq_aldg zG0 (zq_getfg 8 zG1 (zq_ildg zG1 (zq_ildg zG2 (zq_calli 15 2 1 4 (zq_aldg zG0 (zq_calli 181 0 8 4 (zq_iret 0 (zNil) E) E) E) E) E) E) E) E) E) E) E) E) E
theorem xe_179_1 : xf_179_1 = zEx xb_179_1 := by
  unfold xf_179_1 xb_179_1
  rfl
theorem xc_179_1 : zCd 179 [0, 14] 14 xb_179_1 := zc_aload_n xj_179 15 0 rfl rfl zf_ald_0 (zc_getf xj_179 18 16 8 1 85 rfl rfl (zf_getf_1 _) (zc_aload_n xj_179 19 0 rfl rfl zf_ald_0 (zc_getf xj_179 22 12 8 0 84 rfl rfl (zf_getf_0 _) (zc_invokevirtual1 xj_179 25 390 6 1 244 1 2 rfl rfl rfl rfl (zc_aload_n xj_179 26 0 rfl rfl zf_ald_0 (zc_getf xj_179 29 16 8 1 85 rfl rfl (zf_getf_1 _) (zc_iload_n xj_179 30 1 rfl rfl zf_ild_1 (zc_iload_n xj_179 31 2 rfl rfl zf_ild_2 (zc_invokevirtual1 xj_179 34 113 15 2 88 1 4 rfl rfl rfl rfl (zc_aload_n xj_179 35 0 rfl rfl zf_ald_0 (zc_invokevirtual1 xj_179 38 393 181 0 247 8 4 rfl rfl rfl rfl (zc_ireturn0 xj_179 39 rfl rfl (trivial)))))))))))))
noncomputable def xb_179_0 : List zF := [zq_aldg zG0, zq_getfg 8 zG0, zq_ildg zG1, zq_ildg zG2, zq_calli 14 2 1 3, zq_if_ne 14, zq_k 4294967295, zq_iret 0]
noncomputable def xf_179_0 : zE → zKn := fun E => zq_aldg zG0 (zq_getfg 8 zG0 (zq_ildg zG1 (zq_ildg zG2 (zq_calli 14 2 1 3 (zq_if_ne 14 (zq_k 4294967295 (zq_iret 0 (zNil) E) E) E) E) E) E) E) E
theorem xe_179_0 : xf_179_0 = zEx xb_179_0 := by
  unfold xf_179_0 xb_179_0
  rfl
theorem xc_179_0 : zCd 179 [0, 14] 0 xb_179_0 := zc_aload_n xj_179 1 0 rfl rfl zf_ald_0 (zc_getf xj_179 4 12 8 0 84 rfl rfl (zf_getf_0 _) (zc_iload_n xj_179 5 1 rfl rfl zf_ild_1 (zc_iload_n xj_179 6 2 rfl rfl zf_ild_2 (zc_invokevirtual1 xj_179 9 110 14 2 80 1 3 rfl rfl rfl rfl (zc_if_ne xj_179 12 5 14 rfl rfl rfl (zc_iconst xj_179 13 (-1) 4294967295 rfl rfl rfl (zc_ireturn0 xj_179 14 rfl rfl (trivial))))))))
noncomputable def xm_179 : Lean.RArray (zE → zKn) := .branch 14 (.leaf xf_179_0) (.leaf xf_179_1)
theorem xa_179 : zCdAll 179 [0, 14] xm_179 := zAll2_ok (P := fun t => ∃ c, zCd 179 [0, 14] t c ∧ xm_179.get t = zEx c) ⟨⟨_, xc_179_0, xe_179_0⟩, ⟨_, xc_179_1, xe_179_1⟩, trivial⟩
/-- SquareMesh.wouldFree -/
theorem xj_180 : ∀ pc, pI 180 pc = pJ_180 pc := fun _ => rfl
noncomputable def xb_180_1 : List zF := [zq_aldg zG0, zq_getfg 8 zG1, zq_aldg zG0, zq_getfg 8 zG0, zq_calli 6 1 1 2, zq_aldg zG0, zq_getfg 8 zG1, zq_ildg zG1, zq_ildg zG2, zq_calli 18 2 1 3, zq_aldg zG0, zq_calli 181 0 8 4, zq_iret 0]
noncomputable def xf_180_1 : zE → zKn := fun E => zq_aldg zG0 (zq_getfg 8 zG1 (zq_aldg zG0 (zq_getfg 8 zG0 (zq_calli 6 1 1 2 (zq_aldg zG0 (zq_getfg 8 zG1 (zq_ildg zG1 (zq_ildg zG2 (zq_calli 18 2 1 3 (zq_aldg zG0 (zq_calli 181 0 8 4 (zq_iret 0 (zNil) E) E) E) E) E) E) E) E) E) E) E) E) E
theorem xe_180_1 : xf_180_1 = zEx xb_180_1 := by
  unfold xf_180_1 xb_180_1
  rfl
theorem xc_180_1 : zCd 180 [0, 14] 14 xb_180_1 := zc_aload_n xj_180 15 0 rfl rfl zf_ald_0 (zc_getf xj_180 18 16 8 1 85 rfl rfl (zf_getf_1 _) (zc_aload_n xj_180 19 0 rfl rfl zf_ald_0 (zc_getf xj_180 22 12 8 0 84 rfl rfl (zf_getf_0 _) (zc_invokevirtual1 xj_180 25 390 6 1 244 1 2 rfl rfl rfl rfl (zc_aload_n xj_180 26 0 rfl rfl zf_ald_0 (zc_getf xj_180 29 16 8 1 85 rfl rfl (zf_getf_1 _) (zc_iload_n xj_180 30 1 rfl rfl zf_ild_1 (zc_iload_n xj_180 31 2 rfl rfl zf_ild_2 (zc_invokevirtual1 xj_180 34 120 18 2 94 1 3 rfl rfl rfl rfl (zc_aload_n xj_180 35 0 rfl rfl zf_ald_0 (zc_invokevirtual1 xj_180 38 393 181 0 247 8 4 rfl rfl rfl rfl (zc_ireturn0 xj_180 39 rfl rfl (trivial)))))))))))))
noncomputable def xb_180_0 : List zF := [zq_aldg zG0, zq_getfg 8 zG0, zq_ildg zG1, zq_ildg zG2, zq_calli 17 2 1 3, zq_if_ne 14, zq_k 4294967295, zq_iret 0]
noncomputable def xf_180_0 : zE → zKn := fun E => zq_aldg zG0 (zq_getfg 8 zG0 (zq_ildg zG1 (zq_ildg zG2 (zq_calli 17 2 1 3 (zq_if_ne 14 (zq_k 4294967295 (zq_iret 0 (zNil) E) E) E) E) E) E) E) E
theorem xe_180_0 : xf_180_0 = zEx xb_180_0 := by
  unfold xf_180_0 xb_180_0
  rfl
theorem xc_180_0 : zCd 180 [0, 14] 0 xb_180_0 := zc_aload_n xj_180 1 0 rfl rfl zf_ald_0 (zc_getf xj_180 4 12 8 0 84 rfl rfl (zf_getf_0 _) (zc_iload_n xj_180 5 1 rfl rfl zf_ild_1 (zc_iload_n xj_180 6 2 rfl rfl zf_ild_2 (zc_invokevirtual1 xj_180 9 117 17 2 93 1 3 rfl rfl rfl rfl (zc_if_ne xj_180 12 5 14 rfl rfl rfl (zc_iconst xj_180 13 (-1) 4294967295 rfl rfl rfl (zc_ireturn0 xj_180 14 rfl rfl (trivial))))))))
noncomputable def xm_180 : Lean.RArray (zE → zKn) := .branch 14 (.leaf xf_180_0) (.leaf xf_180_1)
theorem xa_180 : zCdAll 180 [0, 14] xm_180 := zAll2_ok (P := fun t => ∃ c, zCd 180 [0, 14] t c ∧ xm_180.get t = zEx c) ⟨⟨_, xc_180_0, xe_180_0⟩, ⟨_, xc_180_1, xe_180_1⟩, trivial⟩
/-- SquareMesh.countNew -/
theorem xj_181 : ∀ pc, pI 181 pc = pJ_181 pc := fun _ => rfl
noncomputable def xb_181_3 : List zF := [zq_ildg zG1, zq_iret 0]
noncomputable def xf_181_3 : zE → zKn := fun E => zq_ildg zG1 (zq_iret 0 (zNil) E) E
theorem xe_181_3 : xf_181_3 = zEx xb_181_3 := by
  unfold xf_181_3 xb_181_3
  rfl
theorem xc_181_3 : zCd 181 [0, 4, 62, 68] 68 xb_181_3 := zc_iload_n xj_181 69 1 rfl rfl zf_ild_1 (zc_ireturn0 xj_181 70 rfl rfl (trivial))
noncomputable def xb_181_2 : List zF := [zq_incg zG2 zE2 1, zq_goto 4]
noncomputable def xf_181_2 : zE → zKn := fun E => zq_incg zG2 zE2 1 (zq_goto 4 (zNil) E) E
theorem xe_181_2 : xf_181_2 = zEx xb_181_2 := by
  unfold xf_181_2 xb_181_2
  rfl
theorem xc_181_2 : zCd 181 [0, 4, 62, 68] 62 xb_181_2 := zc_iinc xj_181 65 2 1 1 rfl rfl rfl (zf_inc_2 _) (zc_goto xj_181 66 (-61) 4 rfl rfl rfl (trivial))
noncomputable def xb_181_1 : List zF := zq_ildg zG2 :: zq_aldg zG0 :: zq_getfg 8 zG1 :: zq_getfg 1 zG7 :: zq_ic_ge 68 :: zq_aldg zG0 :: zq_getfg 8 zG1 :: zq_ildg zG2 :: zq_k 0 :: zq_calli 35 2 1 3 :: zq_k 40 :: zq_mul :: zq_aldg zG0 :: zq_getfg 8 zG1 :: zq_ildg zG2 :: zq_k 1 :: zq_calli 35 2 1 3 :: zq_add :: zq_istg zE3 :: zq_aldg zG0 :: zq_getfg 8 zG0 :: zq_getfg 1 zG1 :: zq_ildg zG3 :: zq_ild_ 0 :: zq_aldg zG0 :: zq_getfg 8 zG1 :: zq_ildg zG2 :: zq_k 2 :: zq_calli 35 2 1 3 :: zq_ic_eq 62 :: zq_incg zG1 zE1 1 :: xb_181_2
noncomputable def xf_181_1 : zE → zKn := fun E => zq_ildg zG2 (zq_aldg zG0 (zq_getfg 8 zG1 (zq_getfg 1 zG7 (zq_ic_ge 68 (zq_aldg zG0 (zq_getfg 8 zG1 (zq_ildg zG2 (zq_k 0 (zq_calli 35 2 1 3 (zq_k 40 (zq_mul (zq_aldg zG0 (zq_getfg 8 zG1 (zq_ildg zG2 (zq_k 1 (zq_calli 35 2 1 3 (zq_add (zq_istg zE3 (zq_aldg zG0 (zq_getfg 8 zG0 (zq_getfg 1 zG1 (zq_ildg zG3 (zq_ild_ 0 (zq_aldg zG0 (zq_getfg 8 zG1 (zq_ildg zG2 (zq_k 2 (zq_calli 35 2 1 3 (zq_ic_eq 62 (zq_incg zG1 zE1 1 (xf_181_2 E) E) E) E) E) E) E) E) E) E) E) E) E) E) E) E) E) E) E) E) E) E) E) E) E) E) E) E) E) E) E) E
set_option maxRecDepth 100000 in
theorem xe_181_1 : xf_181_1 = zEx xb_181_1 := by
  unfold xf_181_1 xb_181_1
  rw [xe_181_2]
  rfl
theorem xc_181_1 : zCd 181 [0, 4, 62, 68] 4 xb_181_1 := zc_iload_n xj_181 5 2 rfl rfl zf_ild_2 (zc_aload_n xj_181 6 0 rfl rfl zf_ald_0 (zc_getf xj_181 9 16 8 1 85 rfl rfl (zf_getf_1 _) (zc_getf xj_181 12 197 1 7 47 rfl rfl (zf_getf_7 _) (zc_ic_ge xj_181 15 56 68 rfl rfl rfl (zc_aload_n xj_181 16 0 rfl rfl zf_ald_0 (zc_getf xj_181 19 16 8 1 85 rfl rfl (zf_getf_1 _) (zc_iload_n xj_181 20 2 rfl rfl zf_ild_2 (zc_iconst xj_181 21 0 0 rfl rfl rfl (zc_invokevirtual1 xj_181 24 144 35 2 107 1 3 rfl rfl rfl rfl (zc_bipush xj_181 26 40 40 rfl rfl rfl (zc_imul xj_181 27 rfl rfl (zc_aload_n xj_181 28 0 rfl rfl zf_ald_0 (zc_getf xj_181 31 16 8 1 85 rfl rfl (zf_getf_1 _) (zc_iload_n xj_181 32 2 rfl rfl zf_ild_2 (zc_iconst xj_181 33 1 1 rfl rfl rfl (zc_invokevirtual1 xj_181 36 144 35 2 107 1 3 rfl rfl rfl rfl (zc_iadd xj_181 37 rfl rfl (zc_istore_n xj_181 38 3 rfl rfl zf_ist_3 (zc_aload_n xj_181 39 0 rfl rfl zf_ald_0 (zc_getf xj_181 42 12 8 0 84 rfl rfl (zf_getf_0 _) (zc_getf xj_181 45 258 1 1 30 rfl rfl (zf_getf_1 _) (zc_iload_n xj_181 46 3 rfl rfl zf_ild_3 (zc_iaload xj_181 47 rfl rfl (zc_aload_n xj_181 48 0 rfl rfl zf_ald_0 (zc_getf xj_181 51 16 8 1 85 rfl rfl (zf_getf_1 _) (zc_iload_n xj_181 52 2 rfl rfl zf_ild_2 (zc_iconst xj_181 53 2 2 rfl rfl rfl (zc_invokevirtual1 xj_181 56 144 35 2 107 1 3 rfl rfl rfl rfl (zc_ic_eq xj_181 59 6 62 rfl rfl rfl (zc_iinc xj_181 62 1 1 1 rfl rfl rfl (zf_inc_1 _) (xc_181_2)))))))))))))))))))))))))))))))
noncomputable def xb_181_0 : List zF := zq_k 0 :: zq_istg zE1 :: zq_k 0 :: zq_istg zE2 :: xb_181_1
noncomputable def xf_181_0 : zE → zKn := fun E => zq_k 0 (zq_istg zE1 (zq_k 0 (zq_istg zE2 (xf_181_1 E) E) E) E) E
theorem xe_181_0 : xf_181_0 = zEx xb_181_0 := by
  unfold xf_181_0 xb_181_0
  rw [xe_181_1]
  rfl
theorem xc_181_0 : zCd 181 [0, 4, 62, 68] 0 xb_181_0 := zc_iconst xj_181 1 0 0 rfl rfl rfl (zc_istore_n xj_181 2 1 rfl rfl zf_ist_1 (zc_iconst xj_181 3 0 0 rfl rfl rfl (zc_istore_n xj_181 4 2 rfl rfl zf_ist_2 (xc_181_1))))
noncomputable def xm_181 : Lean.RArray (zE → zKn) := .branch 62 (.branch 4 (.leaf xf_181_0) (.leaf xf_181_1)) (.branch 68 (.leaf xf_181_2) (.leaf xf_181_3))
theorem xa_181 : zCdAll 181 [0, 4, 62, 68] xm_181 := zAll2_ok (P := fun t => ∃ c, zCd 181 [0, 4, 62, 68] t c ∧ xm_181.get t = zEx c) ⟨⟨_, xc_181_0, xe_181_0⟩, ⟨_, xc_181_1, xe_181_1⟩, ⟨_, xc_181_2, xe_181_2⟩, ⟨_, xc_181_3, xe_181_3⟩, trivial⟩
/-- SquareMesh.inSquare -/
theorem xj_182 : ∀ pc, pI 182 pc = pJ_182 pc := fun _ => rfl
noncomputable def xb_182_2 : List zF := [zq_iret 1]
noncomputable def xf_182_2 : zE → zKn := fun E => zq_iret 1 (zNil) E
theorem xe_182_2 : xf_182_2 = zEx xb_182_2 := by
  unfold xf_182_2 xb_182_2
  rfl
theorem xc_182_2 : zCd 182 [0, 32, 33] 33 xb_182_2 := zc_ireturn1 xj_182 34 rfl rfl (trivial)
noncomputable def xb_182_1 : List zF := zq_k 0 :: xb_182_2
noncomputable def xf_182_1 : zE → zKn := fun E => zq_k 0 (xf_182_2 E) E
theorem xe_182_1 : xf_182_1 = zEx xb_182_1 := by
  unfold xf_182_1 xb_182_1
  rw [xe_182_2]
  rfl
theorem xc_182_1 : zCd 182 [0, 32, 33] 32 xb_182_1 := zc_iconst xj_182 33 0 0 rfl rfl rfl (xc_182_2)
noncomputable def xb_182_0 : List zF := [zq_ildg zG0, zq_k 4294966296, zq_ic_lt 32, zq_ildg zG0, zq_k 1000, zq_ic_gt 32, zq_ildg zG1, zq_k 4294966296, zq_ic_lt 32, zq_ildg zG1, zq_k 1000, zq_ic_gt 32, zq_k 1, zq_goto 33]
noncomputable def xf_182_0 : zE → zKn := fun E => zq_ildg zG0 (zq_k 4294966296 (zq_ic_lt 32 (zq_ildg zG0 (zq_k 1000 (zq_ic_gt 32 (zq_ildg zG1 (zq_k 4294966296 (zq_ic_lt 32 (zq_ildg zG1 (zq_k 1000 (zq_ic_gt 32 (zq_k 1 (zq_goto 33 (zNil) E) E) E) E) E) E) E) E) E) E) E) E) E) E
theorem xe_182_0 : xf_182_0 = zEx xb_182_0 := by
  unfold xf_182_0 xb_182_0
  rfl
theorem xc_182_0 : zCd 182 [0, 32, 33] 0 xb_182_0 := zc_iload_n xj_182 1 0 rfl rfl zf_ild_0 (zc_sipush xj_182 4 (-1000) 4294966296 rfl rfl rfl (zc_ic_lt xj_182 7 28 32 rfl rfl rfl (zc_iload_n xj_182 8 0 rfl rfl zf_ild_0 (zc_sipush xj_182 11 1000 1000 rfl rfl rfl (zc_ic_gt xj_182 14 21 32 rfl rfl rfl (zc_iload_n xj_182 15 1 rfl rfl zf_ild_1 (zc_sipush xj_182 18 (-1000) 4294966296 rfl rfl rfl (zc_ic_lt xj_182 21 14 32 rfl rfl rfl (zc_iload_n xj_182 22 1 rfl rfl zf_ild_1 (zc_sipush xj_182 25 1000 1000 rfl rfl rfl (zc_ic_gt xj_182 28 7 32 rfl rfl rfl (zc_iconst xj_182 29 1 1 rfl rfl rfl (zc_goto xj_182 30 4 33 rfl rfl rfl (trivial))))))))))))))
noncomputable def xm_182 : Lean.RArray (zE → zKn) := .branch 32 (.leaf xf_182_0) (.branch 33 (.leaf xf_182_1) (.leaf xf_182_2))
theorem xa_182 : zCdAll 182 [0, 32, 33] xm_182 := zAll2_ok (P := fun t => ∃ c, zCd 182 [0, 32, 33] t c ∧ xm_182.get t = zEx c) ⟨⟨_, xc_182_0, xe_182_0⟩, ⟨_, xc_182_1, xe_182_1⟩, ⟨_, xc_182_2, xe_182_2⟩, trivial⟩
/-- SquareMesh.turn -/
theorem xj_183 : ∀ pc, pI 183 pc = pJ_183 pc := fun _ => rfl
noncomputable def xb_183_0 : List zF := [zq_ildg zG2, zq_ildg zG0, zq_sub, zq_ildg zG5, zq_ildg zG1, zq_sub, zq_mul, zq_ildg zG3, zq_ildg zG1, zq_sub, zq_ildg zG4, zq_ildg zG0, zq_sub, zq_mul, zq_sub, zq_iret 0]
noncomputable def xf_183_0 : zE → zKn := fun E => zq_ildg zG2 (zq_ildg zG0 (zq_sub (zq_ildg zG5 (zq_ildg zG1 (zq_sub (zq_mul (zq_ildg zG3 (zq_ildg zG1 (zq_sub (zq_ildg zG4 (zq_ildg zG0 (zq_sub (zq_mul (zq_sub (zq_iret 0 (zNil) E) E) E) E) E) E) E) E) E) E) E) E) E) E) E) E
theorem xe_183_0 : xf_183_0 = zEx xb_183_0 := by
  unfold xf_183_0 xb_183_0
  rfl
theorem xc_183_0 : zCd 183 [0] 0 xb_183_0 := zc_iload_n xj_183 1 2 rfl rfl zf_ild_2 (zc_iload_n xj_183 2 0 rfl rfl zf_ild_0 (zc_isub xj_183 3 rfl rfl (zc_iload xj_183 5 5 rfl rfl zf_ild_5 (zc_iload_n xj_183 6 1 rfl rfl zf_ild_1 (zc_isub xj_183 7 rfl rfl (zc_imul xj_183 8 rfl rfl (zc_iload_n xj_183 9 3 rfl rfl zf_ild_3 (zc_iload_n xj_183 10 1 rfl rfl zf_ild_1 (zc_isub xj_183 11 rfl rfl (zc_iload xj_183 13 4 rfl rfl zf_ild_4 (zc_iload_n xj_183 14 0 rfl rfl zf_ild_0 (zc_isub xj_183 15 rfl rfl (zc_imul xj_183 16 rfl rfl (zc_isub xj_183 17 rfl rfl (zc_ireturn0 xj_183 18 rfl rfl (trivial))))))))))))))))
noncomputable def xm_183 : Lean.RArray (zE → zKn) := .leaf xf_183_0
theorem xa_183 : zCdAll 183 [0] xm_183 := zAll2_ok (P := fun t => ∃ c, zCd 183 [0] t c ∧ xm_183.get t = zEx c) ⟨⟨_, xc_183_0, xe_183_0⟩, trivial⟩
/-- SquareMesh.areOpposite -/
theorem xj_184 : ∀ pc, pI 184 pc = pJ_184 pc := fun _ => rfl
noncomputable def xb_184_4 : List zF := [zq_iret 1]
noncomputable def xf_184_4 : zE → zKn := fun E => zq_iret 1 (zNil) E
theorem xe_184_4 : xf_184_4 = zEx xb_184_4 := by
  unfold xf_184_4 xb_184_4
  rfl
theorem xc_184_4 : zCd 184 [0, 8, 16, 20, 21] 21 xb_184_4 := zc_ireturn1 xj_184 22 rfl rfl (trivial)
noncomputable def xb_184_3 : List zF := zq_k 0 :: xb_184_4
noncomputable def xf_184_3 : zE → zKn := fun E => zq_k 0 (xf_184_4 E) E
theorem xe_184_3 : xf_184_3 = zEx xb_184_3 := by
  unfold xf_184_3 xb_184_3
  rw [xe_184_4]
  rfl
theorem xc_184_3 : zCd 184 [0, 8, 16, 20, 21] 20 xb_184_3 := zc_iconst xj_184 21 0 0 rfl rfl rfl (xc_184_4)
noncomputable def xb_184_2 : List zF := [zq_k 1, zq_goto 21]
noncomputable def xf_184_2 : zE → zKn := fun E => zq_k 1 (zq_goto 21 (zNil) E) E
theorem xe_184_2 : xf_184_2 = zEx xb_184_2 := by
  unfold xf_184_2 xb_184_2
  rfl
theorem xc_184_2 : zCd 184 [0, 8, 16, 20, 21] 16 xb_184_2 := zc_iconst xj_184 17 1 1 rfl rfl rfl (zc_goto xj_184 18 4 21 rfl rfl rfl (trivial))
noncomputable def xb_184_1 : List zF := zq_ildg zG0 :: zq_if_le 20 :: zq_ildg zG1 :: zq_if_ge 20 :: xb_184_2
noncomputable def xf_184_1 : zE → zKn := fun E => zq_ildg zG0 (zq_if_le 20 (zq_ildg zG1 (zq_if_ge 20 (xf_184_2 E) E) E) E) E
theorem xe_184_1 : xf_184_1 = zEx xb_184_1 := by
  unfold xf_184_1 xb_184_1
  rw [xe_184_2]
  rfl
theorem xc_184_1 : zCd 184 [0, 8, 16, 20, 21] 8 xb_184_1 := zc_iload_n xj_184 9 0 rfl rfl zf_ild_0 (zc_if_le xj_184 12 11 20 rfl rfl rfl (zc_iload_n xj_184 13 1 rfl rfl zf_ild_1 (zc_if_ge xj_184 16 7 20 rfl rfl rfl (xc_184_2))))
noncomputable def xb_184_0 : List zF := zq_ildg zG0 :: zq_if_ge 8 :: zq_ildg zG1 :: zq_if_gt 16 :: xb_184_1
noncomputable def xf_184_0 : zE → zKn := fun E => zq_ildg zG0 (zq_if_ge 8 (zq_ildg zG1 (zq_if_gt 16 (xf_184_1 E) E) E) E) E
theorem xe_184_0 : xf_184_0 = zEx xb_184_0 := by
  unfold xf_184_0 xb_184_0
  rw [xe_184_1]
  rfl
theorem xc_184_0 : zCd 184 [0, 8, 16, 20, 21] 0 xb_184_0 := zc_iload_n xj_184 1 0 rfl rfl zf_ild_0 (zc_if_ge xj_184 4 7 8 rfl rfl rfl (zc_iload_n xj_184 5 1 rfl rfl zf_ild_1 (zc_if_gt xj_184 8 11 16 rfl rfl rfl (xc_184_1))))
noncomputable def xm_184 : Lean.RArray (zE → zKn) := .branch 16 (.branch 8 (.leaf xf_184_0) (.leaf xf_184_1)) (.branch 20 (.leaf xf_184_2) (.branch 21 (.leaf xf_184_3) (.leaf xf_184_4)))
theorem xa_184 : zCdAll 184 [0, 8, 16, 20, 21] xm_184 := zAll2_ok (P := fun t => ∃ c, zCd 184 [0, 8, 16, 20, 21] t c ∧ xm_184.get t = zEx c) ⟨⟨_, xc_184_0, xe_184_0⟩, ⟨_, xc_184_1, xe_184_1⟩, ⟨_, xc_184_2, xe_184_2⟩, ⟨_, xc_184_3, xe_184_3⟩, ⟨_, xc_184_4, xe_184_4⟩, trivial⟩
/-- SquareMesh.rootOf -/
theorem xj_185 : ∀ pc, pI 185 pc = pJ_185 pc := fun _ => rfl
noncomputable def xb_185_4 : List zF := [zq_ildg zG1, zq_iret 0]
noncomputable def xf_185_4 : zE → zKn := fun E => zq_ildg zG1 (zq_iret 0 (zNil) E) E
theorem xe_185_4 : xf_185_4 = zEx xb_185_4 := by
  unfold xf_185_4 xb_185_4
  rfl
theorem xc_185_4 : zCd 185 [0, 8, 43, 48, 54] 54 xb_185_4 := zc_iload_n xj_185 55 1 rfl rfl zf_ild_1 (zc_ireturn0 xj_185 56 rfl rfl (trivial))
noncomputable def xb_185_3 : List zF := [zq_incg zG3 zE3 1, zq_goto 8]
noncomputable def xf_185_3 : zE → zKn := fun E => zq_incg zG3 zE3 1 (zq_goto 8 (zNil) E) E
theorem xe_185_3 : xf_185_3 = zEx xb_185_3 := by
  unfold xf_185_3 xb_185_3
  rfl
theorem xc_185_3 : zCd 185 [0, 8, 43, 48, 54] 48 xb_185_3 := zc_iinc xj_185 51 3 1 1 rfl rfl rfl (zf_inc_3 _) (zc_goto xj_185 52 (-43) 8 rfl rfl rfl (trivial))
noncomputable def xb_185_2 : List zF := zq_ildg zG4 :: zq_k 1 :: zq_sub :: zq_istg zE2 :: xb_185_3
noncomputable def xf_185_2 : zE → zKn := fun E => zq_ildg zG4 (zq_k 1 (zq_sub (zq_istg zE2 (xf_185_3 E) E) E) E) E
theorem xe_185_2 : xf_185_2 = zEx xb_185_2 := by
  unfold xf_185_2 xb_185_2
  rw [xe_185_3]
  rfl
theorem xc_185_2 : zCd 185 [0, 8, 43, 48, 54] 43 xb_185_2 := zc_iload xj_185 45 4 rfl rfl zf_ild_4 (zc_iconst xj_185 46 1 1 rfl rfl rfl (zc_isub xj_185 47 rfl rfl (zc_istore_n xj_185 48 2 rfl rfl zf_ist_2 (xc_185_3))))
noncomputable def xb_185_1 : List zF := [zq_ildg zG3, zq_k 16, zq_ic_ge 54, zq_ildg zG1, zq_ildg zG2, zq_ic_ge 54, zq_ildg zG1, zq_ildg zG2, zq_add, zq_k 1, zq_add, zq_k 2, zq_div, zq_istg zE4, zq_ildg zG4, zq_ildg zG4, zq_mul, zq_ildg zG0, zq_ic_gt 43, zq_ildg zG4, zq_istg zE1, zq_goto 48]
noncomputable def xf_185_1 : zE → zKn := fun E => zq_ildg zG3 (zq_k 16 (zq_ic_ge 54 (zq_ildg zG1 (zq_ildg zG2 (zq_ic_ge 54 (zq_ildg zG1 (zq_ildg zG2 (zq_add (zq_k 1 (zq_add (zq_k 2 (zq_div (zq_istg zE4 (zq_ildg zG4 (zq_ildg zG4 (zq_mul (zq_ildg zG0 (zq_ic_gt 43 (zq_ildg zG4 (zq_istg zE1 (zq_goto 48 (zNil) E) E) E) E) E) E) E) E) E) E) E) E) E) E) E) E) E) E) E) E) E) E
theorem xe_185_1 : xf_185_1 = zEx xb_185_1 := by
  unfold xf_185_1 xb_185_1
  rfl
theorem xc_185_1 : zCd 185 [0, 8, 43, 48, 54] 8 xb_185_1 := zc_iload_n xj_185 9 3 rfl rfl zf_ild_3 (zc_bipush xj_185 11 16 16 rfl rfl rfl (zc_ic_ge xj_185 14 43 54 rfl rfl rfl (zc_iload_n xj_185 15 1 rfl rfl zf_ild_1 (zc_iload_n xj_185 16 2 rfl rfl zf_ild_2 (zc_ic_ge xj_185 19 38 54 rfl rfl rfl (zc_iload_n xj_185 20 1 rfl rfl zf_ild_1 (zc_iload_n xj_185 21 2 rfl rfl zf_ild_2 (zc_iadd xj_185 22 rfl rfl (zc_iconst xj_185 23 1 1 rfl rfl rfl (zc_iadd xj_185 24 rfl rfl (zc_iconst xj_185 25 2 2 rfl rfl rfl (zc_idiv xj_185 26 rfl rfl (zc_istore xj_185 28 4 rfl rfl zf_ist_4 (zc_iload xj_185 30 4 rfl rfl zf_ild_4 (zc_iload xj_185 32 4 rfl rfl zf_ild_4 (zc_imul xj_185 33 rfl rfl (zc_iload_n xj_185 34 0 rfl rfl zf_ild_0 (zc_ic_gt xj_185 37 9 43 rfl rfl rfl (zc_iload xj_185 39 4 rfl rfl zf_ild_4 (zc_istore_n xj_185 40 1 rfl rfl zf_ist_1 (zc_goto xj_185 41 8 48 rfl rfl rfl (trivial))))))))))))))))))))))
noncomputable def xb_185_0 : List zF := zq_k 0 :: zq_istg zE1 :: zq_k 3000 :: zq_istg zE2 :: zq_k 0 :: zq_istg zE3 :: xb_185_1
noncomputable def xf_185_0 : zE → zKn := fun E => zq_k 0 (zq_istg zE1 (zq_k 3000 (zq_istg zE2 (zq_k 0 (zq_istg zE3 (xf_185_1 E) E) E) E) E) E) E
theorem xe_185_0 : xf_185_0 = zEx xb_185_0 := by
  unfold xf_185_0 xb_185_0
  rw [xe_185_1]
  rfl
theorem xc_185_0 : zCd 185 [0, 8, 43, 48, 54] 0 xb_185_0 := zc_iconst xj_185 1 0 0 rfl rfl rfl (zc_istore_n xj_185 2 1 rfl rfl zf_ist_1 (zc_sipush xj_185 5 3000 3000 rfl rfl rfl (zc_istore_n xj_185 6 2 rfl rfl zf_ist_2 (zc_iconst xj_185 7 0 0 rfl rfl rfl (zc_istore_n xj_185 8 3 rfl rfl zf_ist_3 (xc_185_1))))))
noncomputable def xm_185 : Lean.RArray (zE → zKn) := .branch 43 (.branch 8 (.leaf xf_185_0) (.leaf xf_185_1)) (.branch 48 (.leaf xf_185_2) (.branch 54 (.leaf xf_185_3) (.leaf xf_185_4)))
theorem xa_185 : zCdAll 185 [0, 8, 43, 48, 54] xm_185 := zAll2_ok (P := fun t => ∃ c, zCd 185 [0, 8, 43, 48, 54] t c ∧ xm_185.get t = zEx c) ⟨⟨_, xc_185_0, xe_185_0⟩, ⟨_, xc_185_1, xe_185_1⟩, ⟨_, xc_185_2, xe_185_2⟩, ⟨_, xc_185_3, xe_185_3⟩, ⟨_, xc_185_4, xe_185_4⟩, trivial⟩
/-- SquareMeshModel.<init> -/
theorem xj_186 : ∀ pc, pI 186 pc = pJ_186 pc := fun _ => rfl
noncomputable def xb_186_2 : List zF := [zq_aldg zG0, zq_calli 219 0 9 5, zq_aldg zG0, zq_calli 341 0 9 2, zq_vret]
noncomputable def xf_186_2 : zE → zKn := fun E => zq_aldg zG0 (zq_calli 219 0 9 5 (zq_aldg zG0 (zq_calli 341 0 9 2 (zq_vret (zNil) E) E) E) E) E
theorem xe_186_2 : xf_186_2 = zEx xb_186_2 := by
  unfold xf_186_2 xb_186_2
  rfl
theorem xc_186_2 : zCd 186 [0, 174, 196] 196 xb_186_2 := zc_aload_n xj_186 197 0 rfl rfl zf_ald_0 (zc_invokevirtual1 xj_186 200 61 219 0 255 9 5 rfl rfl rfl rfl (zc_aload_n xj_186 201 0 rfl rfl zf_ald_0 (zc_invokevirtual1 xj_186 204 64 341 0 281 9 2 rfl rfl rfl rfl (zc_return_ xj_186 205 rfl rfl (trivial)))))
noncomputable def xb_186_1 : List zF := [zq_ildg zG1, zq_k 4, zq_ic_ge 196, zq_aldg zG0, zq_ildg zG1, zq_ildg zG1, zq_k 1, zq_add, zq_k 4, zq_rem, zq_k 2, zq_calli 197 3 9 4, zq_incg zG1 zE1 1, zq_goto 174]
noncomputable def xf_186_1 : zE → zKn := fun E => zq_ildg zG1 (zq_k 4 (zq_ic_ge 196 (zq_aldg zG0 (zq_ildg zG1 (zq_ildg zG1 (zq_k 1 (zq_add (zq_k 4 (zq_rem (zq_k 2 (zq_calli 197 3 9 4 (zq_incg zG1 zE1 1 (zq_goto 174 (zNil) E) E) E) E) E) E) E) E) E) E) E) E) E) E
theorem xe_186_1 : xf_186_1 = zEx xb_186_1 := by
  unfold xf_186_1 xb_186_1
  rfl
theorem xc_186_1 : zCd 186 [0, 174, 196] 174 xb_186_1 := zc_iload_n xj_186 175 1 rfl rfl zf_ild_1 (zc_iconst xj_186 176 4 4 rfl rfl rfl (zc_ic_ge xj_186 179 20 196 rfl rfl rfl (zc_aload_n xj_186 180 0 rfl rfl zf_ald_0 (zc_iload_n xj_186 181 1 rfl rfl zf_ild_1 (zc_iload_n xj_186 182 1 rfl rfl zf_ild_1 (zc_iconst xj_186 183 1 1 rfl rfl rfl (zc_iadd xj_186 184 rfl rfl (zc_iconst xj_186 185 4 4 rfl rfl rfl (zc_irem xj_186 186 rfl rfl (zc_iconst xj_186 187 2 2 rfl rfl rfl (zc_invokevirtual1 xj_186 190 58 197 3 254 9 4 rfl rfl rfl rfl (zc_iinc xj_186 193 1 1 1 rfl rfl rfl (zf_inc_1 _) (zc_goto xj_186 194 (-19) 174 rfl rfl rfl (trivial))))))))))))))
noncomputable def xb_186_0 : List zF := zq_aldg zG0 :: zq_call0 :: zq_aldg zG0 :: zq_k 37340 :: zq_newa 0 :: zq_putf 9 0 2 :: zq_aldg zG0 :: zq_k 37340 :: zq_newa 0 :: zq_putf 9 1 2 :: zq_aldg zG0 :: zq_k 240 :: zq_newa 0 :: zq_putf 9 2 2 :: zq_aldg zG0 :: zq_k 1600 :: zq_newa 0 :: zq_putf 9 3 2 :: zq_aldg zG0 :: zq_k 1778 :: zq_newa 0 :: zq_putf 9 5 2 :: zq_aldg zG0 :: zq_k 80 :: zq_newa 2 :: zq_putf 9 6 2 :: zq_aldg zG0 :: zq_k 40 :: zq_newa 0 :: zq_putf 9 7 2 :: zq_aldg zG0 :: zq_k 80 :: zq_newa 0 :: zq_putf 9 8 2 :: zq_aldg zG0 :: zq_k 80 :: zq_newa 0 :: zq_putf 9 9 2 :: zq_aldg zG0 :: zq_k 40 :: zq_newa 0 :: zq_putf 9 10 2 :: zq_aldg zG0 :: zq_k 40 :: zq_newa 0 :: zq_putf 9 11 2 :: zq_aldg zG0 :: zq_k 40 :: zq_newa 0 :: zq_putf 9 12 2 :: zq_aldg zG0 :: zq_k 80 :: zq_newa 0 :: zq_putf 9 15 2 :: zq_aldg zG0 :: zq_k 80 :: zq_newa 0 :: zq_putf 9 17 2 :: zq_aldg zG0 :: zq_getfg 9 zG0 :: zq_k 2 :: zq_k 313 :: zq_iast :: zq_aldg zG0 :: zq_k 0 :: zq_k 4294966296 :: zq_k 4294966296 :: zq_calli 195 3 9 4 :: zq_aldg zG0 :: zq_k 1 :: zq_k 1000 :: zq_k 4294966296 :: zq_calli 195 3 9 4 :: zq_aldg zG0 :: zq_k 2 :: zq_k 1000 :: zq_k 1000 :: zq_calli 195 3 9 4 :: zq_aldg zG0 :: zq_k 3 :: zq_k 4294966296 :: zq_k 1000 :: zq_calli 195 3 9 4 :: zq_k 0 :: zq_istg zE1 :: xb_186_1
noncomputable def xf_186_0 : zE → zKn := fun E => zq_aldg zG0 (zq_call0 (zq_aldg zG0 (zq_k 37340 (zq_newa 0 (zq_putf 9 0 2 (zq_aldg zG0 (zq_k 37340 (zq_newa 0 (zq_putf 9 1 2 (zq_aldg zG0 (zq_k 240 (zq_newa 0 (zq_putf 9 2 2 (zq_aldg zG0 (zq_k 1600 (zq_newa 0 (zq_putf 9 3 2 (zq_aldg zG0 (zq_k 1778 (zq_newa 0 (zq_putf 9 5 2 (zq_aldg zG0 (zq_k 80 (zq_newa 2 (zq_putf 9 6 2 (zq_aldg zG0 (zq_k 40 (zq_newa 0 (zq_putf 9 7 2 (zq_aldg zG0 (zq_k 80 (zq_newa 0 (zq_putf 9 8 2 (zq_aldg zG0 (zq_k 80 (zq_newa 0 (zq_putf 9 9 2 (zq_aldg zG0 (zq_k 40 (zq_newa 0 (zq_putf 9 10 2 (zq_aldg zG0 (zq_k 40 (zq_newa 0 (zq_putf 9 11 2 (zq_aldg zG0 (zq_k 40 (zq_newa 0 (zq_putf 9 12 2 (zq_aldg zG0 (zq_k 80 (zq_newa 0 (zq_putf 9 15 2 (zq_aldg zG0 (zq_k 80 (zq_newa 0 (zq_putf 9 17 2 (zq_aldg zG0 (zq_getfg 9 zG0 (zq_k 2 (zq_k 313 (zq_iast (zq_aldg zG0 (zq_k 0 (zq_k 4294966296 (zq_k 4294966296 (zq_calli 195 3 9 4 (zq_aldg zG0 (zq_k 1 (zq_k 1000 (zq_k 4294966296 (zq_calli 195 3 9 4 (zq_aldg zG0 (zq_k 2 (zq_k 1000 (zq_k 1000 (zq_calli 195 3 9 4 (zq_aldg zG0 (zq_k 3 (zq_k 4294966296 (zq_k 1000 (zq_calli 195 3 9 4 (zq_k 0 (zq_istg zE1 (xf_186_1 E) E) E) E) E) E) E) E) E) E) E) E) E) E) E) E) E) E) E) E) E) E) E) E) E) E) E) E) E) E) E) E) E) E) E) E) E) E) E) E) E) E) E) E) E) E) E) E) E) E) E) E) E) E) E) E) E) E) E) E) E) E) E) E) E) E) E) E) E) E) E) E) E) E) E) E) E) E) E) E) E) E) E) E) E) E
set_option maxRecDepth 100000 in
theorem xe_186_0 : xf_186_0 = zEx xb_186_0 := by
  unfold xf_186_0 xb_186_0
  rw [xe_186_1]
  rfl
theorem xc_186_0 : zCd 186 [0, 174, 196] 0 xb_186_0 := zc_aload_n xj_186 1 0 rfl rfl zf_ald_0 (zc_invokespecial0 xj_186 4 1 0 0 252 0 0 rfl rfl (zc_aload_n xj_186 5 0 rfl rfl zf_ald_0 (zc_ldc xj_186 7 7 37340 2 rfl rfl rfl (zc_any xj_186 9 (.newarray .int) [0] rfl rfl (zq_newa 0) rfl rfl (zc_putf xj_186 12 8 9 0 94 2 rfl rfl rfl (zc_aload_n xj_186 13 0 rfl rfl zf_ald_0 (zc_ldc xj_186 15 7 37340 2 rfl rfl rfl (zc_any xj_186 17 (.newarray .int) [0] rfl rfl (zq_newa 0) rfl rfl (zc_putf xj_186 20 14 9 1 95 2 rfl rfl rfl (zc_aload_n xj_186 21 0 rfl rfl zf_ald_0 (zc_sipush xj_186 24 240 240 rfl rfl rfl (zc_any xj_186 26 (.newarray .int) [0] rfl rfl (zq_newa 0) rfl rfl (zc_putf xj_186 29 17 9 2 96 2 rfl rfl rfl (zc_aload_n xj_186 30 0 rfl rfl zf_ald_0 (zc_sipush xj_186 33 1600 1600 rfl rfl rfl (zc_any xj_186 35 (.newarray .int) [0] rfl rfl (zq_newa 0) rfl rfl (zc_putf xj_186 38 20 9 3 97 2 rfl rfl rfl (zc_aload_n xj_186 39 0 rfl rfl zf_ald_0 (zc_sipush xj_186 42 1778 1778 rfl rfl rfl (zc_any xj_186 44 (.newarray .int) [0] rfl rfl (zq_newa 0) rfl rfl (zc_putf xj_186 47 23 9 5 99 2 rfl rfl rfl (zc_aload_n xj_186 48 0 rfl rfl zf_ald_0 (zc_bipush xj_186 50 80 80 rfl rfl rfl (zc_any xj_186 52 (.newarray .boolean) [2] rfl rfl (zq_newa 2) rfl rfl (zc_putf xj_186 55 26 9 6 100 2 rfl rfl rfl (zc_aload_n xj_186 56 0 rfl rfl zf_ald_0 (zc_bipush xj_186 58 40 40 rfl rfl rfl (zc_any xj_186 60 (.newarray .int) [0] rfl rfl (zq_newa 0) rfl rfl (zc_putf xj_186 63 30 9 7 101 2 rfl rfl rfl (zc_aload_n xj_186 64 0 rfl rfl zf_ald_0 (zc_bipush xj_186 66 80 80 rfl rfl rfl (zc_any xj_186 68 (.newarray .int) [0] rfl rfl (zq_newa 0) rfl rfl (zc_putf xj_186 71 33 9 8 102 2 rfl rfl rfl (zc_aload_n xj_186 72 0 rfl rfl zf_ald_0 (zc_bipush xj_186 74 80 80 rfl rfl rfl (zc_any xj_186 76 (.newarray .int) [0] rfl rfl (zq_newa 0) rfl rfl (zc_putf xj_186 79 36 9 9 103 2 rfl rfl rfl (zc_aload_n xj_186 80 0 rfl rfl zf_ald_0 (zc_bipush xj_186 82 40 40 rfl rfl rfl (zc_any xj_186 84 (.newarray .int) [0] rfl rfl (zq_newa 0) rfl rfl (zc_putf xj_186 87 39 9 10 104 2 rfl rfl rfl (zc_aload_n xj_186 88 0 rfl rfl zf_ald_0 (zc_bipush xj_186 90 40 40 rfl rfl rfl (zc_any xj_186 92 (.newarray .int) [0] rfl rfl (zq_newa 0) rfl rfl (zc_putf xj_186 95 42 9 11 105 2 rfl rfl rfl (zc_aload_n xj_186 96 0 rfl rfl zf_ald_0 (zc_bipush xj_186 98 40 40 rfl rfl rfl (zc_any xj_186 100 (.newarray .int) [0] rfl rfl (zq_newa 0) rfl rfl (zc_putf xj_186 103 45 9 12 106 2 rfl rfl rfl (zc_aload_n xj_186 104 0 rfl rfl zf_ald_0 (zc_bipush xj_186 106 80 80 rfl rfl rfl (zc_any xj_186 108 (.newarray .int) [0] rfl rfl (zq_newa 0) rfl rfl (zc_putf xj_186 111 48 9 15 109 2 rfl rfl rfl (zc_aload_n xj_186 112 0 rfl rfl zf_ald_0 (zc_bipush xj_186 114 80 80 rfl rfl rfl (zc_any xj_186 116 (.newarray .int) [0] rfl rfl (zq_newa 0) rfl rfl (zc_putf xj_186 119 51 9 17 111 2 rfl rfl rfl (zc_aload_n xj_186 120 0 rfl rfl zf_ald_0 (zc_getf xj_186 123 8 9 0 94 rfl rfl (zf_getf_0 _) (zc_iconst xj_186 124 2 2 rfl rfl rfl (zc_sipush xj_186 127 313 313 rfl rfl rfl (zc_iastore xj_186 128 rfl rfl (zc_aload_n xj_186 129 0 rfl rfl zf_ald_0 (zc_iconst xj_186 130 0 0 rfl rfl rfl (zc_sipush xj_186 133 (-1000) 4294966296 rfl rfl rfl (zc_sipush xj_186 136 (-1000) 4294966296 rfl rfl rfl (zc_invokevirtual1 xj_186 139 54 195 3 253 9 4 rfl rfl rfl rfl (zc_aload_n xj_186 140 0 rfl rfl zf_ald_0 (zc_iconst xj_186 141 1 1 rfl rfl rfl (zc_sipush xj_186 144 1000 1000 rfl rfl rfl (zc_sipush xj_186 147 (-1000) 4294966296 rfl rfl rfl (zc_invokevirtual1 xj_186 150 54 195 3 253 9 4 rfl rfl rfl rfl (zc_aload_n xj_186 151 0 rfl rfl zf_ald_0 (zc_iconst xj_186 152 2 2 rfl rfl rfl (zc_sipush xj_186 155 1000 1000 rfl rfl rfl (zc_sipush xj_186 158 1000 1000 rfl rfl rfl (zc_invokevirtual1 xj_186 161 54 195 3 253 9 4 rfl rfl rfl rfl (zc_aload_n xj_186 162 0 rfl rfl zf_ald_0 (zc_iconst xj_186 163 3 3 rfl rfl rfl (zc_sipush xj_186 166 (-1000) 4294966296 rfl rfl rfl (zc_sipush xj_186 169 1000 1000 rfl rfl rfl (zc_invokevirtual1 xj_186 172 54 195 3 253 9 4 rfl rfl rfl rfl (zc_iconst xj_186 173 0 0 rfl rfl rfl (zc_istore_n xj_186 174 1 rfl rfl zf_ist_1 (xc_186_1)))))))))))))))))))))))))))))))))))))))))))))))))))))))))))))))))))))))))))))))))))))
noncomputable def xm_186 : Lean.RArray (zE → zKn) := .branch 174 (.leaf xf_186_0) (.branch 196 (.leaf xf_186_1) (.leaf xf_186_2))
theorem xa_186 : zCdAll 186 [0, 174, 196] xm_186 := zAll2_ok (P := fun t => ∃ c, zCd 186 [0, 174, 196] t c ∧ xm_186.get t = zEx c) ⟨⟨_, xc_186_0, xe_186_0⟩, ⟨_, xc_186_1, xe_186_1⟩, ⟨_, xc_186_2, xe_186_2⟩, trivial⟩
/-- SquareMeshModel.copy -/
theorem xj_187 : ∀ pc, pI 187 pc = pJ_187 pc := fun _ => rfl
noncomputable def xb_187_2 : List zF := [zq_vret]
noncomputable def xf_187_2 : zE → zKn := fun E => zq_vret (zNil) E
theorem xe_187_2 : xf_187_2 = zEx xb_187_2 := by
  unfold xf_187_2 xb_187_2
  rfl
theorem xc_187_2 : zCd 187 [0, 2, 20] 20 xb_187_2 := zc_return_ xj_187 21 rfl rfl (trivial)
noncomputable def xb_187_1 : List zF := [zq_ildg zG2, zq_k 37340, zq_ic_ge 20, zq_aldg zG1, zq_ildg zG2, zq_aldg zG0, zq_ildg zG2, zq_ild_ 0, zq_iast, zq_incg zG2 zE2 1, zq_goto 2]
noncomputable def xf_187_1 : zE → zKn := fun E => zq_ildg zG2 (zq_k 37340 (zq_ic_ge 20 (zq_aldg zG1 (zq_ildg zG2 (zq_aldg zG0 (zq_ildg zG2 (zq_ild_ 0 (zq_iast (zq_incg zG2 zE2 1 (zq_goto 2 (zNil) E) E) E) E) E) E) E) E) E) E) E
theorem xe_187_1 : xf_187_1 = zEx xb_187_1 := by
  unfold xf_187_1 xb_187_1
  rfl
theorem xc_187_1 : zCd 187 [0, 2, 20] 2 xb_187_1 := zc_iload_n xj_187 3 2 rfl rfl zf_ild_2 (zc_ldc xj_187 5 7 37340 2 rfl rfl rfl (zc_ic_ge xj_187 8 15 20 rfl rfl rfl (zc_aload_n xj_187 9 1 rfl rfl zf_ald_1 (zc_iload_n xj_187 10 2 rfl rfl zf_ild_2 (zc_aload_n xj_187 11 0 rfl rfl zf_ald_0 (zc_iload_n xj_187 12 2 rfl rfl zf_ild_2 (zc_iaload xj_187 13 rfl rfl (zc_iastore xj_187 14 rfl rfl (zc_iinc xj_187 17 2 1 1 rfl rfl rfl (zf_inc_2 _) (zc_goto xj_187 18 (-15) 2 rfl rfl rfl (trivial)))))))))))
noncomputable def xb_187_0 : List zF := zq_k 0 :: zq_istg zE2 :: xb_187_1
noncomputable def xf_187_0 : zE → zKn := fun E => zq_k 0 (zq_istg zE2 (xf_187_1 E) E) E
theorem xe_187_0 : xf_187_0 = zEx xb_187_0 := by
  unfold xf_187_0 xb_187_0
  rw [xe_187_1]
  rfl
theorem xc_187_0 : zCd 187 [0, 2, 20] 0 xb_187_0 := zc_iconst xj_187 1 0 0 rfl rfl rfl (zc_istore_n xj_187 2 2 rfl rfl zf_ist_2 (xc_187_1))
noncomputable def xm_187 : Lean.RArray (zE → zKn) := .branch 2 (.leaf xf_187_0) (.branch 20 (.leaf xf_187_1) (.leaf xf_187_2))
theorem xa_187 : zCdAll 187 [0, 2, 20] xm_187 := zAll2_ok (P := fun t => ∃ c, zCd 187 [0, 2, 20] t c ∧ xm_187.get t = zEx c) ⟨⟨_, xc_187_0, xe_187_0⟩, ⟨_, xc_187_1, xe_187_1⟩, ⟨_, xc_187_2, xe_187_2⟩, trivial⟩
/-- SquareMeshModel.isIn -/
theorem xj_188 : ∀ pc, pI 188 pc = pJ_188 pc := fun _ => rfl
noncomputable def xb_188_2 : List zF := [zq_iret 1]
noncomputable def xf_188_2 : zE → zKn := fun E => zq_iret 1 (zNil) E
theorem xe_188_2 : xf_188_2 = zEx xb_188_2 := by
  unfold xf_188_2 xb_188_2
  rfl
theorem xc_188_2 : zCd 188 [0, 14, 15] 15 xb_188_2 := zc_ireturn1 xj_188 16 rfl rfl (trivial)
noncomputable def xb_188_1 : List zF := zq_k 0 :: xb_188_2
noncomputable def xf_188_1 : zE → zKn := fun E => zq_k 0 (xf_188_2 E) E
theorem xe_188_1 : xf_188_1 = zEx xb_188_1 := by
  unfold xf_188_1 xb_188_1
  rw [xe_188_2]
  rfl
theorem xc_188_1 : zCd 188 [0, 14, 15] 14 xb_188_1 := zc_iconst xj_188 15 0 0 rfl rfl rfl (xc_188_2)
noncomputable def xb_188_0 : List zF := [zq_ildg zG0, zq_ildg zG1, zq_ic_lt 14, zq_ildg zG0, zq_ildg zG2, zq_ic_gt 14, zq_k 1, zq_goto 15]
noncomputable def xf_188_0 : zE → zKn := fun E => zq_ildg zG0 (zq_ildg zG1 (zq_ic_lt 14 (zq_ildg zG0 (zq_ildg zG2 (zq_ic_gt 14 (zq_k 1 (zq_goto 15 (zNil) E) E) E) E) E) E) E) E
theorem xe_188_0 : xf_188_0 = zEx xb_188_0 := by
  unfold xf_188_0 xb_188_0
  rfl
theorem xc_188_0 : zCd 188 [0, 14, 15] 0 xb_188_0 := zc_iload_n xj_188 1 0 rfl rfl zf_ild_0 (zc_iload_n xj_188 2 1 rfl rfl zf_ild_1 (zc_ic_lt xj_188 5 12 14 rfl rfl rfl (zc_iload_n xj_188 6 0 rfl rfl zf_ild_0 (zc_iload_n xj_188 7 2 rfl rfl zf_ild_2 (zc_ic_gt xj_188 10 7 14 rfl rfl rfl (zc_iconst xj_188 11 1 1 rfl rfl rfl (zc_goto xj_188 12 4 15 rfl rfl rfl (trivial))))))))
noncomputable def xm_188 : Lean.RArray (zE → zKn) := .branch 14 (.leaf xf_188_0) (.branch 15 (.leaf xf_188_1) (.leaf xf_188_2))
theorem xa_188 : zCdAll 188 [0, 14, 15] xm_188 := zAll2_ok (P := fun t => ∃ c, zCd 188 [0, 14, 15] t c ∧ xm_188.get t = zEx c) ⟨⟨_, xc_188_0, xe_188_0⟩, ⟨_, xc_188_1, xe_188_1⟩, ⟨_, xc_188_2, xe_188_2⟩, trivial⟩
/-- SquareMeshModel.isInSquare -/
theorem xj_189 : ∀ pc, pI 189 pc = pJ_189 pc := fun _ => rfl
noncomputable def xb_189_2 : List zF := [zq_iret 1]
noncomputable def xf_189_2 : zE → zKn := fun E => zq_iret 1 (zNil) E
theorem xe_189_2 : xf_189_2 = zEx xb_189_2 := by
  unfold xf_189_2 xb_189_2
  rfl
theorem xc_189_2 : zCd 189 [0, 30, 31] 31 xb_189_2 := zc_ireturn1 xj_189 32 rfl rfl (trivial)
noncomputable def xb_189_1 : List zF := zq_k 0 :: xb_189_2
noncomputable def xf_189_1 : zE → zKn := fun E => zq_k 0 (xf_189_2 E) E
theorem xe_189_1 : xf_189_1 = zEx xb_189_1 := by
  unfold xf_189_1 xb_189_1
  rw [xe_189_2]
  rfl
theorem xc_189_1 : zCd 189 [0, 30, 31] 30 xb_189_1 := zc_iconst xj_189 31 0 0 rfl rfl rfl (xc_189_2)
noncomputable def xb_189_0 : List zF := [zq_ildg zG0, zq_k 4294966296, zq_k 1000, zq_calls 188 3 3, zq_if_eq 30, zq_ildg zG1, zq_k 4294966296, zq_k 1000, zq_calls 188 3 3, zq_if_eq 30, zq_k 1, zq_goto 31]
noncomputable def xf_189_0 : zE → zKn := fun E => zq_ildg zG0 (zq_k 4294966296 (zq_k 1000 (zq_calls 188 3 3 (zq_if_eq 30 (zq_ildg zG1 (zq_k 4294966296 (zq_k 1000 (zq_calls 188 3 3 (zq_if_eq 30 (zq_k 1 (zq_goto 31 (zNil) E) E) E) E) E) E) E) E) E) E) E) E
theorem xe_189_0 : xf_189_0 = zEx xb_189_0 := by
  unfold xf_189_0 xb_189_0
  rfl
theorem xc_189_0 : zCd 189 [0, 30, 31] 0 xb_189_0 := zc_iload_n xj_189 1 0 rfl rfl zf_ild_0 (zc_sipush xj_189 4 (-1000) 4294966296 rfl rfl rfl (zc_sipush xj_189 7 1000 1000 rfl rfl rfl (zc_invokestatic2 xj_189 10 67 188 3 265 0 3 rfl rfl rfl rfl (zc_if_eq xj_189 13 20 30 rfl rfl rfl (zc_iload_n xj_189 14 1 rfl rfl zf_ild_1 (zc_sipush xj_189 17 (-1000) 4294966296 rfl rfl rfl (zc_sipush xj_189 20 1000 1000 rfl rfl rfl (zc_invokestatic2 xj_189 23 67 188 3 265 0 3 rfl rfl rfl rfl (zc_if_eq xj_189 26 7 30 rfl rfl rfl (zc_iconst xj_189 27 1 1 rfl rfl rfl (zc_goto xj_189 28 4 31 rfl rfl rfl (trivial))))))))))))
noncomputable def xm_189 : Lean.RArray (zE → zKn) := .branch 30 (.leaf xf_189_0) (.branch 31 (.leaf xf_189_1) (.leaf xf_189_2))
theorem xa_189 : zCdAll 189 [0, 30, 31] xm_189 := zAll2_ok (P := fun t => ∃ c, zCd 189 [0, 30, 31] t c ∧ xm_189.get t = zEx c) ⟨⟨_, xc_189_0, xe_189_0⟩, ⟨_, xc_189_1, xe_189_1⟩, ⟨_, xc_189_2, xe_189_2⟩, trivial⟩
/-- SquareMeshModel.floor -/
theorem xj_190 : ∀ pc, pI 190 pc = pJ_190 pc := fun _ => rfl
noncomputable def xb_190_2 : List zF := [zq_iret 0]
noncomputable def xf_190_2 : zE → zKn := fun E => zq_iret 0 (zNil) E
theorem xe_190_2 : xf_190_2 = zEx xb_190_2 := by
  unfold xf_190_2 xb_190_2
  rfl
theorem xc_190_2 : zCd 190 [0, 10, 18] 18 xb_190_2 := zc_ireturn0 xj_190 19 rfl rfl (trivial)
noncomputable def xb_190_1 : List zF := zq_ildg zG1 :: zq_k 1 :: zq_sub :: zq_ildg zG0 :: zq_sub :: zq_ildg zG1 :: zq_div :: zq_neg :: xb_190_2
noncomputable def xf_190_1 : zE → zKn := fun E => zq_ildg zG1 (zq_k 1 (zq_sub (zq_ildg zG0 (zq_sub (zq_ildg zG1 (zq_div (zq_neg (xf_190_2 E) E) E) E) E) E) E) E) E
theorem xe_190_1 : xf_190_1 = zEx xb_190_1 := by
  unfold xf_190_1 xb_190_1
  rw [xe_190_2]
  rfl
theorem xc_190_1 : zCd 190 [0, 10, 18] 10 xb_190_1 := zc_iload_n xj_190 11 1 rfl rfl zf_ild_1 (zc_iconst xj_190 12 1 1 rfl rfl rfl (zc_isub xj_190 13 rfl rfl (zc_iload_n xj_190 14 0 rfl rfl zf_ild_0 (zc_isub xj_190 15 rfl rfl (zc_iload_n xj_190 16 1 rfl rfl zf_ild_1 (zc_idiv xj_190 17 rfl rfl (zc_ineg xj_190 18 rfl rfl (xc_190_2))))))))
noncomputable def xb_190_0 : List zF := [zq_ildg zG0, zq_if_lt 10, zq_ildg zG0, zq_ildg zG1, zq_div, zq_goto 18]
noncomputable def xf_190_0 : zE → zKn := fun E => zq_ildg zG0 (zq_if_lt 10 (zq_ildg zG0 (zq_ildg zG1 (zq_div (zq_goto 18 (zNil) E) E) E) E) E) E
theorem xe_190_0 : xf_190_0 = zEx xb_190_0 := by
  unfold xf_190_0 xb_190_0
  rfl
theorem xc_190_0 : zCd 190 [0, 10, 18] 0 xb_190_0 := zc_iload_n xj_190 1 0 rfl rfl zf_ild_0 (zc_if_lt xj_190 4 9 10 rfl rfl rfl (zc_iload_n xj_190 5 0 rfl rfl zf_ild_0 (zc_iload_n xj_190 6 1 rfl rfl zf_ild_1 (zc_idiv xj_190 7 rfl rfl (zc_goto xj_190 8 11 18 rfl rfl rfl (trivial))))))
noncomputable def xm_190 : Lean.RArray (zE → zKn) := .branch 10 (.leaf xf_190_0) (.branch 18 (.leaf xf_190_1) (.leaf xf_190_2))
theorem xa_190 : zCdAll 190 [0, 10, 18] xm_190 := zAll2_ok (P := fun t => ∃ c, zCd 190 [0, 10, 18] t c ∧ xm_190.get t = zEx c) ⟨⟨_, xc_190_0, xe_190_0⟩, ⟨_, xc_190_1, xe_190_1⟩, ⟨_, xc_190_2, xe_190_2⟩, trivial⟩
/-- SquareMeshModel.isPoint -/
theorem xj_191 : ∀ pc, pI 191 pc = pJ_191 pc := fun _ => rfl
noncomputable def xb_191_2 : List zF := [zq_iret 1]
noncomputable def xf_191_2 : zE → zKn := fun E => zq_iret 1 (zNil) E
theorem xe_191_2 : xf_191_2 = zEx xb_191_2 := by
  unfold xf_191_2 xb_191_2
  rfl
theorem xc_191_2 : zCd 191 [0, 28, 29] 29 xb_191_2 := zc_ireturn1 xj_191 30 rfl rfl (trivial)
noncomputable def xb_191_1 : List zF := zq_k 0 :: xb_191_2
noncomputable def xf_191_1 : zE → zKn := fun E => zq_k 0 (xf_191_2 E) E
theorem xe_191_1 : xf_191_1 = zEx xb_191_1 := by
  unfold xf_191_1 xb_191_1
  rw [xe_191_2]
  rfl
theorem xc_191_1 : zCd 191 [0, 28, 29] 28 xb_191_1 := zc_iconst xj_191 29 0 0 rfl rfl rfl (xc_191_2)
noncomputable def xb_191_0 : List zF := [zq_ildg zG1, zq_k 0, zq_k 39, zq_calls 188 3 3, zq_if_eq 28, zq_aldg zG0, zq_getfg 9 zG0, zq_k 3, zq_k 4, zq_ildg zG1, zq_mul, zq_add, zq_ild_ 0, zq_k 1, zq_ic_ne 28, zq_k 1, zq_goto 29]
noncomputable def xf_191_0 : zE → zKn := fun E => zq_ildg zG1 (zq_k 0 (zq_k 39 (zq_calls 188 3 3 (zq_if_eq 28 (zq_aldg zG0 (zq_getfg 9 zG0 (zq_k 3 (zq_k 4 (zq_ildg zG1 (zq_mul (zq_add (zq_ild_ 0 (zq_k 1 (zq_ic_ne 28 (zq_k 1 (zq_goto 29 (zNil) E) E) E) E) E) E) E) E) E) E) E) E) E) E) E) E) E
theorem xe_191_0 : xf_191_0 = zEx xb_191_0 := by
  unfold xf_191_0 xb_191_0
  rfl
theorem xc_191_0 : zCd 191 [0, 28, 29] 0 xb_191_0 := zc_iload_n xj_191 1 1 rfl rfl zf_ild_1 (zc_iconst xj_191 2 0 0 rfl rfl rfl (zc_bipush xj_191 4 39 39 rfl rfl rfl (zc_invokestatic2 xj_191 7 67 188 3 265 0 3 rfl rfl rfl rfl (zc_if_eq xj_191 10 21 28 rfl rfl rfl (zc_aload_n xj_191 11 0 rfl rfl zf_ald_0 (zc_getf xj_191 14 8 9 0 94 rfl rfl (zf_getf_0 _) (zc_iconst xj_191 15 3 3 rfl rfl rfl (zc_iconst xj_191 16 4 4 rfl rfl rfl (zc_iload_n xj_191 17 1 rfl rfl zf_ild_1 (zc_imul xj_191 18 rfl rfl (zc_iadd xj_191 19 rfl rfl (zc_iaload xj_191 20 rfl rfl (zc_iconst xj_191 21 1 1 rfl rfl rfl (zc_ic_ne xj_191 24 7 28 rfl rfl rfl (zc_iconst xj_191 25 1 1 rfl rfl rfl (zc_goto xj_191 26 4 29 rfl rfl rfl (trivial)))))))))))))))))
noncomputable def xm_191 : Lean.RArray (zE → zKn) := .branch 28 (.leaf xf_191_0) (.branch 29 (.leaf xf_191_1) (.leaf xf_191_2))
theorem xa_191 : zCdAll 191 [0, 28, 29] xm_191 := zAll2_ok (P := fun t => ∃ c, zCd 191 [0, 28, 29] t c ∧ xm_191.get t = zEx c) ⟨⟨_, xc_191_0, xe_191_0⟩, ⟨_, xc_191_1, xe_191_1⟩, ⟨_, xc_191_2, xe_191_2⟩, trivial⟩
/-- SquareMeshModel.xOf -/
theorem xj_192 : ∀ pc, pI 192 pc = pJ_192 pc := fun _ => rfl
noncomputable def xb_192_0 : List zF := [zq_aldg zG0, zq_getfg 9 zG0, zq_k 3, zq_k 4, zq_ildg zG1, zq_mul, zq_add, zq_k 1, zq_add, zq_ild_ 0, zq_iret 0]
noncomputable def xf_192_0 : zE → zKn := fun E => zq_aldg zG0 (zq_getfg 9 zG0 (zq_k 3 (zq_k 4 (zq_ildg zG1 (zq_mul (zq_add (zq_k 1 (zq_add (zq_ild_ 0 (zq_iret 0 (zNil) E) E) E) E) E) E) E) E) E) E) E
theorem xe_192_0 : xf_192_0 = zEx xb_192_0 := by
  unfold xf_192_0 xb_192_0
  rfl
theorem xc_192_0 : zCd 192 [0] 0 xb_192_0 := zc_aload_n xj_192 1 0 rfl rfl zf_ald_0 (zc_getf xj_192 4 8 9 0 94 rfl rfl (zf_getf_0 _) (zc_iconst xj_192 5 3 3 rfl rfl rfl (zc_iconst xj_192 6 4 4 rfl rfl rfl (zc_iload_n xj_192 7 1 rfl rfl zf_ild_1 (zc_imul xj_192 8 rfl rfl (zc_iadd xj_192 9 rfl rfl (zc_iconst xj_192 10 1 1 rfl rfl rfl (zc_iadd xj_192 11 rfl rfl (zc_iaload xj_192 12 rfl rfl (zc_ireturn0 xj_192 13 rfl rfl (trivial)))))))))))
noncomputable def xm_192 : Lean.RArray (zE → zKn) := .leaf xf_192_0
theorem xa_192 : zCdAll 192 [0] xm_192 := zAll2_ok (P := fun t => ∃ c, zCd 192 [0] t c ∧ xm_192.get t = zEx c) ⟨⟨_, xc_192_0, xe_192_0⟩, trivial⟩
/-- SquareMeshModel.yOf -/
theorem xj_193 : ∀ pc, pI 193 pc = pJ_193 pc := fun _ => rfl
noncomputable def xb_193_0 : List zF := [zq_aldg zG0, zq_getfg 9 zG0, zq_k 3, zq_k 4, zq_ildg zG1, zq_mul, zq_add, zq_k 2, zq_add, zq_ild_ 0, zq_iret 0]
noncomputable def xf_193_0 : zE → zKn := fun E => zq_aldg zG0 (zq_getfg 9 zG0 (zq_k 3 (zq_k 4 (zq_ildg zG1 (zq_mul (zq_add (zq_k 2 (zq_add (zq_ild_ 0 (zq_iret 0 (zNil) E) E) E) E) E) E) E) E) E) E) E
theorem xe_193_0 : xf_193_0 = zEx xb_193_0 := by
  unfold xf_193_0 xb_193_0
  rfl
theorem xc_193_0 : zCd 193 [0] 0 xb_193_0 := zc_aload_n xj_193 1 0 rfl rfl zf_ald_0 (zc_getf xj_193 4 8 9 0 94 rfl rfl (zf_getf_0 _) (zc_iconst xj_193 5 3 3 rfl rfl rfl (zc_iconst xj_193 6 4 4 rfl rfl rfl (zc_iload_n xj_193 7 1 rfl rfl zf_ild_1 (zc_imul xj_193 8 rfl rfl (zc_iadd xj_193 9 rfl rfl (zc_iconst xj_193 10 2 2 rfl rfl rfl (zc_iadd xj_193 11 rfl rfl (zc_iaload xj_193 12 rfl rfl (zc_ireturn0 xj_193 13 rfl rfl (trivial)))))))))))
noncomputable def xm_193 : Lean.RArray (zE → zKn) := .leaf xf_193_0
theorem xa_193 : zCdAll 193 [0] xm_193 := zAll2_ok (P := fun t => ∃ c, zCd 193 [0] t c ∧ xm_193.get t = zEx c) ⟨⟨_, xc_193_0, xe_193_0⟩, trivial⟩
/-- SquareMeshModel.highOf -/
theorem xj_194 : ∀ pc, pI 194 pc = pJ_194 pc := fun _ => rfl
noncomputable def xb_194_0 : List zF := [zq_aldg zG0, zq_getfg 9 zG0, zq_k 3, zq_k 4, zq_ildg zG1, zq_mul, zq_add, zq_k 3, zq_add, zq_ild_ 0, zq_iret 0]
noncomputable def xf_194_0 : zE → zKn := fun E => zq_aldg zG0 (zq_getfg 9 zG0 (zq_k 3 (zq_k 4 (zq_ildg zG1 (zq_mul (zq_add (zq_k 3 (zq_add (zq_ild_ 0 (zq_iret 0 (zNil) E) E) E) E) E) E) E) E) E) E) E
theorem xe_194_0 : xf_194_0 = zEx xb_194_0 := by
  unfold xf_194_0 xb_194_0
  rfl
theorem xc_194_0 : zCd 194 [0] 0 xb_194_0 := zc_aload_n xj_194 1 0 rfl rfl zf_ald_0 (zc_getf xj_194 4 8 9 0 94 rfl rfl (zf_getf_0 _) (zc_iconst xj_194 5 3 3 rfl rfl rfl (zc_iconst xj_194 6 4 4 rfl rfl rfl (zc_iload_n xj_194 7 1 rfl rfl zf_ild_1 (zc_imul xj_194 8 rfl rfl (zc_iadd xj_194 9 rfl rfl (zc_iconst xj_194 10 3 3 rfl rfl rfl (zc_iadd xj_194 11 rfl rfl (zc_iaload xj_194 12 rfl rfl (zc_ireturn0 xj_194 13 rfl rfl (trivial)))))))))))
noncomputable def xm_194 : Lean.RArray (zE → zKn) := .leaf xf_194_0
theorem xa_194 : zCdAll 194 [0] xm_194 := zAll2_ok (P := fun t => ∃ c, zCd 194 [0] t c ∧ xm_194.get t = zEx c) ⟨⟨_, xc_194_0, xe_194_0⟩, trivial⟩
/-- SquareMeshModel.lay -/
theorem xj_195 : ∀ pc, pI 195 pc = pJ_195 pc := fun _ => rfl
noncomputable def xb_195_0 : List zF := [zq_aldg zG0, zq_getfg 9 zG0, zq_k 3, zq_k 4, zq_ildg zG1, zq_mul, zq_add, zq_k 1, zq_iast, zq_aldg zG0, zq_getfg 9 zG0, zq_k 3, zq_k 4, zq_ildg zG1, zq_mul, zq_add, zq_k 1, zq_add, zq_ildg zG2, zq_iast, zq_aldg zG0, zq_getfg 9 zG0, zq_k 3, zq_k 4, zq_ildg zG1, zq_mul, zq_add, zq_k 2, zq_add, zq_ildg zG3, zq_iast, zq_vret]
noncomputable def xf_195_0 : zE → zKn := fun E => zq_aldg zG0 (zq_getfg 9 zG0 (zq_k 3 (zq_k 4 (zq_ildg zG1 (zq_mul (zq_add (zq_k 1 (zq_iast (zq_aldg zG0 (zq_getfg 9 zG0 (zq_k 3 (zq_k 4 (zq_ildg zG1 (zq_mul (zq_add (zq_k 1 (zq_add (zq_ildg zG2 (zq_iast (zq_aldg zG0 (zq_getfg 9 zG0 (zq_k 3 (zq_k 4 (zq_ildg zG1 (zq_mul (zq_add (zq_k 2 (zq_add (zq_ildg zG3 (zq_iast (zq_vret (zNil) E) E) E) E) E) E) E) E) E) E) E) E) E) E) E) E) E) E) E) E) E) E) E) E) E) E) E) E) E) E) E) E
set_option maxRecDepth 100000 in
theorem xe_195_0 : xf_195_0 = zEx xb_195_0 := by
  unfold xf_195_0 xb_195_0
  rfl
theorem xc_195_0 : zCd 195 [0] 0 xb_195_0 := zc_aload_n xj_195 1 0 rfl rfl zf_ald_0 (zc_getf xj_195 4 8 9 0 94 rfl rfl (zf_getf_0 _) (zc_iconst xj_195 5 3 3 rfl rfl rfl (zc_iconst xj_195 6 4 4 rfl rfl rfl (zc_iload_n xj_195 7 1 rfl rfl zf_ild_1 (zc_imul xj_195 8 rfl rfl (zc_iadd xj_195 9 rfl rfl (zc_iconst xj_195 10 1 1 rfl rfl rfl (zc_iastore xj_195 11 rfl rfl (zc_aload_n xj_195 12 0 rfl rfl zf_ald_0 (zc_getf xj_195 15 8 9 0 94 rfl rfl (zf_getf_0 _) (zc_iconst xj_195 16 3 3 rfl rfl rfl (zc_iconst xj_195 17 4 4 rfl rfl rfl (zc_iload_n xj_195 18 1 rfl rfl zf_ild_1 (zc_imul xj_195 19 rfl rfl (zc_iadd xj_195 20 rfl rfl (zc_iconst xj_195 21 1 1 rfl rfl rfl (zc_iadd xj_195 22 rfl rfl (zc_iload_n xj_195 23 2 rfl rfl zf_ild_2 (zc_iastore xj_195 24 rfl rfl (zc_aload_n xj_195 25 0 rfl rfl zf_ald_0 (zc_getf xj_195 28 8 9 0 94 rfl rfl (zf_getf_0 _) (zc_iconst xj_195 29 3 3 rfl rfl rfl (zc_iconst xj_195 30 4 4 rfl rfl rfl (zc_iload_n xj_195 31 1 rfl rfl zf_ild_1 (zc_imul xj_195 32 rfl rfl (zc_iadd xj_195 33 rfl rfl (zc_iconst xj_195 34 2 2 rfl rfl rfl (zc_iadd xj_195 35 rfl rfl (zc_iload_n xj_195 36 3 rfl rfl zf_ild_3 (zc_iastore xj_195 37 rfl rfl (zc_return_ xj_195 38 rfl rfl (trivial))))))))))))))))))))))))))))))))
noncomputable def xm_195 : Lean.RArray (zE → zKn) := .leaf xf_195_0
theorem xa_195 : zCdAll 195 [0] xm_195 := zAll2_ok (P := fun t => ∃ c, zCd 195 [0] t c ∧ xm_195.get t = zEx c) ⟨⟨_, xc_195_0, xe_195_0⟩, trivial⟩
/-- SquareMeshModel.fixedAt -/
theorem xj_196 : ∀ pc, pI 196 pc = pJ_196 pc := fun _ => rfl
noncomputable def xb_196_0 : List zF := [zq_aldg zG0, zq_getfg 9 zG0, zq_k 163, zq_k 40, zq_ildg zG1, zq_mul, zq_add, zq_ildg zG2, zq_add, zq_ild_ 0, zq_iret 0]
noncomputable def xf_196_0 : zE → zKn := fun E => zq_aldg zG0 (zq_getfg 9 zG0 (zq_k 163 (zq_k 40 (zq_ildg zG1 (zq_mul (zq_add (zq_ildg zG2 (zq_add (zq_ild_ 0 (zq_iret 0 (zNil) E) E) E) E) E) E) E) E) E) E) E
theorem xe_196_0 : xf_196_0 = zEx xb_196_0 := by
  unfold xf_196_0 xb_196_0
  rfl
theorem xc_196_0 : zCd 196 [0] 0 xb_196_0 := zc_aload_n xj_196 1 0 rfl rfl zf_ald_0 (zc_getf xj_196 4 8 9 0 94 rfl rfl (zf_getf_0 _) (zc_sipush xj_196 7 163 163 rfl rfl rfl (zc_bipush xj_196 9 40 40 rfl rfl rfl (zc_iload_n xj_196 10 1 rfl rfl zf_ild_1 (zc_imul xj_196 11 rfl rfl (zc_iadd xj_196 12 rfl rfl (zc_iload_n xj_196 13 2 rfl rfl zf_ild_2 (zc_iadd xj_196 14 rfl rfl (zc_iaload xj_196 15 rfl rfl (zc_ireturn0 xj_196 16 rfl rfl (trivial)))))))))))
noncomputable def xm_196 : Lean.RArray (zE → zKn) := .leaf xf_196_0
theorem xa_196 : zCdAll 196 [0] xm_196 := zAll2_ok (P := fun t => ∃ c, zCd 196 [0] t c ∧ xm_196.get t = zEx c) ⟨⟨_, xc_196_0, xe_196_0⟩, trivial⟩
/-- SquareMeshModel.fixNow -/
theorem xj_197 : ∀ pc, pI 197 pc = pJ_197 pc := fun _ => rfl
noncomputable def xb_197_0 : List zF := [zq_aldg zG0, zq_getfg 9 zG0, zq_k 163, zq_k 40, zq_ildg zG1, zq_mul, zq_add, zq_ildg zG2, zq_add, zq_ildg zG3, zq_iast, zq_aldg zG0, zq_getfg 9 zG0, zq_k 163, zq_k 40, zq_ildg zG2, zq_mul, zq_add, zq_ildg zG1, zq_add, zq_ildg zG3, zq_iast, zq_vret]
noncomputable def xf_197_0 : zE → zKn := fun E => zq_aldg zG0 (zq_getfg 9 zG0 (zq_k 163 (zq_k 40 (zq_ildg zG1 (zq_mul (zq_add (zq_ildg zG2 (zq_add (zq_ildg zG3 (zq_iast (zq_aldg zG0 (zq_getfg 9 zG0 (zq_k 163 (zq_k 40 (zq_ildg zG2 (zq_mul (zq_add (zq_ildg zG1 (zq_add (zq_ildg zG3 (zq_iast (zq_vret (zNil) E) E) E) E) E) E) E) E) E) E) E) E) E) E) E) E) E) E) E) E) E) E) E
theorem xe_197_0 : xf_197_0 = zEx xb_197_0 := by
  unfold xf_197_0 xb_197_0
  rfl
theorem xc_197_0 : zCd 197 [0] 0 xb_197_0 := zc_aload_n xj_197 1 0 rfl rfl zf_ald_0 (zc_getf xj_197 4 8 9 0 94 rfl rfl (zf_getf_0 _) (zc_sipush xj_197 7 163 163 rfl rfl rfl (zc_bipush xj_197 9 40 40 rfl rfl rfl (zc_iload_n xj_197 10 1 rfl rfl zf_ild_1 (zc_imul xj_197 11 rfl rfl (zc_iadd xj_197 12 rfl rfl (zc_iload_n xj_197 13 2 rfl rfl zf_ild_2 (zc_iadd xj_197 14 rfl rfl (zc_iload_n xj_197 15 3 rfl rfl zf_ild_3 (zc_iastore xj_197 16 rfl rfl (zc_aload_n xj_197 17 0 rfl rfl zf_ald_0 (zc_getf xj_197 20 8 9 0 94 rfl rfl (zf_getf_0 _) (zc_sipush xj_197 23 163 163 rfl rfl rfl (zc_bipush xj_197 25 40 40 rfl rfl rfl (zc_iload_n xj_197 26 2 rfl rfl zf_ild_2 (zc_imul xj_197 27 rfl rfl (zc_iadd xj_197 28 rfl rfl (zc_iload_n xj_197 29 1 rfl rfl zf_ild_1 (zc_iadd xj_197 30 rfl rfl (zc_iload_n xj_197 31 3 rfl rfl zf_ild_3 (zc_iastore xj_197 32 rfl rfl (zc_return_ xj_197 33 rfl rfl (trivial)))))))))))))))))))))))
noncomputable def xm_197 : Lean.RArray (zE → zKn) := .leaf xf_197_0
theorem xa_197 : zCdAll 197 [0] xm_197 := zAll2_ok (P := fun t => ∃ c, zCd 197 [0] t c ∧ xm_197.get t = zEx c) ⟨⟨_, xc_197_0, xe_197_0⟩, trivial⟩
/-- SquareMeshModel.pointAt -/
theorem xj_198 : ∀ pc, pI 198 pc = pJ_198 pc := fun _ => rfl
noncomputable def xb_198_3 : List zF := [zq_k 4294967295, zq_iret 0]
noncomputable def xf_198_3 : zE → zKn := fun E => zq_k 4294967295 (zq_iret 0 (zNil) E) E
theorem xe_198_3 : xf_198_3 = zEx xb_198_3 := by
  unfold xf_198_3 xb_198_3
  rfl
theorem xc_198_3 : zCd 198 [0, 2, 36, 42] 42 xb_198_3 := zc_iconst xj_198 43 (-1) 4294967295 rfl rfl rfl (zc_ireturn0 xj_198 44 rfl rfl (trivial))
noncomputable def xb_198_2 : List zF := [zq_incg zG3 zE3 1, zq_goto 2]
noncomputable def xf_198_2 : zE → zKn := fun E => zq_incg zG3 zE3 1 (zq_goto 2 (zNil) E) E
theorem xe_198_2 : xf_198_2 = zEx xb_198_2 := by
  unfold xf_198_2 xb_198_2
  rfl
theorem xc_198_2 : zCd 198 [0, 2, 36, 42] 36 xb_198_2 := zc_iinc xj_198 39 3 1 1 rfl rfl rfl (zf_inc_3 _) (zc_goto xj_198 40 (-37) 2 rfl rfl rfl (trivial))
noncomputable def xb_198_1 : List zF := [zq_ildg zG3, zq_k 40, zq_ic_ge 42, zq_aldg zG0, zq_ildg zG3, zN1 191 2 zg_191, zq_if_eq 36, zq_aldg zG0, zq_ildg zG3, zN1 192 2 zg_192, zq_ildg zG1, zq_ic_ne 36, zq_aldg zG0, zq_ildg zG3, zN1 193 2 zg_193, zq_ildg zG2, zq_ic_ne 36, zq_ildg zG3, zq_iret 0]
noncomputable def xf_198_1 : zE → zKn := fun E => zq_ildg zG3 (zq_k 40 (zq_ic_ge 42 (zq_aldg zG0 (zq_ildg zG3 (zN1 191 2 zg_191 (zq_if_eq 36 (zq_aldg zG0 (zq_ildg zG3 (zN1 192 2 zg_192 (zq_ildg zG1 (zq_ic_ne 36 (zq_aldg zG0 (zq_ildg zG3 (zN1 193 2 zg_193 (zq_ildg zG2 (zq_ic_ne 36 (zq_ildg zG3 (zq_iret 0 (zNil) E) E) E) E) E) E) E) E) E) E) E) E) E) E) E) E) E) E) E
theorem xe_198_1 : xf_198_1 = zEx xb_198_1 := by
  unfold xf_198_1 xb_198_1
  rfl
theorem xc_198_1 : zCd 198 [0, 2, 36, 42] 2 xb_198_1 := zc_iload_n xj_198 3 3 rfl rfl zf_ild_3 (zc_bipush xj_198 5 40 40 rfl rfl rfl (zc_ic_ge xj_198 8 37 42 rfl rfl rfl (zc_aload_n xj_198 9 0 rfl rfl zf_ald_0 (zc_iload_n xj_198 10 3 rfl rfl zf_ild_3 (zc_any xj_198 13 (.invokevirtual 71) [1, 191, 1, 264, 9, 2] rfl rfl (zN1 191 2 zg_191) rfl rfl (zc_if_eq xj_198 16 23 36 rfl rfl rfl (zc_aload_n xj_198 17 0 rfl rfl zf_ald_0 (zc_iload_n xj_198 18 3 rfl rfl zf_ild_3 (zc_any xj_198 21 (.invokevirtual 75) [1, 192, 1, 260, 9, 2] rfl rfl (zN1 192 2 zg_192) rfl rfl (zc_iload_n xj_198 22 1 rfl rfl zf_ild_1 (zc_ic_ne xj_198 25 14 36 rfl rfl rfl (zc_aload_n xj_198 26 0 rfl rfl zf_ald_0 (zc_iload_n xj_198 27 3 rfl rfl zf_ild_3 (zc_any xj_198 30 (.invokevirtual 79) [1, 193, 1, 261, 9, 2] rfl rfl (zN1 193 2 zg_193) rfl rfl (zc_iload_n xj_198 31 2 rfl rfl zf_ild_2 (zc_ic_ne xj_198 34 5 36 rfl rfl rfl (zc_iload_n xj_198 35 3 rfl rfl zf_ild_3 (zc_ireturn0 xj_198 36 rfl rfl (trivial)))))))))))))))))))
noncomputable def xb_198_0 : List zF := zq_k 0 :: zq_istg zE3 :: xb_198_1
noncomputable def xf_198_0 : zE → zKn := fun E => zq_k 0 (zq_istg zE3 (xf_198_1 E) E) E
theorem xe_198_0 : xf_198_0 = zEx xb_198_0 := by
  unfold xf_198_0 xb_198_0
  rw [xe_198_1]
  rfl
theorem xc_198_0 : zCd 198 [0, 2, 36, 42] 0 xb_198_0 := zc_iconst xj_198 1 0 0 rfl rfl rfl (zc_istore_n xj_198 2 3 rfl rfl zf_ist_3 (xc_198_1))
noncomputable def xm_198 : Lean.RArray (zE → zKn) := .branch 36 (.branch 2 (.leaf xf_198_0) (.leaf xf_198_1)) (.branch 42 (.leaf xf_198_2) (.leaf xf_198_3))
theorem xa_198 : zCdAll 198 [0, 2, 36, 42] xm_198 := zAll2_ok (P := fun t => ∃ c, zCd 198 [0, 2, 36, 42] t c ∧ xm_198.get t = zEx c) ⟨⟨_, xc_198_0, xe_198_0⟩, ⟨_, xc_198_1, xe_198_1⟩, ⟨_, xc_198_2, xe_198_2⟩, ⟨_, xc_198_3, xe_198_3⟩, trivial⟩
/-- SquareMeshModel.freeNumber -/
theorem xj_199 : ∀ pc, pI 199 pc = pJ_199 pc := fun _ => rfl
noncomputable def xb_199_4 : List zF := [zq_iret 0]
noncomputable def xf_199_4 : zE → zKn := fun E => zq_iret 0 (zNil) E
theorem xe_199_4 : xf_199_4 = zEx xb_199_4 := by
  unfold xf_199_4 xb_199_4
  rfl
theorem xc_199_4 : zCd 199 [0, 2, 22, 32, 33] 33 xb_199_4 := zc_ireturn0 xj_199 34 rfl rfl (trivial)
noncomputable def xb_199_3 : List zF := zq_k 4294967295 :: xb_199_4
noncomputable def xf_199_3 : zE → zKn := fun E => zq_k 4294967295 (xf_199_4 E) E
theorem xe_199_3 : xf_199_3 = zEx xb_199_3 := by
  unfold xf_199_3 xb_199_3
  rw [xe_199_4]
  rfl
theorem xc_199_3 : zCd 199 [0, 2, 22, 32, 33] 32 xb_199_3 := zc_iconst xj_199 33 (-1) 4294967295 rfl rfl rfl (xc_199_4)
noncomputable def xb_199_2 : List zF := [zq_ildg zG1, zq_k 40, zq_ic_ge 32, zq_ildg zG1, zq_goto 33]
noncomputable def xf_199_2 : zE → zKn := fun E => zq_ildg zG1 (zq_k 40 (zq_ic_ge 32 (zq_ildg zG1 (zq_goto 33 (zNil) E) E) E) E) E
theorem xe_199_2 : xf_199_2 = zEx xb_199_2 := by
  unfold xf_199_2 xb_199_2
  rfl
theorem xc_199_2 : zCd 199 [0, 2, 22, 32, 33] 22 xb_199_2 := zc_iload_n xj_199 23 1 rfl rfl zf_ild_1 (zc_bipush xj_199 25 40 40 rfl rfl rfl (zc_ic_ge xj_199 28 7 32 rfl rfl rfl (zc_iload_n xj_199 29 1 rfl rfl zf_ild_1 (zc_goto xj_199 30 4 33 rfl rfl rfl (trivial)))))
noncomputable def xb_199_1 : List zF := [zq_ildg zG1, zq_k 40, zq_ic_ge 22, zq_aldg zG0, zq_ildg zG1, zN1 191 2 zg_191, zq_if_eq 22, zq_incg zG1 zE1 1, zq_goto 2]
noncomputable def xf_199_1 : zE → zKn := fun E => zq_ildg zG1 (zq_k 40 (zq_ic_ge 22 (zq_aldg zG0 (zq_ildg zG1 (zN1 191 2 zg_191 (zq_if_eq 22 (zq_incg zG1 zE1 1 (zq_goto 2 (zNil) E) E) E) E) E) E) E) E) E
theorem xe_199_1 : xf_199_1 = zEx xb_199_1 := by
  unfold xf_199_1 xb_199_1
  rfl
theorem xc_199_1 : zCd 199 [0, 2, 22, 32, 33] 2 xb_199_1 := zc_iload_n xj_199 3 1 rfl rfl zf_ild_1 (zc_bipush xj_199 5 40 40 rfl rfl rfl (zc_ic_ge xj_199 8 17 22 rfl rfl rfl (zc_aload_n xj_199 9 0 rfl rfl zf_ald_0 (zc_iload_n xj_199 10 1 rfl rfl zf_ild_1 (zc_any xj_199 13 (.invokevirtual 71) [1, 191, 1, 264, 9, 2] rfl rfl (zN1 191 2 zg_191) rfl rfl (zc_if_eq xj_199 16 9 22 rfl rfl rfl (zc_iinc xj_199 19 1 1 1 rfl rfl rfl (zf_inc_1 _) (zc_goto xj_199 20 (-17) 2 rfl rfl rfl (trivial)))))))))
noncomputable def xb_199_0 : List zF := zq_k 4 :: zq_istg zE1 :: xb_199_1
noncomputable def xf_199_0 : zE → zKn := fun E => zq_k 4 (zq_istg zE1 (xf_199_1 E) E) E
theorem xe_199_0 : xf_199_0 = zEx xb_199_0 := by
  unfold xf_199_0 xb_199_0
  rw [xe_199_1]
  rfl
theorem xc_199_0 : zCd 199 [0, 2, 22, 32, 33] 0 xb_199_0 := zc_iconst xj_199 1 4 4 rfl rfl rfl (zc_istore_n xj_199 2 1 rfl rfl zf_ist_1 (xc_199_1))
noncomputable def xm_199 : Lean.RArray (zE → zKn) := .branch 22 (.branch 2 (.leaf xf_199_0) (.leaf xf_199_1)) (.branch 32 (.leaf xf_199_2) (.branch 33 (.leaf xf_199_3) (.leaf xf_199_4)))
theorem xa_199 : zCdAll 199 [0, 2, 22, 32, 33] xm_199 := zAll2_ok (P := fun t => ∃ c, zCd 199 [0, 2, 22, 32, 33] t c ∧ xm_199.get t = zEx c) ⟨⟨_, xc_199_0, xe_199_0⟩, ⟨_, xc_199_1, xe_199_1⟩, ⟨_, xc_199_2, xe_199_2⟩, ⟨_, xc_199_3, xe_199_3⟩, ⟨_, xc_199_4, xe_199_4⟩, trivial⟩
/-- SquareMeshModel.isAhead -/
theorem xj_200 : ∀ pc, pI 200 pc = pJ_200 pc := fun _ => rfl
noncomputable def xb_200_4 : List zF := [zq_iret 1]
noncomputable def xf_200_4 : zE → zKn := fun E => zq_iret 1 (zNil) E
theorem xe_200_4 : xf_200_4 = zEx xb_200_4 := by
  unfold xf_200_4 xb_200_4
  rfl
theorem xc_200_4 : zCd 200 [0, 30, 34, 51, 52] 52 xb_200_4 := zc_ireturn1 xj_200 53 rfl rfl (trivial)
noncomputable def xb_200_3 : List zF := zq_k 0 :: xb_200_4
noncomputable def xf_200_3 : zE → zKn := fun E => zq_k 0 (xf_200_4 E) E
theorem xe_200_3 : xf_200_3 = zEx xb_200_3 := by
  unfold xf_200_3 xb_200_3
  rw [xe_200_4]
  rfl
theorem xc_200_3 : zCd 200 [0, 30, 34, 51, 52] 51 xb_200_3 := zc_iconst xj_200 52 0 0 rfl rfl rfl (xc_200_4)
noncomputable def xb_200_2 : List zF := [zq_aldg zG0, zq_ildg zG1, zN1 193 2 zg_193, zq_aldg zG0, zq_ildg zG2, zN1 193 2 zg_193, zq_ic_ge 51, zq_k 1, zq_goto 52]
noncomputable def xf_200_2 : zE → zKn := fun E => zq_aldg zG0 (zq_ildg zG1 (zN1 193 2 zg_193 (zq_aldg zG0 (zq_ildg zG2 (zN1 193 2 zg_193 (zq_ic_ge 51 (zq_k 1 (zq_goto 52 (zNil) E) E) E) E) E) E) E) E) E
theorem xe_200_2 : xf_200_2 = zEx xb_200_2 := by
  unfold xf_200_2 xb_200_2
  rfl
theorem xc_200_2 : zCd 200 [0, 30, 34, 51, 52] 34 xb_200_2 := zc_aload_n xj_200 35 0 rfl rfl zf_ald_0 (zc_iload_n xj_200 36 1 rfl rfl zf_ild_1 (zc_any xj_200 39 (.invokevirtual 79) [1, 193, 1, 261, 9, 2] rfl rfl (zN1 193 2 zg_193) rfl rfl (zc_aload_n xj_200 40 0 rfl rfl zf_ald_0 (zc_iload_n xj_200 41 2 rfl rfl zf_ild_2 (zc_any xj_200 44 (.invokevirtual 79) [1, 193, 1, 261, 9, 2] rfl rfl (zN1 193 2 zg_193) rfl rfl (zc_ic_ge xj_200 47 7 51 rfl rfl rfl (zc_iconst xj_200 48 1 1 rfl rfl rfl (zc_goto xj_200 49 4 52 rfl rfl rfl (trivial)))))))))
noncomputable def xb_200_1 : List zF := [zq_k 0, zq_goto 52]
noncomputable def xf_200_1 : zE → zKn := fun E => zq_k 0 (zq_goto 52 (zNil) E) E
theorem xe_200_1 : xf_200_1 = zEx xb_200_1 := by
  unfold xf_200_1 xb_200_1
  rfl
theorem xc_200_1 : zCd 200 [0, 30, 34, 51, 52] 30 xb_200_1 := zc_iconst xj_200 31 0 0 rfl rfl rfl (zc_goto xj_200 32 21 52 rfl rfl rfl (trivial))
noncomputable def xb_200_0 : List zF := [zq_aldg zG0, zq_ildg zG1, zN1 192 2 zg_192, zq_aldg zG0, zq_ildg zG2, zN1 192 2 zg_192, zq_ic_eq 34, zq_aldg zG0, zq_ildg zG1, zN1 192 2 zg_192, zq_aldg zG0, zq_ildg zG2, zN1 192 2 zg_192, zq_ic_ge 30, zq_k 1, zq_goto 52]
noncomputable def xf_200_0 : zE → zKn := fun E => zq_aldg zG0 (zq_ildg zG1 (zN1 192 2 zg_192 (zq_aldg zG0 (zq_ildg zG2 (zN1 192 2 zg_192 (zq_ic_eq 34 (zq_aldg zG0 (zq_ildg zG1 (zN1 192 2 zg_192 (zq_aldg zG0 (zq_ildg zG2 (zN1 192 2 zg_192 (zq_ic_ge 30 (zq_k 1 (zq_goto 52 (zNil) E) E) E) E) E) E) E) E) E) E) E) E) E) E) E) E
theorem xe_200_0 : xf_200_0 = zEx xb_200_0 := by
  unfold xf_200_0 xb_200_0
  rfl
theorem xc_200_0 : zCd 200 [0, 30, 34, 51, 52] 0 xb_200_0 := zc_aload_n xj_200 1 0 rfl rfl zf_ald_0 (zc_iload_n xj_200 2 1 rfl rfl zf_ild_1 (zc_any xj_200 5 (.invokevirtual 75) [1, 192, 1, 260, 9, 2] rfl rfl (zN1 192 2 zg_192) rfl rfl (zc_aload_n xj_200 6 0 rfl rfl zf_ald_0 (zc_iload_n xj_200 7 2 rfl rfl zf_ild_2 (zc_any xj_200 10 (.invokevirtual 75) [1, 192, 1, 260, 9, 2] rfl rfl (zN1 192 2 zg_192) rfl rfl (zc_ic_eq xj_200 13 24 34 rfl rfl rfl (zc_aload_n xj_200 14 0 rfl rfl zf_ald_0 (zc_iload_n xj_200 15 1 rfl rfl zf_ild_1 (zc_any xj_200 18 (.invokevirtual 75) [1, 192, 1, 260, 9, 2] rfl rfl (zN1 192 2 zg_192) rfl rfl (zc_aload_n xj_200 19 0 rfl rfl zf_ald_0 (zc_iload_n xj_200 20 2 rfl rfl zf_ild_2 (zc_any xj_200 23 (.invokevirtual 75) [1, 192, 1, 260, 9, 2] rfl rfl (zN1 192 2 zg_192) rfl rfl (zc_ic_ge xj_200 26 7 30 rfl rfl rfl (zc_iconst xj_200 27 1 1 rfl rfl rfl (zc_goto xj_200 28 25 52 rfl rfl rfl (trivial))))))))))))))))
noncomputable def xm_200 : Lean.RArray (zE → zKn) := .branch 34 (.branch 30 (.leaf xf_200_0) (.leaf xf_200_1)) (.branch 51 (.leaf xf_200_2) (.branch 52 (.leaf xf_200_3) (.leaf xf_200_4)))
theorem xa_200 : zCdAll 200 [0, 30, 34, 51, 52] xm_200 := zAll2_ok (P := fun t => ∃ c, zCd 200 [0, 30, 34, 51, 52] t c ∧ xm_200.get t = zEx c) ⟨⟨_, xc_200_0, xe_200_0⟩, ⟨_, xc_200_1, xe_200_1⟩, ⟨_, xc_200_2, xe_200_2⟩, ⟨_, xc_200_3, xe_200_3⟩, ⟨_, xc_200_4, xe_200_4⟩, trivial⟩
/-- SquareMeshModel.sideOf -/
theorem xj_201 : ∀ pc, pI 201 pc = pJ_201 pc := fun _ => rfl
noncomputable def xb_201_0 : List zF := [zq_aldg zG0, zq_ildg zG2, zN1 192 2 zg_192, zq_aldg zG0, zq_ildg zG1, zN1 192 2 zg_192, zq_sub, zq_ildg zG4, zq_aldg zG0, zq_ildg zG1, zN1 193 2 zg_193, zq_sub, zq_mul, zq_aldg zG0, zq_ildg zG2, zN1 193 2 zg_193, zq_aldg zG0, zq_ildg zG1, zN1 193 2 zg_193, zq_sub, zq_ildg zG3, zq_aldg zG0, zq_ildg zG1, zN1 192 2 zg_192, zq_sub, zq_mul, zq_sub, zq_iret 0]
noncomputable def xf_201_0 : zE → zKn := fun E => zq_aldg zG0 (zq_ildg zG2 (zN1 192 2 zg_192 (zq_aldg zG0 (zq_ildg zG1 (zN1 192 2 zg_192 (zq_sub (zq_ildg zG4 (zq_aldg zG0 (zq_ildg zG1 (zN1 193 2 zg_193 (zq_sub (zq_mul (zq_aldg zG0 (zq_ildg zG2 (zN1 193 2 zg_193 (zq_aldg zG0 (zq_ildg zG1 (zN1 193 2 zg_193 (zq_sub (zq_ildg zG3 (zq_aldg zG0 (zq_ildg zG1 (zN1 192 2 zg_192 (zq_sub (zq_mul (zq_sub (zq_iret 0 (zNil) E) E) E) E) E) E) E) E) E) E) E) E) E) E) E) E) E) E) E) E) E) E) E) E) E) E) E) E
theorem xe_201_0 : xf_201_0 = zEx xb_201_0 := by
  unfold xf_201_0 xb_201_0
  rfl
theorem xc_201_0 : zCd 201 [0] 0 xb_201_0 := zc_aload_n xj_201 1 0 rfl rfl zf_ald_0 (zc_iload_n xj_201 2 2 rfl rfl zf_ild_2 (zc_any xj_201 5 (.invokevirtual 75) [1, 192, 1, 260, 9, 2] rfl rfl (zN1 192 2 zg_192) rfl rfl (zc_aload_n xj_201 6 0 rfl rfl zf_ald_0 (zc_iload_n xj_201 7 1 rfl rfl zf_ild_1 (zc_any xj_201 10 (.invokevirtual 75) [1, 192, 1, 260, 9, 2] rfl rfl (zN1 192 2 zg_192) rfl rfl (zc_isub xj_201 11 rfl rfl (zc_iload xj_201 13 4 rfl rfl zf_ild_4 (zc_aload_n xj_201 14 0 rfl rfl zf_ald_0 (zc_iload_n xj_201 15 1 rfl rfl zf_ild_1 (zc_any xj_201 18 (.invokevirtual 79) [1, 193, 1, 261, 9, 2] rfl rfl (zN1 193 2 zg_193) rfl rfl (zc_isub xj_201 19 rfl rfl (zc_imul xj_201 20 rfl rfl (zc_aload_n xj_201 21 0 rfl rfl zf_ald_0 (zc_iload_n xj_201 22 2 rfl rfl zf_ild_2 (zc_any xj_201 25 (.invokevirtual 79) [1, 193, 1, 261, 9, 2] rfl rfl (zN1 193 2 zg_193) rfl rfl (zc_aload_n xj_201 26 0 rfl rfl zf_ald_0 (zc_iload_n xj_201 27 1 rfl rfl zf_ild_1 (zc_any xj_201 30 (.invokevirtual 79) [1, 193, 1, 261, 9, 2] rfl rfl (zN1 193 2 zg_193) rfl rfl (zc_isub xj_201 31 rfl rfl (zc_iload_n xj_201 32 3 rfl rfl zf_ild_3 (zc_aload_n xj_201 33 0 rfl rfl zf_ald_0 (zc_iload_n xj_201 34 1 rfl rfl zf_ild_1 (zc_any xj_201 37 (.invokevirtual 75) [1, 192, 1, 260, 9, 2] rfl rfl (zN1 192 2 zg_192) rfl rfl (zc_isub xj_201 38 rfl rfl (zc_imul xj_201 39 rfl rfl (zc_isub xj_201 40 rfl rfl (zc_ireturn0 xj_201 41 rfl rfl (trivial))))))))))))))))))))))))))))
noncomputable def xm_201 : Lean.RArray (zE → zKn) := .leaf xf_201_0
theorem xa_201 : zCdAll 201 [0] xm_201 := zAll2_ok (P := fun t => ∃ c, zCd 201 [0] t c ∧ xm_201.get t = zEx c) ⟨⟨_, xc_201_0, xe_201_0⟩, trivial⟩
/-- SquareMeshModel.turnOf -/
theorem xj_202 : ∀ pc, pI 202 pc = pJ_202 pc := fun _ => rfl
noncomputable def xb_202_0 : List zF := [zq_aldg zG0, zq_ildg zG1, zq_ildg zG2, zq_aldg zG0, zq_ildg zG3, zN1 192 2 zg_192, zq_aldg zG0, zq_ildg zG3, zN1 193 2 zg_193, zq_calli 201 4 9 5, zq_iret 0]
noncomputable def xf_202_0 : zE → zKn := fun E => zq_aldg zG0 (zq_ildg zG1 (zq_ildg zG2 (zq_aldg zG0 (zq_ildg zG3 (zN1 192 2 zg_192 (zq_aldg zG0 (zq_ildg zG3 (zN1 193 2 zg_193 (zq_calli 201 4 9 5 (zq_iret 0 (zNil) E) E) E) E) E) E) E) E) E) E) E
theorem xe_202_0 : xf_202_0 = zEx xb_202_0 := by
  unfold xf_202_0 xb_202_0
  rfl
theorem xc_202_0 : zCd 202 [0] 0 xb_202_0 := zc_aload_n xj_202 1 0 rfl rfl zf_ald_0 (zc_iload_n xj_202 2 1 rfl rfl zf_ild_1 (zc_iload_n xj_202 3 2 rfl rfl zf_ild_2 (zc_aload_n xj_202 4 0 rfl rfl zf_ald_0 (zc_iload_n xj_202 5 3 rfl rfl zf_ild_3 (zc_any xj_202 8 (.invokevirtual 75) [1, 192, 1, 260, 9, 2] rfl rfl (zN1 192 2 zg_192) rfl rfl (zc_aload_n xj_202 9 0 rfl rfl zf_ald_0 (zc_iload_n xj_202 10 3 rfl rfl zf_ild_3 (zc_any xj_202 13 (.invokevirtual 79) [1, 193, 1, 261, 9, 2] rfl rfl (zN1 193 2 zg_193) rfl rfl (zc_invokevirtual1 xj_202 16 82 201 4 259 9 5 rfl rfl rfl rfl (zc_ireturn0 xj_202 17 rfl rfl (trivial)))))))))))
noncomputable def xm_202 : Lean.RArray (zE → zKn) := .leaf xf_202_0
theorem xa_202 : zCdAll 202 [0] xm_202 := zAll2_ok (P := fun t => ∃ c, zCd 202 [0] t c ∧ xm_202.get t = zEx c) ⟨⟨_, xc_202_0, xe_202_0⟩, trivial⟩
