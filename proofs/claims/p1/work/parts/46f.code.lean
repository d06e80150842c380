/-! THE CODE OF EVERY METHOD AS LEAVES, with its proof. By program (wip/tools/mk46.py). -/
/-- SquareMeshModel.keepTriangles -/
theorem xj_333 : ∀ pc, pI 333 pc = pJ_333 pc := fun _ => rfl
noncomputable def xb_333_2 : List zF := [zq_vret]
noncomputable def xf_333_2 : zE → zKn := fun E => zq_vret (zNil) E
theorem xe_333_2 : xf_333_2 = zEx xb_333_2 := by
  unfold xf_333_2 xb_333_2
  rfl
theorem xc_333_2 : zCd 333 [0, 14, 39] 39 xb_333_2 := zc_return_ xj_333 40 rfl rfl (trivial)
noncomputable def xb_333_1 : List zF := [zq_ild 1, zq_ald 0, zq_getf 9 4, zq_ic_ge 39, zq_ald 0, zq_getf 9 15, zq_ild 1, zq_ald 0, zq_ild 1, zq_calli 221 1 9 2, zq_iast, zq_inc 1 1, zq_goto 14]
noncomputable def xf_333_1 : zE → zKn := fun E => zq_ildg zG1 (zq_aldg zG0 (zq_getfg 9 zG4 (zq_ic_ge 39 (zq_aldg zG0 (zq_getfg 9 zG15 (zq_ildg zG1 (zq_aldg zG0 (zq_ildg zG1 (zq_calli 221 1 9 2 (zq_iast (zq_incg zG1 zE1 1 (zq_goto 14 (zNil) E) E) E) E) E) E) E) E) E) E) E) E) E
theorem xe_333_1 : xf_333_1 = zEx xb_333_1 := by
  unfold xf_333_1 xb_333_1
  rfl
theorem xc_333_1 : zCd 333 [0, 14, 39] 14 xb_333_1 := zc_iload_n xj_333 15 1 rfl rfl (zc_aload_n xj_333 16 0 rfl rfl (zc_getf xj_333 19 134 9 4 98 rfl rfl (zc_ic_ge xj_333 22 20 39 rfl rfl rfl (zc_aload_n xj_333 23 0 rfl rfl (zc_getf xj_333 26 48 9 15 109 rfl rfl (zc_iload_n xj_333 27 1 rfl rfl (zc_aload_n xj_333 28 0 rfl rfl (zc_iload_n xj_333 29 1 rfl rfl (zc_invokevirtual1 xj_333 32 153 221 1 280 9 2 rfl rfl rfl rfl (zc_iastore xj_333 33 rfl rfl (zc_iinc xj_333 36 1 1 1 rfl rfl rfl (zc_goto xj_333 37 (-22) 14 rfl rfl rfl (trivial)))))))))))))
noncomputable def xb_333_0 : List zF := zq_ald 0 :: zq_calli 222 0 9 2 :: zq_ald 0 :: zq_ald 0 :: zq_getf 9 4 :: zq_putf 9 16 0 :: zq_k 0 :: zq_ist 1 :: xb_333_1
noncomputable def xf_333_0 : zE → zKn := fun E => zq_aldg zG0 (zq_calli 222 0 9 2 (zq_aldg zG0 (zq_aldg zG0 (zq_getfg 9 zG4 (zq_putf 9 16 0 (zq_k 0 (zq_istg zE1 (xf_333_1 E) E) E) E) E) E) E) E) E
theorem xe_333_0 : xf_333_0 = zEx xb_333_0 := by
  unfold xf_333_0 xb_333_0
  rw [xe_333_1]
  rfl
theorem xc_333_0 : zCd 333 [0, 14, 39] 0 xb_333_0 := zc_aload_n xj_333 1 0 rfl rfl (zc_invokevirtual1 xj_333 4 363 222 0 401 9 2 rfl rfl rfl rfl (zc_aload_n xj_333 5 0 rfl rfl (zc_aload_n xj_333 6 0 rfl rfl (zc_getf xj_333 9 134 9 4 98 rfl rfl (zc_putf xj_333 12 366 9 16 110 0 rfl rfl rfl (zc_iconst xj_333 13 0 0 rfl rfl rfl (zc_istore_n xj_333 14 1 rfl rfl (xc_333_1))))))))
noncomputable def xm_333 : Lean.RArray (zE → zKn) := .branch 14 (.leaf xf_333_0) (.branch 39 (.leaf xf_333_1) (.leaf xf_333_2))
theorem xa_333 : zCdAll 333 [0, 14, 39] xm_333 := zAll2_ok (P := fun t => ∃ c, zCd 333 [0, 14, 39] t c ∧ xm_333.get t = zEx c) ⟨⟨_, xc_333_0, xe_333_0⟩, ⟨_, xc_333_1, xe_333_1⟩, ⟨_, xc_333_2, xe_333_2⟩, trivial⟩
/-- SquareMeshModel.isAmong -/
theorem xj_334 : ∀ pc, pI 334 pc = pJ_334 pc := fun _ => rfl
noncomputable def xb_334_3 : List zF := [zq_k 0, zq_iret 1]
noncomputable def xf_334_3 : zE → zKn := fun E => zq_k 0 (zq_iret 1 (zNil) E) E
theorem xe_334_3 : xf_334_3 = zEx xb_334_3 := by
  unfold xf_334_3 xb_334_3
  rfl
theorem xc_334_3 : zCd 334 [0, 2, 16, 22] 22 xb_334_3 := zc_iconst xj_334 23 0 0 rfl rfl rfl (zc_ireturn1 xj_334 24 rfl rfl (trivial))
noncomputable def xb_334_2 : List zF := [zq_inc 3 1, zq_goto 2]
noncomputable def xf_334_2 : zE → zKn := fun E => zq_incg zG3 zE3 1 (zq_goto 2 (zNil) E) E
theorem xe_334_2 : xf_334_2 = zEx xb_334_2 := by
  unfold xf_334_2 xb_334_2
  rfl
theorem xc_334_2 : zCd 334 [0, 2, 16, 22] 16 xb_334_2 := zc_iinc xj_334 19 3 1 1 rfl rfl rfl (zc_goto xj_334 20 (-17) 2 rfl rfl rfl (trivial))
noncomputable def xb_334_1 : List zF := [zq_ild 3, zq_ild 1, zq_ic_ge 22, zq_ald 0, zq_ild 3, zq_ild_ 0, zq_ild 2, zq_ic_ne 16, zq_k 1, zq_iret 1]
noncomputable def xf_334_1 : zE → zKn := fun E => zq_ildg zG3 (zq_ildg zG1 (zq_ic_ge 22 (zq_aldg zG0 (zq_ildg zG3 (zq_ild_ 0 (zq_ildg zG2 (zq_ic_ne 16 (zq_k 1 (zq_iret 1 (zNil) E) E) E) E) E) E) E) E) E) E
theorem xe_334_1 : xf_334_1 = zEx xb_334_1 := by
  unfold xf_334_1 xb_334_1
  rfl
theorem xc_334_1 : zCd 334 [0, 2, 16, 22] 2 xb_334_1 := zc_iload_n xj_334 3 3 rfl rfl (zc_iload_n xj_334 4 1 rfl rfl (zc_ic_ge xj_334 7 18 22 rfl rfl rfl (zc_aload_n xj_334 8 0 rfl rfl (zc_iload_n xj_334 9 3 rfl rfl (zc_iaload xj_334 10 rfl rfl (zc_iload_n xj_334 11 2 rfl rfl (zc_ic_ne xj_334 14 5 16 rfl rfl rfl (zc_iconst xj_334 15 1 1 rfl rfl rfl (zc_ireturn1 xj_334 16 rfl rfl (trivial))))))))))
noncomputable def xb_334_0 : List zF := zq_k 0 :: zq_ist 3 :: xb_334_1
noncomputable def xf_334_0 : zE → zKn := fun E => zq_k 0 (zq_istg zE3 (xf_334_1 E) E) E
theorem xe_334_0 : xf_334_0 = zEx xb_334_0 := by
  unfold xf_334_0 xb_334_0
  rw [xe_334_1]
  rfl
theorem xc_334_0 : zCd 334 [0, 2, 16, 22] 0 xb_334_0 := zc_iconst xj_334 1 0 0 rfl rfl rfl (zc_istore_n xj_334 2 3 rfl rfl (xc_334_1))
noncomputable def xm_334 : Lean.RArray (zE → zKn) := .branch 16 (.branch 2 (.leaf xf_334_0) (.leaf xf_334_1)) (.branch 22 (.leaf xf_334_2) (.leaf xf_334_3))
theorem xa_334 : zCdAll 334 [0, 2, 16, 22] xm_334 := zAll2_ok (P := fun t => ∃ c, zCd 334 [0, 2, 16, 22] t c ∧ xm_334.get t = zEx c) ⟨⟨_, xc_334_0, xe_334_0⟩, ⟨_, xc_334_1, xe_334_1⟩, ⟨_, xc_334_2, xe_334_2⟩, ⟨_, xc_334_3, xe_334_3⟩, trivial⟩
/-- SquareMeshModel.freshOnes -/
theorem xj_335 : ∀ pc, pI 335 pc = pJ_335 pc := fun _ => rfl
noncomputable def xb_335_4 : List zF := [zq_ald 0, zq_calli 223 0 9 2, zq_ild 1, zq_iret 0]
noncomputable def xf_335_4 : zE → zKn := fun E => zq_aldg zG0 (zq_calli 223 0 9 2 (zq_ildg zG1 (zq_iret 0 (zNil) E) E) E) E
theorem xe_335_4 : xf_335_4 = zEx xb_335_4 := by
  unfold xf_335_4 xb_335_4
  rfl
theorem xc_335_4 : zCd 335 [0, 8, 40, 41, 49] 49 xb_335_4 := zc_aload_n xj_335 50 0 rfl rfl (zc_invokevirtual1 xj_335 53 373 223 0 404 9 2 rfl rfl rfl rfl (zc_iload_n xj_335 54 1 rfl rfl (zc_ireturn0 xj_335 55 rfl rfl (trivial))))
noncomputable def xb_335_3 : List zF := [zq_add, zq_ist 1, zq_inc 2 1, zq_goto 8]
noncomputable def xf_335_3 : zE → zKn := fun E => zq_add (zq_istg zE1 (zq_incg zG2 zE2 1 (zq_goto 8 (zNil) E) E) E) E
theorem xe_335_3 : xf_335_3 = zEx xb_335_3 := by
  unfold xf_335_3 xb_335_3
  rfl
theorem xc_335_3 : zCd 335 [0, 8, 40, 41, 49] 41 xb_335_3 := zc_iadd xj_335 42 rfl rfl (zc_istore_n xj_335 43 1 rfl rfl (zc_iinc xj_335 46 2 1 1 rfl rfl rfl (zc_goto xj_335 47 (-38) 8 rfl rfl rfl (trivial))))
noncomputable def xb_335_2 : List zF := zq_k 1 :: xb_335_3
noncomputable def xf_335_2 : zE → zKn := fun E => zq_k 1 (xf_335_3 E) E
theorem xe_335_2 : xf_335_2 = zEx xb_335_2 := by
  unfold xf_335_2 xb_335_2
  rw [xe_335_3]
  rfl
theorem xc_335_2 : zCd 335 [0, 8, 40, 41, 49] 40 xb_335_2 := zc_iconst xj_335 41 1 1 rfl rfl rfl (xc_335_3)
noncomputable def xb_335_1 : List zF := [zq_ild 2, zq_ald 0, zq_getf 9 4, zq_ic_ge 49, zq_ild 1, zq_ald 0, zq_getf 9 15, zq_ald 0, zq_getf 9 16, zq_ald 0, zq_ild 2, zq_calli 221 1 9 2, zq_calls 334 3 4, zq_if_eq 40, zq_k 0, zq_goto 41]
noncomputable def xf_335_1 : zE → zKn := fun E => zq_ildg zG2 (zq_aldg zG0 (zq_getfg 9 zG4 (zq_ic_ge 49 (zq_ildg zG1 (zq_aldg zG0 (zq_getfg 9 zG15 (zq_aldg zG0 (zq_getfg 9 zG16 (zq_aldg zG0 (zq_ildg zG2 (zq_calli 221 1 9 2 (zq_calls 334 3 4 (zq_if_eq 40 (zq_k 0 (zq_goto 41 (zNil) E) E) E) E) E) E) E) E) E) E) E) E) E) E) E) E
theorem xe_335_1 : xf_335_1 = zEx xb_335_1 := by
  unfold xf_335_1 xb_335_1
  rfl
theorem xc_335_1 : zCd 335 [0, 8, 40, 41, 49] 8 xb_335_1 := zc_iload_n xj_335 9 2 rfl rfl (zc_aload_n xj_335 10 0 rfl rfl (zc_getf xj_335 13 134 9 4 98 rfl rfl (zc_ic_ge xj_335 16 36 49 rfl rfl rfl (zc_iload_n xj_335 17 1 rfl rfl (zc_aload_n xj_335 18 0 rfl rfl (zc_getf xj_335 21 48 9 15 109 rfl rfl (zc_aload_n xj_335 22 0 rfl rfl (zc_getf xj_335 25 366 9 16 110 rfl rfl (zc_aload_n xj_335 26 0 rfl rfl (zc_iload_n xj_335 27 2 rfl rfl (zc_invokevirtual1 xj_335 30 153 221 1 280 9 2 rfl rfl rfl rfl (zc_invokestatic2 xj_335 33 369 334 3 403 0 4 rfl rfl rfl rfl (zc_if_eq xj_335 36 7 40 rfl rfl rfl (zc_iconst xj_335 37 0 0 rfl rfl rfl (zc_goto xj_335 38 4 41 rfl rfl rfl (trivial))))))))))))))))
noncomputable def xb_335_0 : List zF := zq_ald 0 :: zq_calli 219 0 9 5 :: zq_k 0 :: zq_ist 1 :: zq_k 0 :: zq_ist 2 :: xb_335_1
noncomputable def xf_335_0 : zE → zKn := fun E => zq_aldg zG0 (zq_calli 219 0 9 5 (zq_k 0 (zq_istg zE1 (zq_k 0 (zq_istg zE2 (xf_335_1 E) E) E) E) E) E) E
theorem xe_335_0 : xf_335_0 = zEx xb_335_0 := by
  unfold xf_335_0 xb_335_0
  rw [xe_335_1]
  rfl
theorem xc_335_0 : zCd 335 [0, 8, 40, 41, 49] 0 xb_335_0 := zc_aload_n xj_335 1 0 rfl rfl (zc_invokevirtual1 xj_335 4 61 219 0 255 9 5 rfl rfl rfl rfl (zc_iconst xj_335 5 0 0 rfl rfl rfl (zc_istore_n xj_335 6 1 rfl rfl (zc_iconst xj_335 7 0 0 rfl rfl rfl (zc_istore_n xj_335 8 2 rfl rfl (xc_335_1))))))
noncomputable def xm_335 : Lean.RArray (zE → zKn) := .branch 40 (.branch 8 (.leaf xf_335_0) (.leaf xf_335_1)) (.branch 41 (.leaf xf_335_2) (.branch 49 (.leaf xf_335_3) (.leaf xf_335_4)))
theorem xa_335 : zCdAll 335 [0, 8, 40, 41, 49] xm_335 := zAll2_ok (P := fun t => ∃ c, zCd 335 [0, 8, 40, 41, 49] t c ∧ xm_335.get t = zEx c) ⟨⟨_, xc_335_0, xe_335_0⟩, ⟨_, xc_335_1, xe_335_1⟩, ⟨_, xc_335_2, xe_335_2⟩, ⟨_, xc_335_3, xe_335_3⟩, ⟨_, xc_335_4, xe_335_4⟩, trivial⟩
/-- SquareMeshModel.wouldPoint -/
theorem xj_336 : ∀ pc, pI 336 pc = pJ_336 pc := fun _ => rfl
noncomputable def xb_336_1 : List zF := [zq_ald 0, zq_calli 333 0 9 2, zq_ald 0, zq_ild 1, zq_ild 2, zq_calli 230 2 9 4, zq_ist 3, zq_ald 0, zq_calli 335 0 9 3, zq_iret 0]
noncomputable def xf_336_1 : zE → zKn := fun E => zq_aldg zG0 (zq_calli 333 0 9 2 (zq_aldg zG0 (zq_ildg zG1 (zq_ildg zG2 (zq_calli 230 2 9 4 (zq_istg zE3 (zq_aldg zG0 (zq_calli 335 0 9 3 (zq_iret 0 (zNil) E) E) E) E) E) E) E) E) E) E
theorem xe_336_1 : xf_336_1 = zEx xb_336_1 := by
  unfold xf_336_1 xb_336_1
  rfl
theorem xc_336_1 : zCd 336 [0, 11] 11 xb_336_1 := zc_aload_n xj_336 12 0 rfl rfl (zc_invokevirtual1 xj_336 15 376 333 0 400 9 2 rfl rfl rfl rfl (zc_aload_n xj_336 16 0 rfl rfl (zc_iload_n xj_336 17 1 rfl rfl (zc_iload_n xj_336 18 2 rfl rfl (zc_invokevirtual1 xj_336 21 178 230 2 293 9 4 rfl rfl rfl rfl (zc_istore_n xj_336 22 3 rfl rfl (zc_aload_n xj_336 23 0 rfl rfl (zc_invokevirtual1 xj_336 26 379 335 0 402 9 3 rfl rfl rfl rfl (zc_ireturn0 xj_336 27 rfl rfl (trivial))))))))))
noncomputable def xb_336_0 : List zF := [zq_ald 0, zq_ild 1, zq_ild 2, zq_calli 231 2 9 3, zq_if_ne 11, zq_k 4294967295, zq_iret 0]
noncomputable def xf_336_0 : zE → zKn := fun E => zq_aldg zG0 (zq_ildg zG1 (zq_ildg zG2 (zq_calli 231 2 9 3 (zq_if_ne 11 (zq_k 4294967295 (zq_iret 0 (zNil) E) E) E) E) E) E) E
theorem xe_336_0 : xf_336_0 = zEx xb_336_0 := by
  unfold xf_336_0 xb_336_0
  rfl
theorem xc_336_0 : zCd 336 [0, 11] 0 xb_336_0 := zc_aload_n xj_336 1 0 rfl rfl (zc_iload_n xj_336 2 1 rfl rfl (zc_iload_n xj_336 3 2 rfl rfl (zc_invokevirtual1 xj_336 6 175 231 2 290 9 3 rfl rfl rfl rfl (zc_if_ne xj_336 9 5 11 rfl rfl rfl (zc_iconst xj_336 10 (-1) 4294967295 rfl rfl rfl (zc_ireturn0 xj_336 11 rfl rfl (trivial)))))))
noncomputable def xm_336 : Lean.RArray (zE → zKn) := .branch 11 (.leaf xf_336_0) (.leaf xf_336_1)
theorem xa_336 : zCdAll 336 [0, 11] xm_336 := zAll2_ok (P := fun t => ∃ c, zCd 336 [0, 11] t c ∧ xm_336.get t = zEx c) ⟨⟨_, xc_336_0, xe_336_0⟩, ⟨_, xc_336_1, xe_336_1⟩, trivial⟩
/-- SquareMeshModel.wouldDrop -/
theorem xj_337 : ∀ pc, pI 337 pc = pJ_337 pc := fun _ => rfl
noncomputable def xb_337_1 : List zF := [zq_ald 0, zq_calli 333 0 9 2, zq_ald 0, zq_ild 1, zq_calli 235 1 9 3, zq_ald 0, zq_calli 335 0 9 3, zq_iret 0]
noncomputable def xf_337_1 : zE → zKn := fun E => zq_aldg zG0 (zq_calli 333 0 9 2 (zq_aldg zG0 (zq_ildg zG1 (zq_calli 235 1 9 3 (zq_aldg zG0 (zq_calli 335 0 9 3 (zq_iret 0 (zNil) E) E) E) E) E) E) E) E
theorem xe_337_1 : xf_337_1 = zEx xb_337_1 := by
  unfold xf_337_1 xb_337_1
  rfl
theorem xc_337_1 : zCd 337 [0, 10] 10 xb_337_1 := zc_aload_n xj_337 11 0 rfl rfl (zc_invokevirtual1 xj_337 14 376 333 0 400 9 2 rfl rfl rfl rfl (zc_aload_n xj_337 15 0 rfl rfl (zc_iload_n xj_337 16 1 rfl rfl (zc_invokevirtual1 xj_337 19 187 235 1 298 9 3 rfl rfl rfl rfl (zc_aload_n xj_337 20 0 rfl rfl (zc_invokevirtual1 xj_337 23 379 335 0 402 9 3 rfl rfl rfl rfl (zc_ireturn0 xj_337 24 rfl rfl (trivial))))))))
noncomputable def xb_337_0 : List zF := [zq_ald 0, zq_ild 1, zq_calli 234 1 9 2, zq_if_ne 10, zq_k 4294967295, zq_iret 0]
noncomputable def xf_337_0 : zE → zKn := fun E => zq_aldg zG0 (zq_ildg zG1 (zq_calli 234 1 9 2 (zq_if_ne 10 (zq_k 4294967295 (zq_iret 0 (zNil) E) E) E) E) E) E
theorem xe_337_0 : xf_337_0 = zEx xb_337_0 := by
  unfold xf_337_0 xb_337_0
  rfl
theorem xc_337_0 : zCd 337 [0, 10] 0 xb_337_0 := zc_aload_n xj_337 1 0 rfl rfl (zc_iload_n xj_337 2 1 rfl rfl (zc_invokevirtual1 xj_337 5 184 234 1 296 9 2 rfl rfl rfl rfl (zc_if_ne xj_337 8 5 10 rfl rfl rfl (zc_iconst xj_337 9 (-1) 4294967295 rfl rfl rfl (zc_ireturn0 xj_337 10 rfl rfl (trivial))))))
noncomputable def xm_337 : Lean.RArray (zE → zKn) := .branch 10 (.leaf xf_337_0) (.leaf xf_337_1)
theorem xa_337 : zCdAll 337 [0, 10] xm_337 := zAll2_ok (P := fun t => ∃ c, zCd 337 [0, 10] t c ∧ xm_337.get t = zEx c) ⟨⟨_, xc_337_0, xe_337_0⟩, ⟨_, xc_337_1, xe_337_1⟩, trivial⟩
/-- SquareMeshModel.wouldFix -/
theorem xj_338 : ∀ pc, pI 338 pc = pJ_338 pc := fun _ => rfl
noncomputable def xb_338_1 : List zF := [zq_ald 0, zq_calli 333 0 9 2, zq_ald 0, zq_ild 1, zq_ild 2, zq_k 1, zq_calli 197 3 9 4, zq_ald 0, zq_calli 335 0 9 3, zq_iret 0]
noncomputable def xf_338_1 : zE → zKn := fun E => zq_aldg zG0 (zq_calli 333 0 9 2 (zq_aldg zG0 (zq_ildg zG1 (zq_ildg zG2 (zq_k 1 (zq_calli 197 3 9 4 (zq_aldg zG0 (zq_calli 335 0 9 3 (zq_iret 0 (zNil) E) E) E) E) E) E) E) E) E) E
theorem xe_338_1 : xf_338_1 = zEx xb_338_1 := by
  unfold xf_338_1 xb_338_1
  rfl
theorem xc_338_1 : zCd 338 [0, 11] 11 xb_338_1 := zc_aload_n xj_338 12 0 rfl rfl (zc_invokevirtual1 xj_338 15 376 333 0 400 9 2 rfl rfl rfl rfl (zc_aload_n xj_338 16 0 rfl rfl (zc_iload_n xj_338 17 1 rfl rfl (zc_iload_n xj_338 18 2 rfl rfl (zc_iconst xj_338 19 1 1 rfl rfl rfl (zc_invokevirtual1 xj_338 22 58 197 3 254 9 4 rfl rfl rfl rfl (zc_aload_n xj_338 23 0 rfl rfl (zc_invokevirtual1 xj_338 26 379 335 0 402 9 3 rfl rfl rfl rfl (zc_ireturn0 xj_338 27 rfl rfl (trivial))))))))))
noncomputable def xb_338_0 : List zF := [zq_ald 0, zq_ild 1, zq_ild 2, zq_calli 240 2 9 3, zq_if_ne 11, zq_k 4294967295, zq_iret 0]
noncomputable def xf_338_0 : zE → zKn := fun E => zq_aldg zG0 (zq_ildg zG1 (zq_ildg zG2 (zq_calli 240 2 9 3 (zq_if_ne 11 (zq_k 4294967295 (zq_iret 0 (zNil) E) E) E) E) E) E) E
theorem xe_338_0 : xf_338_0 = zEx xb_338_0 := by
  unfold xf_338_0 xb_338_0
  rfl
theorem xc_338_0 : zCd 338 [0, 11] 0 xb_338_0 := zc_aload_n xj_338 1 0 rfl rfl (zc_iload_n xj_338 2 1 rfl rfl (zc_iload_n xj_338 3 2 rfl rfl (zc_invokevirtual1 xj_338 6 197 240 2 302 9 3 rfl rfl rfl rfl (zc_if_ne xj_338 9 5 11 rfl rfl rfl (zc_iconst xj_338 10 (-1) 4294967295 rfl rfl rfl (zc_ireturn0 xj_338 11 rfl rfl (trivial)))))))
noncomputable def xm_338 : Lean.RArray (zE → zKn) := .branch 11 (.leaf xf_338_0) (.leaf xf_338_1)
theorem xa_338 : zCdAll 338 [0, 11] xm_338 := zAll2_ok (P := fun t => ∃ c, zCd 338 [0, 11] t c ∧ xm_338.get t = zEx c) ⟨⟨_, xc_338_0, xe_338_0⟩, ⟨_, xc_338_1, xe_338_1⟩, trivial⟩
/-- SquareMeshModel.wouldFree -/
theorem xj_339 : ∀ pc, pI 339 pc = pJ_339 pc := fun _ => rfl
noncomputable def xb_339_1 : List zF := [zq_ald 0, zq_calli 333 0 9 2, zq_ald 0, zq_ild 1, zq_ild 2, zq_k 0, zq_calli 197 3 9 4, zq_ald 0, zq_calli 335 0 9 3, zq_iret 0]
noncomputable def xf_339_1 : zE → zKn := fun E => zq_aldg zG0 (zq_calli 333 0 9 2 (zq_aldg zG0 (zq_ildg zG1 (zq_ildg zG2 (zq_k 0 (zq_calli 197 3 9 4 (zq_aldg zG0 (zq_calli 335 0 9 3 (zq_iret 0 (zNil) E) E) E) E) E) E) E) E) E) E
theorem xe_339_1 : xf_339_1 = zEx xb_339_1 := by
  unfold xf_339_1 xb_339_1
  rfl
theorem xc_339_1 : zCd 339 [0, 11] 11 xb_339_1 := zc_aload_n xj_339 12 0 rfl rfl (zc_invokevirtual1 xj_339 15 376 333 0 400 9 2 rfl rfl rfl rfl (zc_aload_n xj_339 16 0 rfl rfl (zc_iload_n xj_339 17 1 rfl rfl (zc_iload_n xj_339 18 2 rfl rfl (zc_iconst xj_339 19 0 0 rfl rfl rfl (zc_invokevirtual1 xj_339 22 58 197 3 254 9 4 rfl rfl rfl rfl (zc_aload_n xj_339 23 0 rfl rfl (zc_invokevirtual1 xj_339 26 379 335 0 402 9 3 rfl rfl rfl rfl (zc_ireturn0 xj_339 27 rfl rfl (trivial))))))))))
noncomputable def xb_339_0 : List zF := [zq_ald 0, zq_ild 1, zq_ild 2, zq_calli 242 2 9 3, zq_if_ne 11, zq_k 4294967295, zq_iret 0]
noncomputable def xf_339_0 : zE → zKn := fun E => zq_aldg zG0 (zq_ildg zG1 (zq_ildg zG2 (zq_calli 242 2 9 3 (zq_if_ne 11 (zq_k 4294967295 (zq_iret 0 (zNil) E) E) E) E) E) E) E
theorem xe_339_0 : xf_339_0 = zEx xb_339_0 := by
  unfold xf_339_0 xb_339_0
  rfl
theorem xc_339_0 : zCd 339 [0, 11] 0 xb_339_0 := zc_aload_n xj_339 1 0 rfl rfl (zc_iload_n xj_339 2 1 rfl rfl (zc_iload_n xj_339 3 2 rfl rfl (zc_invokevirtual1 xj_339 6 200 242 2 305 9 3 rfl rfl rfl rfl (zc_if_ne xj_339 9 5 11 rfl rfl rfl (zc_iconst xj_339 10 (-1) 4294967295 rfl rfl rfl (zc_ireturn0 xj_339 11 rfl rfl (trivial)))))))
noncomputable def xm_339 : Lean.RArray (zE → zKn) := .branch 11 (.leaf xf_339_0) (.leaf xf_339_1)
theorem xa_339 : zCdAll 339 [0, 11] xm_339 := zAll2_ok (P := fun t => ∃ c, zCd 339 [0, 11] t c ∧ xm_339.get t = zEx c) ⟨⟨_, xc_339_0, xe_339_0⟩, ⟨_, xc_339_1, xe_339_1⟩, trivial⟩
/-- SquareMeshModel.mean -/
theorem xj_340 : ∀ pc, pI 340 pc = pJ_340 pc := fun _ => rfl
noncomputable def xb_340_6 : List zF := [zq_lld 1, zq_bad, zq_ald 0, zq_calli 258 0 9 4, zq_bad, zq_bad, zq_calls 347 1 2, zq_lret]
noncomputable def xf_340_6 : zE → zKn := fun E => zq_lldg zG1 (zq_bad (zq_aldg zG0 (zq_calli 258 0 9 4 (zq_bad (zq_bad (zq_calls 347 1 2 (zq_lret (zNil) E) E) E) E) E) E) E) E
theorem xe_340_6 : xf_340_6 = zEx xb_340_6 := by
  unfold xf_340_6 xb_340_6
  rfl
theorem xc_340_6 : zCd 340 [0, 4, 13, 41, 42, 50, 56] 56 xb_340_6 := zc_lload_n xj_340 57 1 rfl rfl (zc_any xj_340 58 (.l2d) [] rfl rfl (zq_bad) rfl rfl (zc_aload_n xj_340 59 0 rfl rfl (zc_invokevirtual1 xj_340 62 240 258 0 326 9 4 rfl rfl rfl rfl (zc_any xj_340 63 (.i2d) [] rfl rfl (zq_bad) rfl rfl (zc_any xj_340 64 (.ddiv) [] rfl rfl (zq_bad) rfl rfl (zc_invokestatic2 xj_340 67 382 347 1 409 0 2 rfl rfl rfl rfl (zc_lreturn xj_340 68 rfl rfl (trivial))))))))
noncomputable def xb_340_5 : List zF := [zq_inc 3 1, zq_goto 4]
noncomputable def xf_340_5 : zE → zKn := fun E => zq_incg zG3 zE3 1 (zq_goto 4 (zNil) E) E
theorem xe_340_5 : xf_340_5 = zEx xb_340_5 := by
  unfold xf_340_5 xb_340_5
  rfl
theorem xc_340_5 : zCd 340 [0, 4, 13, 41, 42, 50, 56] 50 xb_340_5 := zc_iinc xj_340 53 3 1 1 rfl rfl rfl (zc_goto xj_340 54 (-49) 4 rfl rfl rfl (trivial))
noncomputable def xb_340_4 : List zF := [zq_ladd, zq_lst 1, zq_inc 4 1, zq_goto 13]
noncomputable def xf_340_4 : zE → zKn := fun E => zq_ladd (zq_lst 1 (zq_incg zG4 zE4 1 (zq_goto 13 (zNil) E) E) E) E
theorem xe_340_4 : xf_340_4 = zEx xb_340_4 := by
  unfold xf_340_4 xb_340_4
  rfl
theorem xc_340_4 : zCd 340 [0, 4, 13, 41, 42, 50, 56] 42 xb_340_4 := zc_ladd xj_340 43 rfl rfl (zc_lstore_n xj_340 44 1 rfl rfl (zc_iinc xj_340 47 4 1 1 rfl rfl rfl (zc_goto xj_340 48 (-34) 13 rfl rfl rfl (trivial))))
noncomputable def xb_340_3 : List zF := zq_kl 0 :: xb_340_4
noncomputable def xf_340_3 : zE → zKn := fun E => zq_kl 0 (xf_340_4 E) E
theorem xe_340_3 : xf_340_3 = zEx xb_340_3 := by
  unfold xf_340_3 xb_340_3
  rw [xe_340_4]
  rfl
theorem xc_340_3 : zCd 340 [0, 4, 13, 41, 42, 50, 56] 41 xb_340_3 := zc_lconst xj_340 42 0 rfl rfl (xc_340_4)
noncomputable def xb_340_2 : List zF := [zq_ild 4, zq_ild 3, zq_ic_ge 50, zq_lld 1, zq_ald 0, zq_ild 3, zq_ild 4, zN2 213 3 zg_213, zq_if_eq 41, zq_ald 0, zq_ild 3, zq_ild 4, zq_calli 204 2 9 3, zq_i2l, zq_goto 42]
noncomputable def xf_340_2 : zE → zKn := fun E => zq_ildg zG4 (zq_ildg zG3 (zq_ic_ge 50 (zq_lldg zG1 (zq_aldg zG0 (zq_ildg zG3 (zq_ildg zG4 (zN2 213 3 zg_213 (zq_if_eq 41 (zq_aldg zG0 (zq_ildg zG3 (zq_ildg zG4 (zq_calli 204 2 9 3 (zq_i2l (zq_goto 42 (zNil) E) E) E) E) E) E) E) E) E) E) E) E) E) E) E
theorem xe_340_2 : xf_340_2 = zEx xb_340_2 := by
  unfold xf_340_2 xb_340_2
  rfl
theorem xc_340_2 : zCd 340 [0, 4, 13, 41, 42, 50, 56] 13 xb_340_2 := zc_iload xj_340 15 4 rfl rfl (zc_iload_n xj_340 16 3 rfl rfl (zc_ic_ge xj_340 19 34 50 rfl rfl rfl (zc_lload_n xj_340 20 1 rfl rfl (zc_aload_n xj_340 21 0 rfl rfl (zc_iload_n xj_340 22 3 rfl rfl (zc_iload xj_340 24 4 rfl rfl (zc_any xj_340 27 (.invokevirtual 234) [1, 213, 2, 321, 9, 3] rfl rfl (zN2 213 3 zg_213) rfl rfl (zc_if_eq xj_340 30 14 41 rfl rfl rfl (zc_aload_n xj_340 31 0 rfl rfl (zc_iload_n xj_340 32 3 rfl rfl (zc_iload xj_340 34 4 rfl rfl (zc_invokevirtual1 xj_340 37 86 204 2 270 9 3 rfl rfl rfl rfl (zc_i2l xj_340 38 rfl rfl (zc_goto xj_340 39 4 42 rfl rfl rfl (trivial)))))))))))))))
noncomputable def xb_340_1 : List zF := zq_ild 3 :: zq_k 40 :: zq_ic_ge 56 :: zq_k 0 :: zq_ist 4 :: xb_340_2
noncomputable def xf_340_1 : zE → zKn := fun E => zq_ildg zG3 (zq_k 40 (zq_ic_ge 56 (zq_k 0 (zq_istg zE4 (xf_340_2 E) E) E) E) E) E
theorem xe_340_1 : xf_340_1 = zEx xb_340_1 := by
  unfold xf_340_1 xb_340_1
  rw [xe_340_2]
  rfl
theorem xc_340_1 : zCd 340 [0, 4, 13, 41, 42, 50, 56] 4 xb_340_1 := zc_iload_n xj_340 5 3 rfl rfl (zc_bipush xj_340 7 40 40 rfl rfl rfl (zc_ic_ge xj_340 10 49 56 rfl rfl rfl (zc_iconst xj_340 11 0 0 rfl rfl rfl (zc_istore xj_340 13 4 rfl rfl (xc_340_2)))))
noncomputable def xb_340_0 : List zF := zq_kl 0 :: zq_lst 1 :: zq_k 0 :: zq_ist 3 :: xb_340_1
noncomputable def xf_340_0 : zE → zKn := fun E => zq_kl 0 (zq_lst 1 (zq_k 0 (zq_istg zE3 (xf_340_1 E) E) E) E) E
theorem xe_340_0 : xf_340_0 = zEx xb_340_0 := by
  unfold xf_340_0 xb_340_0
  rw [xe_340_1]
  rfl
theorem xc_340_0 : zCd 340 [0, 4, 13, 41, 42, 50, 56] 0 xb_340_0 := zc_lconst xj_340 1 0 rfl rfl (zc_lstore_n xj_340 2 1 rfl rfl (zc_iconst xj_340 3 0 0 rfl rfl rfl (zc_istore_n xj_340 4 3 rfl rfl (xc_340_1))))
noncomputable def xm_340 : Lean.RArray (zE → zKn) := .branch 41 (.branch 4 (.leaf xf_340_0) (.branch 13 (.leaf xf_340_1) (.leaf xf_340_2))) (.branch 50 (.branch 42 (.leaf xf_340_3) (.leaf xf_340_4)) (.branch 56 (.leaf xf_340_5) (.leaf xf_340_6)))
theorem xa_340 : zCdAll 340 [0, 4, 13, 41, 42, 50, 56] xm_340 := zAll2_ok (P := fun t => ∃ c, zCd 340 [0, 4, 13, 41, 42, 50, 56] t c ∧ xm_340.get t = zEx c) ⟨⟨_, xc_340_0, xe_340_0⟩, ⟨_, xc_340_1, xe_340_1⟩, ⟨_, xc_340_2, xe_340_2⟩, ⟨_, xc_340_3, xe_340_3⟩, ⟨_, xc_340_4, xe_340_4⟩, ⟨_, xc_340_5, xe_340_5⟩, ⟨_, xc_340_6, xe_340_6⟩, trivial⟩
/-- SquareMeshModel.keepImage -/
theorem xj_341 : ∀ pc, pI 341 pc = pJ_341 pc := fun _ => rfl
noncomputable def xb_341_2 : List zF := [zq_vret]
noncomputable def xf_341_2 : zE → zKn := fun E => zq_vret (zNil) E
theorem xe_341_2 : xf_341_2 = zEx xb_341_2 := by
  unfold xf_341_2 xb_341_2
  rfl
theorem xc_341_2 : zCd 341 [0, 21, 46] 46 xb_341_2 := zc_return_ xj_341 47 rfl rfl (trivial)
noncomputable def xb_341_1 : List zF := [zq_ild 1, zq_ald 0, zq_getf 9 4, zq_ic_ge 46, zq_ald 0, zq_getf 9 17, zq_ild 1, zq_ald 0, zq_ild 1, zq_calli 221 1 9 2, zq_iast, zq_inc 1 1, zq_goto 21]
noncomputable def xf_341_1 : zE → zKn := fun E => zq_ildg zG1 (zq_aldg zG0 (zq_getfg 9 zG4 (zq_ic_ge 46 (zq_aldg zG0 (zq_getfg 9 zG17 (zq_ildg zG1 (zq_aldg zG0 (zq_ildg zG1 (zq_calli 221 1 9 2 (zq_iast (zq_incg zG1 zE1 1 (zq_goto 21 (zNil) E) E) E) E) E) E) E) E) E) E) E) E) E
theorem xe_341_1 : xf_341_1 = zEx xb_341_1 := by
  unfold xf_341_1 xb_341_1
  rfl
theorem xc_341_1 : zCd 341 [0, 21, 46] 21 xb_341_1 := zc_iload_n xj_341 22 1 rfl rfl (zc_aload_n xj_341 23 0 rfl rfl (zc_getf xj_341 26 134 9 4 98 rfl rfl (zc_ic_ge xj_341 29 20 46 rfl rfl rfl (zc_aload_n xj_341 30 0 rfl rfl (zc_getf xj_341 33 51 9 17 111 rfl rfl (zc_iload_n xj_341 34 1 rfl rfl (zc_aload_n xj_341 35 0 rfl rfl (zc_iload_n xj_341 36 1 rfl rfl (zc_invokevirtual1 xj_341 39 153 221 1 280 9 2 rfl rfl rfl rfl (zc_iastore xj_341 40 rfl rfl (zc_iinc xj_341 43 1 1 1 rfl rfl rfl (zc_goto xj_341 44 (-22) 21 rfl rfl rfl (trivial)))))))))))))
noncomputable def xb_341_0 : List zF := zq_ald 0 :: zq_getf 9 0 :: zq_ald 0 :: zq_getf 9 1 :: zq_cpall :: zq_ald 0 :: zq_ald 0 :: zq_getf 9 4 :: zq_putf 9 18 0 :: zq_k 0 :: zq_ist 1 :: xb_341_1
noncomputable def xf_341_0 : zE → zKn := fun E => zq_aldg zG0 (zq_getfg 9 zG0 (zq_aldg zG0 (zq_getfg 9 zG1 (zq_cpall (zq_aldg zG0 (zq_aldg zG0 (zq_getfg 9 zG4 (zq_putf 9 18 0 (zq_k 0 (zq_istg zE1 (xf_341_1 E) E) E) E) E) E) E) E) E) E) E) E
theorem xe_341_0 : xf_341_0 = zEx xb_341_0 := by
  unfold xf_341_0 xb_341_0
  rw [xe_341_1]
  rfl
theorem xc_341_0 : zCd 341 [0, 21, 46] 0 xb_341_0 := zc_aload_n xj_341 1 0 rfl rfl (zc_getf xj_341 4 8 9 0 94 rfl rfl (zc_aload_n xj_341 5 0 rfl rfl (zc_getf xj_341 8 14 9 1 95 rfl rfl (zc_any xj_341 11 (.invokestatic 388) [2, 187, 2, 282, 0, 3] rfl rfl (zq_cpall) rfl rfl (zc_aload_n xj_341 12 0 rfl rfl (zc_aload_n xj_341 13 0 rfl rfl (zc_getf xj_341 16 134 9 4 98 rfl rfl (zc_putf xj_341 19 392 9 18 112 0 rfl rfl rfl (zc_iconst xj_341 20 0 0 rfl rfl rfl (zc_istore_n xj_341 21 1 rfl rfl (xc_341_1)))))))))))
noncomputable def xm_341 : Lean.RArray (zE → zKn) := .branch 21 (.leaf xf_341_0) (.branch 46 (.leaf xf_341_1) (.leaf xf_341_2))
theorem xa_341 : zCdAll 341 [0, 21, 46] xm_341 := zAll2_ok (P := fun t => ∃ c, zCd 341 [0, 21, 46] t c ∧ xm_341.get t = zEx c) ⟨⟨_, xc_341_0, xe_341_0⟩, ⟨_, xc_341_1, xe_341_1⟩, ⟨_, xc_341_2, xe_341_2⟩, trivial⟩
/-- SquareMeshModel.fresh -/
theorem xj_342 : ∀ pc, pI 342 pc = pJ_342 pc := fun _ => rfl
noncomputable def xb_342_4 : List zF := [zq_ild 1, zq_iret 0]
noncomputable def xf_342_4 : zE → zKn := fun E => zq_ildg zG1 (zq_iret 0 (zNil) E) E
theorem xe_342_4 : xf_342_4 = zEx xb_342_4 := by
  unfold xf_342_4 xb_342_4
  rfl
theorem xc_342_4 : zCd 342 [0, 4, 36, 37, 45] 45 xb_342_4 := zc_iload_n xj_342 46 1 rfl rfl (zc_ireturn0 xj_342 47 rfl rfl (trivial))
noncomputable def xb_342_3 : List zF := [zq_add, zq_ist 1, zq_inc 2 1, zq_goto 4]
noncomputable def xf_342_3 : zE → zKn := fun E => zq_add (zq_istg zE1 (zq_incg zG2 zE2 1 (zq_goto 4 (zNil) E) E) E) E
theorem xe_342_3 : xf_342_3 = zEx xb_342_3 := by
  unfold xf_342_3 xb_342_3
  rfl
theorem xc_342_3 : zCd 342 [0, 4, 36, 37, 45] 37 xb_342_3 := zc_iadd xj_342 38 rfl rfl (zc_istore_n xj_342 39 1 rfl rfl (zc_iinc xj_342 42 2 1 1 rfl rfl rfl (zc_goto xj_342 43 (-38) 4 rfl rfl rfl (trivial))))
noncomputable def xb_342_2 : List zF := zq_k 1 :: xb_342_3
noncomputable def xf_342_2 : zE → zKn := fun E => zq_k 1 (xf_342_3 E) E
theorem xe_342_2 : xf_342_2 = zEx xb_342_2 := by
  unfold xf_342_2 xb_342_2
  rw [xe_342_3]
  rfl
theorem xc_342_2 : zCd 342 [0, 4, 36, 37, 45] 36 xb_342_2 := zc_iconst xj_342 37 1 1 rfl rfl rfl (xc_342_3)
noncomputable def xb_342_1 : List zF := [zq_ild 2, zq_ald 0, zq_getf 9 4, zq_ic_ge 45, zq_ild 1, zq_ald 0, zq_getf 9 17, zq_ald 0, zq_getf 9 18, zq_ald 0, zq_ild 2, zq_calli 221 1 9 2, zq_calls 334 3 4, zq_if_eq 36, zq_k 0, zq_goto 37]
noncomputable def xf_342_1 : zE → zKn := fun E => zq_ildg zG2 (zq_aldg zG0 (zq_getfg 9 zG4 (zq_ic_ge 45 (zq_ildg zG1 (zq_aldg zG0 (zq_getfg 9 zG17 (zq_aldg zG0 (zq_getfg 9 zG18 (zq_aldg zG0 (zq_ildg zG2 (zq_calli 221 1 9 2 (zq_calls 334 3 4 (zq_if_eq 36 (zq_k 0 (zq_goto 37 (zNil) E) E) E) E) E) E) E) E) E) E) E) E) E) E) E) E
theorem xe_342_1 : xf_342_1 = zEx xb_342_1 := by
  unfold xf_342_1 xb_342_1
  rfl
theorem xc_342_1 : zCd 342 [0, 4, 36, 37, 45] 4 xb_342_1 := zc_iload_n xj_342 5 2 rfl rfl (zc_aload_n xj_342 6 0 rfl rfl (zc_getf xj_342 9 134 9 4 98 rfl rfl (zc_ic_ge xj_342 12 36 45 rfl rfl rfl (zc_iload_n xj_342 13 1 rfl rfl (zc_aload_n xj_342 14 0 rfl rfl (zc_getf xj_342 17 51 9 17 111 rfl rfl (zc_aload_n xj_342 18 0 rfl rfl (zc_getf xj_342 21 392 9 18 112 rfl rfl (zc_aload_n xj_342 22 0 rfl rfl (zc_iload_n xj_342 23 2 rfl rfl (zc_invokevirtual1 xj_342 26 153 221 1 280 9 2 rfl rfl rfl rfl (zc_invokestatic2 xj_342 29 369 334 3 403 0 4 rfl rfl rfl rfl (zc_if_eq xj_342 32 7 36 rfl rfl rfl (zc_iconst xj_342 33 0 0 rfl rfl rfl (zc_goto xj_342 34 4 37 rfl rfl rfl (trivial))))))))))))))))
noncomputable def xb_342_0 : List zF := zq_k 0 :: zq_ist 1 :: zq_k 0 :: zq_ist 2 :: xb_342_1
noncomputable def xf_342_0 : zE → zKn := fun E => zq_k 0 (zq_istg zE1 (zq_k 0 (zq_istg zE2 (xf_342_1 E) E) E) E) E
theorem xe_342_0 : xf_342_0 = zEx xb_342_0 := by
  unfold xf_342_0 xb_342_0
  rw [xe_342_1]
  rfl
theorem xc_342_0 : zCd 342 [0, 4, 36, 37, 45] 0 xb_342_0 := zc_iconst xj_342 1 0 0 rfl rfl rfl (zc_istore_n xj_342 2 1 rfl rfl (zc_iconst xj_342 3 0 0 rfl rfl rfl (zc_istore_n xj_342 4 2 rfl rfl (xc_342_1))))
noncomputable def xm_342 : Lean.RArray (zE → zKn) := .branch 36 (.branch 4 (.leaf xf_342_0) (.leaf xf_342_1)) (.branch 37 (.leaf xf_342_2) (.branch 45 (.leaf xf_342_3) (.leaf xf_342_4)))
theorem xa_342 : zCdAll 342 [0, 4, 36, 37, 45] xm_342 := zAll2_ok (P := fun t => ∃ c, zCd 342 [0, 4, 36, 37, 45] t c ∧ xm_342.get t = zEx c) ⟨⟨_, xc_342_0, xe_342_0⟩, ⟨_, xc_342_1, xe_342_1⟩, ⟨_, xc_342_2, xe_342_2⟩, ⟨_, xc_342_3, xe_342_3⟩, ⟨_, xc_342_4, xe_342_4⟩, trivial⟩
/-- SquareMeshModel.image -/
theorem xj_343 : ∀ pc, pI 343 pc = pJ_343 pc := fun _ => rfl
noncomputable def xb_343_0 : List zF := [zq_ald 0, zq_calli 341 0 9 2, zq_ald 0, zq_calli 257 0 9 3, zq_iret 0]
noncomputable def xf_343_0 : zE → zKn := fun E => zq_aldg zG0 (zq_calli 341 0 9 2 (zq_aldg zG0 (zq_calli 257 0 9 3 (zq_iret 0 (zNil) E) E) E) E) E
theorem xe_343_0 : xf_343_0 = zEx xb_343_0 := by
  unfold xf_343_0 xb_343_0
  rfl
theorem xc_343_0 : zCd 343 [0] 0 xb_343_0 := zc_aload_n xj_343 1 0 rfl rfl (zc_invokevirtual1 xj_343 4 64 341 0 281 9 2 rfl rfl rfl rfl (zc_aload_n xj_343 5 0 rfl rfl (zc_invokevirtual1 xj_343 8 237 257 0 325 9 3 rfl rfl rfl rfl (zc_ireturn0 xj_343 9 rfl rfl (trivial)))))
noncomputable def xm_343 : Lean.RArray (zE → zKn) := .leaf xf_343_0
theorem xa_343 : zCdAll 343 [0] xm_343 := zAll2_ok (P := fun t => ∃ c, zCd 343 [0] t c ∧ xm_343.get t = zEx c) ⟨⟨_, xc_343_0, xe_343_0⟩, trivial⟩
/-- SquareMeshModel.back -/
theorem xj_344 : ∀ pc, pI 344 pc = pJ_344 pc := fun _ => rfl
noncomputable def xb_344_0 : List zF := [zq_ald 0, zq_getf 9 1, zq_ald 0, zq_getf 9 0, zq_cpall, zq_ald 0, zq_calli 219 0 9 5, zq_ald 0, zq_calli 257 0 9 3, zq_iret 0]
noncomputable def xf_344_0 : zE → zKn := fun E => zq_aldg zG0 (zq_getfg 9 zG1 (zq_aldg zG0 (zq_getfg 9 zG0 (zq_cpall (zq_aldg zG0 (zq_calli 219 0 9 5 (zq_aldg zG0 (zq_calli 257 0 9 3 (zq_iret 0 (zNil) E) E) E) E) E) E) E) E) E) E
theorem xe_344_0 : xf_344_0 = zEx xb_344_0 := by
  unfold xf_344_0 xb_344_0
  rfl
theorem xc_344_0 : zCd 344 [0] 0 xb_344_0 := zc_aload_n xj_344 1 0 rfl rfl (zc_getf xj_344 4 14 9 1 95 rfl rfl (zc_aload_n xj_344 5 0 rfl rfl (zc_getf xj_344 8 8 9 0 94 rfl rfl (zc_any xj_344 11 (.invokestatic 388) [2, 187, 2, 282, 0, 3] rfl rfl (zq_cpall) rfl rfl (zc_aload_n xj_344 12 0 rfl rfl (zc_invokevirtual1 xj_344 15 61 219 0 255 9 5 rfl rfl rfl rfl (zc_aload_n xj_344 16 0 rfl rfl (zc_invokevirtual1 xj_344 19 237 257 0 325 9 3 rfl rfl rfl rfl (zc_ireturn0 xj_344 20 rfl rfl (trivial))))))))))
noncomputable def xm_344 : Lean.RArray (zE → zKn) := .leaf xf_344_0
theorem xa_344 : zCdAll 344 [0] xm_344 := zAll2_ok (P := fun t => ∃ c, zCd 344 [0] t c ∧ xm_344.get t = zEx c) ⟨⟨_, xc_344_0, xe_344_0⟩, trivial⟩
/-- SquareMeshModel.steps -/
theorem xj_345 : ∀ pc, pI 345 pc = pJ_345 pc := fun _ => rfl
noncomputable def xb_345_0 : List zF := [zq_ald 0, zq_getf 9 0, zq_k 0, zq_ild_ 0, zq_iret 0]
noncomputable def xf_345_0 : zE → zKn := fun E => zq_aldg zG0 (zq_getfg 9 zG0 (zq_k 0 (zq_ild_ 0 (zq_iret 0 (zNil) E) E) E) E) E
theorem xe_345_0 : xf_345_0 = zEx xb_345_0 := by
  unfold xf_345_0 xb_345_0
  rfl
theorem xc_345_0 : zCd 345 [0] 0 xb_345_0 := zc_aload_n xj_345 1 0 rfl rfl (zc_getf xj_345 4 8 9 0 94 rfl rfl (zc_iconst xj_345 5 0 0 rfl rfl rfl (zc_iaload xj_345 6 rfl rfl (zc_ireturn0 xj_345 7 rfl rfl (trivial)))))
noncomputable def xm_345 : Lean.RArray (zE → zKn) := .leaf xf_345_0
theorem xa_345 : zCdAll 345 [0] xm_345 := zAll2_ok (P := fun t => ∃ c, zCd 345 [0] t c ∧ xm_345.get t = zEx c) ⟨⟨_, xc_345_0, xe_345_0⟩, trivial⟩
/-- java/lang/Double.isNaN -/
theorem xj_346 : ∀ pc, pI 346 pc = pJ_346 pc := fun _ => rfl
noncomputable def xb_346_2 : List zF := [zq_iret 1]
noncomputable def xf_346_2 : zE → zKn := fun E => zq_iret 1 (zNil) E
theorem xe_346_2 : xf_346_2 = zEx xb_346_2 := by
  unfold xf_346_2 xb_346_2
  rfl
theorem xc_346_2 : zCd 346 [0, 10, 11] 11 xb_346_2 := zc_ireturn1 xj_346 12 rfl rfl (trivial)
noncomputable def xb_346_1 : List zF := zq_k 0 :: xb_346_2
noncomputable def xf_346_1 : zE → zKn := fun E => zq_k 0 (xf_346_2 E) E
theorem xe_346_1 : xf_346_1 = zEx xb_346_1 := by
  unfold xf_346_1 xb_346_1
  rw [xe_346_2]
  rfl
theorem xc_346_1 : zCd 346 [0, 10, 11] 10 xb_346_1 := zc_iconst xj_346 11 0 0 rfl rfl rfl (xc_346_2)
noncomputable def xb_346_0 : List zF := [zq_bad, zq_bad, zq_bad, zq_if_eq 10, zq_k 1, zq_goto 11]
noncomputable def xf_346_0 : zE → zKn := fun E => zq_bad (zq_bad (zq_bad (zq_if_eq 10 (zq_k 1 (zq_goto 11 (zNil) E) E) E) E) E) E
theorem xe_346_0 : xf_346_0 = zEx xb_346_0 := by
  unfold xf_346_0 xb_346_0
  rfl
theorem xc_346_0 : zCd 346 [0, 10, 11] 0 xb_346_0 := zc_any xj_346 1 (.dload_n 0) [] rfl rfl (zq_bad) rfl rfl (zc_any xj_346 2 (.dload_n 0) [] rfl rfl (zq_bad) rfl rfl (zc_any xj_346 3 (.dcmp .l) [] rfl rfl (zq_bad) rfl rfl (zc_if_eq xj_346 6 7 10 rfl rfl rfl (zc_iconst xj_346 7 1 1 rfl rfl rfl (zc_goto xj_346 8 4 11 rfl rfl rfl (trivial))))))
noncomputable def xm_346 : Lean.RArray (zE → zKn) := .branch 10 (.leaf xf_346_0) (.branch 11 (.leaf xf_346_1) (.leaf xf_346_2))
theorem xa_346 : zCdAll 346 [0, 10, 11] xm_346 := zAll2_ok (P := fun t => ∃ c, zCd 346 [0, 10, 11] t c ∧ xm_346.get t = zEx c) ⟨⟨_, xc_346_0, xe_346_0⟩, ⟨_, xc_346_1, xe_346_1⟩, ⟨_, xc_346_2, xe_346_2⟩, trivial⟩
/-- java/lang/Double.doubleToLongBits -/
theorem xj_347 : ∀ pc, pI 347 pc = pJ_347 pc := fun _ => rfl
noncomputable def xb_347_1 : List zF := [zq_kl 9221120237041090560, zq_lret]
noncomputable def xf_347_1 : zE → zKn := fun E => zq_kl 9221120237041090560 (zq_lret (zNil) E) E
theorem xe_347_1 : xf_347_1 = zEx xb_347_1 := by
  unfold xf_347_1 xb_347_1
  rfl
theorem xc_347_1 : zCd 347 [0, 12] 12 xb_347_1 := zc_ldc2_w xj_347 15 137 9221120237041090560 8 rfl rfl rfl (zc_lreturn xj_347 16 rfl rfl (trivial))
noncomputable def xb_347_0 : List zF := [zq_bad, zq_calls 346 1 2, zq_if_ne 12, zq_bad, zq_bad, zq_lret]
noncomputable def xf_347_0 : zE → zKn := fun E => zq_bad (zq_calls 346 1 2 (zq_if_ne 12 (zq_bad (zq_bad (zq_lret (zNil) E) E) E) E) E) E
theorem xe_347_0 : xf_347_0 = zEx xb_347_0 := by
  unfold xf_347_0 xb_347_0
  rfl
theorem xc_347_0 : zCd 347 [0, 12] 0 xb_347_0 := zc_any xj_347 1 (.dload_n 0) [] rfl rfl (zq_bad) rfl rfl (zc_invokestatic2 xj_347 4 122 346 1 410 0 2 rfl rfl rfl rfl (zc_if_ne xj_347 7 8 12 rfl rfl rfl (zc_any xj_347 8 (.dload_n 0) [] rfl rfl (zq_bad) rfl rfl (zc_any xj_347 11 (.invokestatic 134) [8, 0, 1, 411, 0, 0] rfl rfl (zq_bad) rfl rfl (zc_lreturn xj_347 12 rfl rfl (trivial))))))
noncomputable def xm_347 : Lean.RArray (zE → zKn) := .branch 12 (.leaf xf_347_0) (.leaf xf_347_1)
theorem xa_347 : zCdAll 347 [0, 12] xm_347 := zAll2_ok (P := fun t => ∃ c, zCd 347 [0, 12] t c ∧ xm_347.get t = zEx c) ⟨⟨_, xc_347_0, xe_347_0⟩, ⟨_, xc_347_1, xe_347_1⟩, trivial⟩
/-- java/lang/Integer.compare -/
theorem xj_348 : ∀ pc, pI 348 pc = pJ_348 pc := fun _ => rfl
noncomputable def xb_348_3 : List zF := [zq_iret 0]
noncomputable def xf_348_3 : zE → zKn := fun E => zq_iret 0 (zNil) E
theorem xe_348_3 : xf_348_3 = zEx xb_348_3 := by
  unfold xf_348_3 xb_348_3
  rfl
theorem xc_348_3 : zCd 348 [0, 9, 18, 19] 19 xb_348_3 := zc_ireturn0 xj_348 20 rfl rfl (trivial)
noncomputable def xb_348_2 : List zF := zq_k 1 :: xb_348_3
noncomputable def xf_348_2 : zE → zKn := fun E => zq_k 1 (xf_348_3 E) E
theorem xe_348_2 : xf_348_2 = zEx xb_348_2 := by
  unfold xf_348_2 xb_348_2
  rw [xe_348_3]
  rfl
theorem xc_348_2 : zCd 348 [0, 9, 18, 19] 18 xb_348_2 := zc_iconst xj_348 19 1 1 rfl rfl rfl (xc_348_3)
noncomputable def xb_348_1 : List zF := [zq_ild 0, zq_ild 1, zq_ic_ne 18, zq_k 0, zq_goto 19]
noncomputable def xf_348_1 : zE → zKn := fun E => zq_ildg zG0 (zq_ildg zG1 (zq_ic_ne 18 (zq_k 0 (zq_goto 19 (zNil) E) E) E) E) E
theorem xe_348_1 : xf_348_1 = zEx xb_348_1 := by
  unfold xf_348_1 xb_348_1
  rfl
theorem xc_348_1 : zCd 348 [0, 9, 18, 19] 9 xb_348_1 := zc_iload_n xj_348 10 0 rfl rfl (zc_iload_n xj_348 11 1 rfl rfl (zc_ic_ne xj_348 14 7 18 rfl rfl rfl (zc_iconst xj_348 15 0 0 rfl rfl rfl (zc_goto xj_348 16 4 19 rfl rfl rfl (trivial)))))
noncomputable def xb_348_0 : List zF := [zq_ild 0, zq_ild 1, zq_ic_ge 9, zq_k 4294967295, zq_goto 19]
noncomputable def xf_348_0 : zE → zKn := fun E => zq_ildg zG0 (zq_ildg zG1 (zq_ic_ge 9 (zq_k 4294967295 (zq_goto 19 (zNil) E) E) E) E) E
theorem xe_348_0 : xf_348_0 = zEx xb_348_0 := by
  unfold xf_348_0 xb_348_0
  rfl
theorem xc_348_0 : zCd 348 [0, 9, 18, 19] 0 xb_348_0 := zc_iload_n xj_348 1 0 rfl rfl (zc_iload_n xj_348 2 1 rfl rfl (zc_ic_ge xj_348 5 7 9 rfl rfl rfl (zc_iconst xj_348 6 (-1) 4294967295 rfl rfl rfl (zc_goto xj_348 7 13 19 rfl rfl rfl (trivial)))))
noncomputable def xm_348 : Lean.RArray (zE → zKn) := .branch 18 (.branch 9 (.leaf xf_348_0) (.leaf xf_348_1)) (.branch 19 (.leaf xf_348_2) (.leaf xf_348_3))
theorem xa_348 : zCdAll 348 [0, 9, 18, 19] xm_348 := zAll2_ok (P := fun t => ∃ c, zCd 348 [0, 9, 18, 19] t c ∧ xm_348.get t = zEx c) ⟨⟨_, xc_348_0, xe_348_0⟩, ⟨_, xc_348_1, xe_348_1⟩, ⟨_, xc_348_2, xe_348_2⟩, ⟨_, xc_348_3, xe_348_3⟩, trivial⟩
/-- java/lang/Long.compare -/
theorem xj_349 : ∀ pc, pI 349 pc = pJ_349 pc := fun _ => rfl
noncomputable def xb_349_3 : List zF := [zq_iret 0]
noncomputable def xf_349_3 : zE → zKn := fun E => zq_iret 0 (zNil) E
theorem xe_349_3 : xf_349_3 = zEx xb_349_3 := by
  unfold xf_349_3 xb_349_3
  rfl
theorem xc_349_3 : zCd 349 [0, 10, 20, 21] 21 xb_349_3 := zc_ireturn0 xj_349 22 rfl rfl (trivial)
noncomputable def xb_349_2 : List zF := zq_k 1 :: xb_349_3
noncomputable def xf_349_2 : zE → zKn := fun E => zq_k 1 (xf_349_3 E) E
theorem xe_349_2 : xf_349_2 = zEx xb_349_2 := by
  unfold xf_349_2 xb_349_2
  rw [xe_349_3]
  rfl
theorem xc_349_2 : zCd 349 [0, 10, 20, 21] 20 xb_349_2 := zc_iconst xj_349 21 1 1 rfl rfl rfl (xc_349_3)
noncomputable def xb_349_1 : List zF := [zq_lld 0, zq_lld 2, zq_lcmp, zq_if_ne 20, zq_k 0, zq_goto 21]
noncomputable def xf_349_1 : zE → zKn := fun E => zq_lldg zG0 (zq_lldg zG2 (zq_lcmp (zq_if_ne 20 (zq_k 0 (zq_goto 21 (zNil) E) E) E) E) E) E
theorem xe_349_1 : xf_349_1 = zEx xb_349_1 := by
  unfold xf_349_1 xb_349_1
  rfl
theorem xc_349_1 : zCd 349 [0, 10, 20, 21] 10 xb_349_1 := zc_lload_n xj_349 11 0 rfl rfl (zc_lload_n xj_349 12 2 rfl rfl (zc_lcmp xj_349 13 rfl rfl (zc_if_ne xj_349 16 7 20 rfl rfl rfl (zc_iconst xj_349 17 0 0 rfl rfl rfl (zc_goto xj_349 18 4 21 rfl rfl rfl (trivial))))))
noncomputable def xb_349_0 : List zF := [zq_lld 0, zq_lld 2, zq_lcmp, zq_if_ge 10, zq_k 4294967295, zq_goto 21]
noncomputable def xf_349_0 : zE → zKn := fun E => zq_lldg zG0 (zq_lldg zG2 (zq_lcmp (zq_if_ge 10 (zq_k 4294967295 (zq_goto 21 (zNil) E) E) E) E) E) E
theorem xe_349_0 : xf_349_0 = zEx xb_349_0 := by
  unfold xf_349_0 xb_349_0
  rfl
theorem xc_349_0 : zCd 349 [0, 10, 20, 21] 0 xb_349_0 := zc_lload_n xj_349 1 0 rfl rfl (zc_lload_n xj_349 2 2 rfl rfl (zc_lcmp xj_349 3 rfl rfl (zc_if_ge xj_349 6 7 10 rfl rfl rfl (zc_iconst xj_349 7 (-1) 4294967295 rfl rfl rfl (zc_goto xj_349 8 14 21 rfl rfl rfl (trivial))))))
noncomputable def xm_349 : Lean.RArray (zE → zKn) := .branch 20 (.branch 10 (.leaf xf_349_0) (.leaf xf_349_1)) (.branch 21 (.leaf xf_349_2) (.leaf xf_349_3))
theorem xa_349 : zCdAll 349 [0, 10, 20, 21] xm_349 := zAll2_ok (P := fun t => ∃ c, zCd 349 [0, 10, 20, 21] t c ∧ xm_349.get t = zEx c) ⟨⟨_, xc_349_0, xe_349_0⟩, ⟨_, xc_349_1, xe_349_1⟩, ⟨_, xc_349_2, xe_349_2⟩, ⟨_, xc_349_3, xe_349_3⟩, trivial⟩
/-- java/lang/Long.bitCount -/
theorem xj_350 : ∀ pc, pI 350 pc = pJ_350 pc := fun _ => rfl
noncomputable def xb_350_0 : List zF := [zq_lld 0, zq_lld 0, zq_k 1, zq_lushr, zq_kl 6148914691236517205, zq_land, zq_lsub, zq_lst 0, zq_lld 0, zq_kl 3689348814741910323, zq_land, zq_lld 0, zq_k 2, zq_lushr, zq_kl 3689348814741910323, zq_land, zq_ladd, zq_lst 0, zq_lld 0, zq_lld 0, zq_k 4, zq_lushr, zq_ladd, zq_kl 1085102592571150095, zq_land, zq_lst 0, zq_lld 0, zq_lld 0, zq_k 8, zq_lushr, zq_ladd, zq_lst 0, zq_lld 0, zq_lld 0, zq_k 16, zq_lushr, zq_ladd, zq_lst 0, zq_lld 0, zq_lld 0, zq_k 32, zq_lushr, zq_ladd, zq_lst 0, zq_lld 0, zq_l2i, zq_k 127, zq_and, zq_iret 0]
noncomputable def xf_350_0 : zE → zKn := fun E => zq_lldg zG0 (zq_lldg zG0 (zq_k 1 (zq_lushr (zq_kl 6148914691236517205 (zq_land (zq_lsub (zq_lst 0 (zq_lldg zG0 (zq_kl 3689348814741910323 (zq_land (zq_lldg zG0 (zq_k 2 (zq_lushr (zq_kl 3689348814741910323 (zq_land (zq_ladd (zq_lst 0 (zq_lldg zG0 (zq_lldg zG0 (zq_k 4 (zq_lushr (zq_ladd (zq_kl 1085102592571150095 (zq_land (zq_lst 0 (zq_lldg zG0 (zq_lldg zG0 (zq_k 8 (zq_lushr (zq_ladd (zq_lst 0 (zq_lldg zG0 (zq_lldg zG0 (zq_k 16 (zq_lushr (zq_ladd (zq_lst 0 (zq_lldg zG0 (zq_lldg zG0 (zq_k 32 (zq_lushr (zq_ladd (zq_lst 0 (zq_lldg zG0 (zq_l2i (zq_k 127 (zq_and (zq_iret 0 (zNil) E) E) E) E) E) E) E) E) E) E) E) E) E) E) E) E) E) E) E) E) E) E) E) E) E) E) E) E) E) E) E) E) E) E) E) E) E) E) E) E) E) E) E) E) E) E) E) E) E
theorem xe_350_0 : xf_350_0 = zEx xb_350_0 := by
  unfold xf_350_0 xb_350_0
  rfl
theorem xc_350_0 : zCd 350 [0] 0 xb_350_0 := zc_lload_n xj_350 1 0 rfl rfl (zc_lload_n xj_350 2 0 rfl rfl (zc_iconst xj_350 3 1 1 rfl rfl rfl (zc_lushr xj_350 4 rfl rfl (zc_ldc2_w xj_350 7 314 6148914691236517205 2 rfl rfl rfl (zc_land xj_350 8 rfl rfl (zc_lsub xj_350 9 rfl rfl (zc_lstore_n xj_350 10 0 rfl rfl (zc_lload_n xj_350 11 0 rfl rfl (zc_ldc2_w xj_350 14 316 3689348814741910323 3 rfl rfl rfl (zc_land xj_350 15 rfl rfl (zc_lload_n xj_350 16 0 rfl rfl (zc_iconst xj_350 17 2 2 rfl rfl rfl (zc_lushr xj_350 18 rfl rfl (zc_ldc2_w xj_350 21 316 3689348814741910323 3 rfl rfl rfl (zc_land xj_350 22 rfl rfl (zc_ladd xj_350 23 rfl rfl (zc_lstore_n xj_350 24 0 rfl rfl (zc_lload_n xj_350 25 0 rfl rfl (zc_lload_n xj_350 26 0 rfl rfl (zc_iconst xj_350 27 4 4 rfl rfl rfl (zc_lushr xj_350 28 rfl rfl (zc_ladd xj_350 29 rfl rfl (zc_ldc2_w xj_350 32 318 1085102592571150095 4 rfl rfl rfl (zc_land xj_350 33 rfl rfl (zc_lstore_n xj_350 34 0 rfl rfl (zc_lload_n xj_350 35 0 rfl rfl (zc_lload_n xj_350 36 0 rfl rfl (zc_bipush xj_350 38 8 8 rfl rfl rfl (zc_lushr xj_350 39 rfl rfl (zc_ladd xj_350 40 rfl rfl (zc_lstore_n xj_350 41 0 rfl rfl (zc_lload_n xj_350 42 0 rfl rfl (zc_lload_n xj_350 43 0 rfl rfl (zc_bipush xj_350 45 16 16 rfl rfl rfl (zc_lushr xj_350 46 rfl rfl (zc_ladd xj_350 47 rfl rfl (zc_lstore_n xj_350 48 0 rfl rfl (zc_lload_n xj_350 49 0 rfl rfl (zc_lload_n xj_350 50 0 rfl rfl (zc_bipush xj_350 52 32 32 rfl rfl rfl (zc_lushr xj_350 53 rfl rfl (zc_ladd xj_350 54 rfl rfl (zc_lstore_n xj_350 55 0 rfl rfl (zc_lload_n xj_350 56 0 rfl rfl (zc_l2i xj_350 57 rfl rfl (zc_bipush xj_350 59 127 127 rfl rfl rfl (zc_iand xj_350 60 rfl rfl (zc_ireturn0 xj_350 61 rfl rfl (trivial)))))))))))))))))))))))))))))))))))))))))))))))))
noncomputable def xm_350 : Lean.RArray (zE → zKn) := .leaf xf_350_0
theorem xa_350 : zCdAll 350 [0] xm_350 := zAll2_ok (P := fun t => ∃ c, zCd 350 [0] t c ∧ xm_350.get t = zEx c) ⟨⟨_, xc_350_0, xe_350_0⟩, trivial⟩
/-- java/lang/Math.floorDiv -/
theorem xj_351 : ∀ pc, pI 351 pc = pJ_351 pc := fun _ => rfl
noncomputable def xb_351_1 : List zF := [zq_ild 2, zq_iret 0]
noncomputable def xf_351_1 : zE → zKn := fun E => zq_ildg zG2 (zq_iret 0 (zNil) E) E
theorem xe_351_1 : xf_351_1 = zEx xb_351_1 := by
  unfold xf_351_1 xb_351_1
  rfl
theorem xc_351_1 : zCd 351 [0, 21] 21 xb_351_1 := zc_iload_n xj_351 22 2 rfl rfl (zc_ireturn0 xj_351 23 rfl rfl (trivial))
noncomputable def xb_351_0 : List zF := [zq_ild 0, zq_ild 1, zq_div, zq_ist 2, zq_ild 0, zq_ild 1, zq_xor, zq_if_ge 21, zq_ild 2, zq_ild 1, zq_mul, zq_ild 0, zq_ic_eq 21, zq_ild 2, zq_k 1, zq_sub, zq_iret 0]
noncomputable def xf_351_0 : zE → zKn := fun E => zq_ildg zG0 (zq_ildg zG1 (zq_div (zq_istg zE2 (zq_ildg zG0 (zq_ildg zG1 (zq_xor (zq_if_ge 21 (zq_ildg zG2 (zq_ildg zG1 (zq_mul (zq_ildg zG0 (zq_ic_eq 21 (zq_ildg zG2 (zq_k 1 (zq_sub (zq_iret 0 (zNil) E) E) E) E) E) E) E) E) E) E) E) E) E) E) E) E) E
theorem xe_351_0 : xf_351_0 = zEx xb_351_0 := by
  unfold xf_351_0 xb_351_0
  rfl
theorem xc_351_0 : zCd 351 [0, 21] 0 xb_351_0 := zc_iload_n xj_351 1 0 rfl rfl (zc_iload_n xj_351 2 1 rfl rfl (zc_idiv xj_351 3 rfl rfl (zc_istore_n xj_351 4 2 rfl rfl (zc_iload_n xj_351 5 0 rfl rfl (zc_iload_n xj_351 6 1 rfl rfl (zc_ixor xj_351 7 rfl rfl (zc_if_ge xj_351 10 14 21 rfl rfl rfl (zc_iload_n xj_351 11 2 rfl rfl (zc_iload_n xj_351 12 1 rfl rfl (zc_imul xj_351 13 rfl rfl (zc_iload_n xj_351 14 0 rfl rfl (zc_ic_eq xj_351 17 7 21 rfl rfl rfl (zc_iload_n xj_351 18 2 rfl rfl (zc_iconst xj_351 19 1 1 rfl rfl rfl (zc_isub xj_351 20 rfl rfl (zc_ireturn0 xj_351 21 rfl rfl (trivial)))))))))))))))))
noncomputable def xm_351 : Lean.RArray (zE → zKn) := .branch 21 (.leaf xf_351_0) (.leaf xf_351_1)
theorem xa_351 : zCdAll 351 [0, 21] xm_351 := zAll2_ok (P := fun t => ∃ c, zCd 351 [0, 21] t c ∧ xm_351.get t = zEx c) ⟨⟨_, xc_351_0, xe_351_0⟩, ⟨_, xc_351_1, xe_351_1⟩, trivial⟩
/-- java/lang/Math.floorDiv -/
theorem xj_352 : ∀ pc, pI 352 pc = pJ_352 pc := fun _ => rfl
noncomputable def xb_352_1 : List zF := [zq_lld 4, zq_lret]
noncomputable def xf_352_1 : zE → zKn := fun E => zq_lldg zG4 (zq_lret (zNil) E) E
theorem xe_352_1 : xf_352_1 = zEx xb_352_1 := by
  unfold xf_352_1 xb_352_1
  rfl
theorem xc_352_1 : zCd 352 [0, 27] 27 xb_352_1 := zc_lload xj_352 29 4 rfl rfl (zc_lreturn xj_352 30 rfl rfl (trivial))
noncomputable def xb_352_0 : List zF := [zq_lld 0, zq_lld 2, zq_ldiv, zq_lst 4, zq_lld 0, zq_lld 2, zq_lxor, zq_kl 0, zq_lcmp, zq_if_ge 27, zq_lld 4, zq_lld 2, zq_lmul, zq_lld 0, zq_lcmp, zq_if_eq 27, zq_lld 4, zq_kl 1, zq_lsub, zq_lret]
noncomputable def xf_352_0 : zE → zKn := fun E => zq_lldg zG0 (zq_lldg zG2 (zq_ldiv (zq_lst 4 (zq_lldg zG0 (zq_lldg zG2 (zq_lxor (zq_kl 0 (zq_lcmp (zq_if_ge 27 (zq_lldg zG4 (zq_lldg zG2 (zq_lmul (zq_lldg zG0 (zq_lcmp (zq_if_eq 27 (zq_lldg zG4 (zq_kl 1 (zq_lsub (zq_lret (zNil) E) E) E) E) E) E) E) E) E) E) E) E) E) E) E) E) E) E) E) E
theorem xe_352_0 : xf_352_0 = zEx xb_352_0 := by
  unfold xf_352_0 xb_352_0
  rfl
theorem xc_352_0 : zCd 352 [0, 27] 0 xb_352_0 := zc_lload_n xj_352 1 0 rfl rfl (zc_lload_n xj_352 2 2 rfl rfl (zc_ldiv xj_352 3 rfl rfl (zc_lstore xj_352 5 4 rfl rfl (zc_lload_n xj_352 6 0 rfl rfl (zc_lload_n xj_352 7 2 rfl rfl (zc_lxor xj_352 8 rfl rfl (zc_lconst xj_352 9 0 rfl rfl (zc_lcmp xj_352 10 rfl rfl (zc_if_ge xj_352 13 17 27 rfl rfl rfl (zc_lload xj_352 15 4 rfl rfl (zc_lload_n xj_352 16 2 rfl rfl (zc_lmul xj_352 17 rfl rfl (zc_lload_n xj_352 18 0 rfl rfl (zc_lcmp xj_352 19 rfl rfl (zc_if_eq xj_352 22 8 27 rfl rfl rfl (zc_lload xj_352 24 4 rfl rfl (zc_lconst xj_352 25 1 rfl rfl (zc_lsub xj_352 26 rfl rfl (zc_lreturn xj_352 27 rfl rfl (trivial))))))))))))))))))))
noncomputable def xm_352 : Lean.RArray (zE → zKn) := .branch 27 (.leaf xf_352_0) (.leaf xf_352_1)
theorem xa_352 : zCdAll 352 [0, 27] xm_352 := zAll2_ok (P := fun t => ∃ c, zCd 352 [0, 27] t c ∧ xm_352.get t = zEx c) ⟨⟨_, xc_352_0, xe_352_0⟩, ⟨_, xc_352_1, xe_352_1⟩, trivial⟩
/-- java/lang/Math.abs -/
theorem xj_353 : ∀ pc, pI 353 pc = pJ_353 pc := fun _ => rfl
noncomputable def xb_353_2 : List zF := [zq_iret 0]
noncomputable def xf_353_2 : zE → zKn := fun E => zq_iret 0 (zNil) E
theorem xe_353_2 : xf_353_2 = zEx xb_353_2 := by
  unfold xf_353_2 xb_353_2
  rfl
theorem xc_353_2 : zCd 353 [0, 9, 10] 10 xb_353_2 := zc_ireturn0 xj_353 11 rfl rfl (trivial)
noncomputable def xb_353_1 : List zF := zq_ild 0 :: xb_353_2
noncomputable def xf_353_1 : zE → zKn := fun E => zq_ildg zG0 (xf_353_2 E) E
theorem xe_353_1 : xf_353_1 = zEx xb_353_1 := by
  unfold xf_353_1 xb_353_1
  rw [xe_353_2]
  rfl
theorem xc_353_1 : zCd 353 [0, 9, 10] 9 xb_353_1 := zc_iload_n xj_353 10 0 rfl rfl (xc_353_2)
noncomputable def xb_353_0 : List zF := [zq_ild 0, zq_if_ge 9, zq_ild 0, zq_neg, zq_goto 10]
noncomputable def xf_353_0 : zE → zKn := fun E => zq_ildg zG0 (zq_if_ge 9 (zq_ildg zG0 (zq_neg (zq_goto 10 (zNil) E) E) E) E) E
theorem xe_353_0 : xf_353_0 = zEx xb_353_0 := by
  unfold xf_353_0 xb_353_0
  rfl
theorem xc_353_0 : zCd 353 [0, 9, 10] 0 xb_353_0 := zc_iload_n xj_353 1 0 rfl rfl (zc_if_ge xj_353 4 8 9 rfl rfl rfl (zc_iload_n xj_353 5 0 rfl rfl (zc_ineg xj_353 6 rfl rfl (zc_goto xj_353 7 4 10 rfl rfl rfl (trivial)))))
noncomputable def xm_353 : Lean.RArray (zE → zKn) := .branch 9 (.leaf xf_353_0) (.branch 10 (.leaf xf_353_1) (.leaf xf_353_2))
theorem xa_353 : zCdAll 353 [0, 9, 10] xm_353 := zAll2_ok (P := fun t => ∃ c, zCd 353 [0, 9, 10] t c ∧ xm_353.get t = zEx c) ⟨⟨_, xc_353_0, xe_353_0⟩, ⟨_, xc_353_1, xe_353_1⟩, ⟨_, xc_353_2, xe_353_2⟩, trivial⟩
/-- java/lang/Math.max -/
theorem xj_354 : ∀ pc, pI 354 pc = pJ_354 pc := fun _ => rfl
noncomputable def xb_354_2 : List zF := [zq_iret 0]
noncomputable def xf_354_2 : zE → zKn := fun E => zq_iret 0 (zNil) E
theorem xe_354_2 : xf_354_2 = zEx xb_354_2 := by
  unfold xf_354_2 xb_354_2
  rfl
theorem xc_354_2 : zCd 354 [0, 9, 10] 10 xb_354_2 := zc_ireturn0 xj_354 11 rfl rfl (trivial)
noncomputable def xb_354_1 : List zF := zq_ild 1 :: xb_354_2
noncomputable def xf_354_1 : zE → zKn := fun E => zq_ildg zG1 (xf_354_2 E) E
theorem xe_354_1 : xf_354_1 = zEx xb_354_1 := by
  unfold xf_354_1 xb_354_1
  rw [xe_354_2]
  rfl
theorem xc_354_1 : zCd 354 [0, 9, 10] 9 xb_354_1 := zc_iload_n xj_354 10 1 rfl rfl (xc_354_2)
noncomputable def xb_354_0 : List zF := [zq_ild 0, zq_ild 1, zq_ic_lt 9, zq_ild 0, zq_goto 10]
noncomputable def xf_354_0 : zE → zKn := fun E => zq_ildg zG0 (zq_ildg zG1 (zq_ic_lt 9 (zq_ildg zG0 (zq_goto 10 (zNil) E) E) E) E) E
theorem xe_354_0 : xf_354_0 = zEx xb_354_0 := by
  unfold xf_354_0 xb_354_0
  rfl
theorem xc_354_0 : zCd 354 [0, 9, 10] 0 xb_354_0 := zc_iload_n xj_354 1 0 rfl rfl (zc_iload_n xj_354 2 1 rfl rfl (zc_ic_lt xj_354 5 7 9 rfl rfl rfl (zc_iload_n xj_354 6 0 rfl rfl (zc_goto xj_354 7 4 10 rfl rfl rfl (trivial)))))
noncomputable def xm_354 : Lean.RArray (zE → zKn) := .branch 9 (.leaf xf_354_0) (.branch 10 (.leaf xf_354_1) (.leaf xf_354_2))
theorem xa_354 : zCdAll 354 [0, 9, 10] xm_354 := zAll2_ok (P := fun t => ∃ c, zCd 354 [0, 9, 10] t c ∧ xm_354.get t = zEx c) ⟨⟨_, xc_354_0, xe_354_0⟩, ⟨_, xc_354_1, xe_354_1⟩, ⟨_, xc_354_2, xe_354_2⟩, trivial⟩
/-- java/util/Arrays.fill -/
theorem xj_355 : ∀ pc, pI 355 pc = pJ_355 pc := fun _ => rfl
noncomputable def xb_355_2 : List zF := [zq_vret]
noncomputable def xf_355_2 : zE → zKn := fun E => zq_vret (zNil) E
theorem xe_355_2 : xf_355_2 = zEx xb_355_2 := by
  unfold xf_355_2 xb_355_2
  rfl
theorem xc_355_2 : zCd 355 [0, 6, 22] 22 xb_355_2 := zc_return_ xj_355 23 rfl rfl (trivial)
noncomputable def xb_355_1 : List zF := [zq_ild 3, zq_ild 4, zq_ic_ge 22, zq_ald 0, zq_ild 3, zq_lld 1, zq_last, zq_inc 3 1, zq_goto 6]
noncomputable def xf_355_1 : zE → zKn := fun E => zq_ildg zG3 (zq_ildg zG4 (zq_ic_ge 22 (zq_aldg zG0 (zq_ildg zG3 (zq_lldg zG1 (zq_last (zq_incg zG3 zE3 1 (zq_goto 6 (zNil) E) E) E) E) E) E) E) E) E
theorem xe_355_1 : xf_355_1 = zEx xb_355_1 := by
  unfold xf_355_1 xb_355_1
  rfl
theorem xc_355_1 : zCd 355 [0, 6, 22] 6 xb_355_1 := zc_iload_n xj_355 7 3 rfl rfl (zc_iload xj_355 9 4 rfl rfl (zc_ic_ge xj_355 12 13 22 rfl rfl rfl (zc_aload_n xj_355 13 0 rfl rfl (zc_iload_n xj_355 14 3 rfl rfl (zc_lload_n xj_355 15 1 rfl rfl (zc_lastore xj_355 16 rfl rfl (zc_iinc xj_355 19 3 1 1 rfl rfl rfl (zc_goto xj_355 20 (-13) 6 rfl rfl rfl (trivial)))))))))
noncomputable def xb_355_0 : List zF := zq_k 0 :: zq_ist 3 :: zq_ald 0 :: zq_len :: zq_ist 4 :: xb_355_1
noncomputable def xf_355_0 : zE → zKn := fun E => zq_k 0 (zq_istg zE3 (zq_aldg zG0 (zq_len (zq_istg zE4 (xf_355_1 E) E) E) E) E) E
theorem xe_355_0 : xf_355_0 = zEx xb_355_0 := by
  unfold xf_355_0 xb_355_0
  rw [xe_355_1]
  rfl
theorem xc_355_0 : zCd 355 [0, 6, 22] 0 xb_355_0 := zc_iconst xj_355 1 0 0 rfl rfl rfl (zc_istore_n xj_355 2 3 rfl rfl (zc_aload_n xj_355 3 0 rfl rfl (zc_arraylength xj_355 4 rfl rfl (zc_istore xj_355 6 4 rfl rfl (xc_355_1)))))
noncomputable def xm_355 : Lean.RArray (zE → zKn) := .branch 6 (.leaf xf_355_0) (.branch 22 (.leaf xf_355_1) (.leaf xf_355_2))
theorem xa_355 : zCdAll 355 [0, 6, 22] xm_355 := zAll2_ok (P := fun t => ∃ c, zCd 355 [0, 6, 22] t c ∧ xm_355.get t = zEx c) ⟨⟨_, xc_355_0, xe_355_0⟩, ⟨_, xc_355_1, xe_355_1⟩, ⟨_, xc_355_2, xe_355_2⟩, trivial⟩
/-- java/util/Arrays.fill -/
theorem xj_356 : ∀ pc, pI 356 pc = pJ_356 pc := fun _ => rfl
noncomputable def xb_356_2 : List zF := [zq_vret]
noncomputable def xf_356_2 : zE → zKn := fun E => zq_vret (zNil) E
theorem xe_356_2 : xf_356_2 = zEx xb_356_2 := by
  unfold xf_356_2 xb_356_2
  rfl
theorem xc_356_2 : zCd 356 [0, 5, 20] 20 xb_356_2 := zc_return_ xj_356 21 rfl rfl (trivial)
noncomputable def xb_356_1 : List zF := [zq_ild 2, zq_ild 3, zq_ic_ge 20, zq_ald 0, zq_ild 2, zq_ild 1, zq_iast, zq_inc 2 1, zq_goto 5]
noncomputable def xf_356_1 : zE → zKn := fun E => zq_ildg zG2 (zq_ildg zG3 (zq_ic_ge 20 (zq_aldg zG0 (zq_ildg zG2 (zq_ildg zG1 (zq_iast (zq_incg zG2 zE2 1 (zq_goto 5 (zNil) E) E) E) E) E) E) E) E) E
theorem xe_356_1 : xf_356_1 = zEx xb_356_1 := by
  unfold xf_356_1 xb_356_1
  rfl
theorem xc_356_1 : zCd 356 [0, 5, 20] 5 xb_356_1 := zc_iload_n xj_356 6 2 rfl rfl (zc_iload_n xj_356 7 3 rfl rfl (zc_ic_ge xj_356 10 13 20 rfl rfl rfl (zc_aload_n xj_356 11 0 rfl rfl (zc_iload_n xj_356 12 2 rfl rfl (zc_iload_n xj_356 13 1 rfl rfl (zc_iastore xj_356 14 rfl rfl (zc_iinc xj_356 17 2 1 1 rfl rfl rfl (zc_goto xj_356 18 (-12) 5 rfl rfl rfl (trivial)))))))))
noncomputable def xb_356_0 : List zF := zq_k 0 :: zq_ist 2 :: zq_ald 0 :: zq_len :: zq_ist 3 :: xb_356_1
noncomputable def xf_356_0 : zE → zKn := fun E => zq_k 0 (zq_istg zE2 (zq_aldg zG0 (zq_len (zq_istg zE3 (xf_356_1 E) E) E) E) E) E
theorem xe_356_0 : xf_356_0 = zEx xb_356_0 := by
  unfold xf_356_0 xb_356_0
  rw [xe_356_1]
  rfl
theorem xc_356_0 : zCd 356 [0, 5, 20] 0 xb_356_0 := zc_iconst xj_356 1 0 0 rfl rfl rfl (zc_istore_n xj_356 2 2 rfl rfl (zc_aload_n xj_356 3 0 rfl rfl (zc_arraylength xj_356 4 rfl rfl (zc_istore_n xj_356 5 3 rfl rfl (xc_356_1)))))
noncomputable def xm_356 : Lean.RArray (zE → zKn) := .branch 5 (.leaf xf_356_0) (.branch 20 (.leaf xf_356_1) (.leaf xf_356_2))
theorem xa_356 : zCdAll 356 [0, 5, 20] xm_356 := zAll2_ok (P := fun t => ∃ c, zCd 356 [0, 5, 20] t c ∧ xm_356.get t = zEx c) ⟨⟨_, xc_356_0, xe_356_0⟩, ⟨_, xc_356_1, xe_356_1⟩, ⟨_, xc_356_2, xe_356_2⟩, trivial⟩
