/-! THE CODE OF EVERY METHOD AS LEAVES, with its proof. By program (wip/tools/mk46.py). -/
/-- SquareMeshModel.triangle -/
theorem xj_269 : ∀ pc, pI 269 pc = pJ_269 pc := fun _ => rfl
noncomputable def xb_269_5 : List zF := [zq_k 4294967295, zq_iret 0]
noncomputable def xf_269_5 : zE → zKn := fun E => zq_k 4294967295 (zq_iret 0 (zNil) E) E
theorem xe_269_5 : xf_269_5 = zEx xb_269_5 := by
  unfold xf_269_5 xb_269_5
  rfl
theorem xc_269_5 : zCd 269 [0, 15, 17, 20, 62, 68] 68 xb_269_5 := zc_iconst xj_269 69 (-1) 4294967295 rfl rfl rfl (zc_ireturn0 xj_269 70 rfl rfl (trivial))
noncomputable def xb_269_4 : List zF := [zq_incg zG4 zE4 1, zq_goto 20]
noncomputable def xf_269_4 : zE → zKn := fun E => zq_incg zG4 zE4 1 (zq_goto 20 (zNil) E) E
theorem xe_269_4 : xf_269_4 = zEx xb_269_4 := by
  unfold xf_269_4 xb_269_4
  rfl
theorem xc_269_4 : zCd 269 [0, 15, 17, 20, 62, 68] 62 xb_269_4 := zc_iinc xj_269 65 4 1 1 rfl rfl rfl (zf_inc_4 _) (zc_goto xj_269 66 (-45) 20 rfl rfl rfl (trivial))
noncomputable def xb_269_3 : List zF := [zq_ildg zG4, zq_aldg zG0, zq_getfg 9 zG4, zq_ic_ge 68, zq_aldg zG0, zq_ildg zG4, zq_ildg zG1, zq_calli 270 2 9 3, zq_if_eq 62, zq_aldg zG0, zq_ildg zG4, zq_ildg zG2, zq_calli 270 2 9 3, zq_if_eq 62, zq_aldg zG0, zq_ildg zG4, zq_ildg zG3, zq_calli 270 2 9 3, zq_if_eq 62, zq_ildg zG4, zq_iret 0]
noncomputable def xf_269_3 : zE → zKn := fun E => zq_ildg zG4 (zq_aldg zG0 (zq_getfg 9 zG4 (zq_ic_ge 68 (zq_aldg zG0 (zq_ildg zG4 (zq_ildg zG1 (zq_calli 270 2 9 3 (zq_if_eq 62 (zq_aldg zG0 (zq_ildg zG4 (zq_ildg zG2 (zq_calli 270 2 9 3 (zq_if_eq 62 (zq_aldg zG0 (zq_ildg zG4 (zq_ildg zG3 (zq_calli 270 2 9 3 (zq_if_eq 62 (zq_ildg zG4 (zq_iret 0 (zNil) E) E) E) E) E) E) E) E) E) E) E) E) E) E) E) E) E) E) E) E) E
theorem xe_269_3 : xf_269_3 = zEx xb_269_3 := by
  unfold xf_269_3 xb_269_3
  rfl
theorem xc_269_3 : zCd 269 [0, 15, 17, 20, 62, 68] 20 xb_269_3 := zc_iload xj_269 22 4 rfl rfl zf_ild_4 (zc_aload_n xj_269 23 0 rfl rfl zf_ald_0 (zc_getf xj_269 26 134 9 4 98 rfl rfl (zf_getf_4 _) (zc_ic_ge xj_269 29 42 68 rfl rfl rfl (zc_aload_n xj_269 30 0 rfl rfl zf_ald_0 (zc_iload xj_269 32 4 rfl rfl zf_ild_4 (zc_iload_n xj_269 33 1 rfl rfl zf_ild_1 (zc_invokevirtual1 xj_269 36 275 270 2 351 9 3 rfl rfl rfl rfl (zc_if_eq xj_269 39 26 62 rfl rfl rfl (zc_aload_n xj_269 40 0 rfl rfl zf_ald_0 (zc_iload xj_269 42 4 rfl rfl zf_ild_4 (zc_iload_n xj_269 43 2 rfl rfl zf_ild_2 (zc_invokevirtual1 xj_269 46 275 270 2 351 9 3 rfl rfl rfl rfl (zc_if_eq xj_269 49 16 62 rfl rfl rfl (zc_aload_n xj_269 50 0 rfl rfl zf_ald_0 (zc_iload xj_269 52 4 rfl rfl zf_ild_4 (zc_iload_n xj_269 53 3 rfl rfl zf_ild_3 (zc_invokevirtual1 xj_269 56 275 270 2 351 9 3 rfl rfl rfl rfl (zc_if_eq xj_269 59 6 62 rfl rfl rfl (zc_iload xj_269 61 4 rfl rfl zf_ild_4 (zc_ireturn0 xj_269 62 rfl rfl (trivial)))))))))))))))))))))
noncomputable def xb_269_2 : List zF := zq_k 0 :: zq_istg zE4 :: xb_269_3
noncomputable def xf_269_2 : zE → zKn := fun E => zq_k 0 (zq_istg zE4 (xf_269_3 E) E) E
theorem xe_269_2 : xf_269_2 = zEx xb_269_2 := by
  unfold xf_269_2 xb_269_2
  rw [xe_269_3]
  rfl
theorem xc_269_2 : zCd 269 [0, 15, 17, 20, 62, 68] 17 xb_269_2 := zc_iconst xj_269 18 0 0 rfl rfl rfl (zc_istore xj_269 20 4 rfl rfl zf_ist_4 (xc_269_3))
noncomputable def xb_269_1 : List zF := [zq_k 4294967295, zq_iret 0]
noncomputable def xf_269_1 : zE → zKn := fun E => zq_k 4294967295 (zq_iret 0 (zNil) E) E
theorem xe_269_1 : xf_269_1 = zEx xb_269_1 := by
  unfold xf_269_1 xb_269_1
  rfl
theorem xc_269_1 : zCd 269 [0, 15, 17, 20, 62, 68] 15 xb_269_1 := zc_iconst xj_269 16 (-1) 4294967295 rfl rfl rfl (zc_ireturn0 xj_269 17 rfl rfl (trivial))
noncomputable def xb_269_0 : List zF := zq_ildg zG1 :: zq_ildg zG2 :: zq_ic_eq 15 :: zq_ildg zG2 :: zq_ildg zG3 :: zq_ic_eq 15 :: zq_ildg zG1 :: zq_ildg zG3 :: zq_ic_ne 17 :: xb_269_1
noncomputable def xf_269_0 : zE → zKn := fun E => zq_ildg zG1 (zq_ildg zG2 (zq_ic_eq 15 (zq_ildg zG2 (zq_ildg zG3 (zq_ic_eq 15 (zq_ildg zG1 (zq_ildg zG3 (zq_ic_ne 17 (xf_269_1 E) E) E) E) E) E) E) E) E) E
theorem xe_269_0 : xf_269_0 = zEx xb_269_0 := by
  unfold xf_269_0 xb_269_0
  rw [xe_269_1]
  rfl
theorem xc_269_0 : zCd 269 [0, 15, 17, 20, 62, 68] 0 xb_269_0 := zc_iload_n xj_269 1 1 rfl rfl zf_ild_1 (zc_iload_n xj_269 2 2 rfl rfl zf_ild_2 (zc_ic_eq xj_269 5 13 15 rfl rfl rfl (zc_iload_n xj_269 6 2 rfl rfl zf_ild_2 (zc_iload_n xj_269 7 3 rfl rfl zf_ild_3 (zc_ic_eq xj_269 10 8 15 rfl rfl rfl (zc_iload_n xj_269 11 1 rfl rfl zf_ild_1 (zc_iload_n xj_269 12 3 rfl rfl zf_ild_3 (zc_ic_ne xj_269 15 5 17 rfl rfl rfl (xc_269_1)))))))))
noncomputable def xm_269 : Lean.RArray (zE → zKn) := .branch 20 (.branch 15 (.leaf xf_269_0) (.branch 17 (.leaf xf_269_1) (.leaf xf_269_2))) (.branch 62 (.leaf xf_269_3) (.branch 68 (.leaf xf_269_4) (.leaf xf_269_5)))
theorem xa_269 : zCdAll 269 [0, 15, 17, 20, 62, 68] xm_269 := zAll2_ok (P := fun t => ∃ c, zCd 269 [0, 15, 17, 20, 62, 68] t c ∧ xm_269.get t = zEx c) ⟨⟨_, xc_269_0, xe_269_0⟩, ⟨_, xc_269_1, xe_269_1⟩, ⟨_, xc_269_2, xe_269_2⟩, ⟨_, xc_269_3, xe_269_3⟩, ⟨_, xc_269_4, xe_269_4⟩, ⟨_, xc_269_5, xe_269_5⟩, trivial⟩
/-- SquareMeshModel.hasCorner -/
theorem xj_270 : ∀ pc, pI 270 pc = pJ_270 pc := fun _ => rfl
noncomputable def xb_270_3 : List zF := [zq_iret 1]
noncomputable def xf_270_3 : zE → zKn := fun E => zq_iret 1 (zNil) E
theorem xe_270_3 : xf_270_3 = zEx xb_270_3 := by
  unfold xf_270_3 xb_270_3
  rfl
theorem xc_270_3 : zCd 270 [0, 30, 34, 35] 35 xb_270_3 := zc_ireturn1 xj_270 36 rfl rfl (trivial)
noncomputable def xb_270_2 : List zF := zq_k 0 :: xb_270_3
noncomputable def xf_270_2 : zE → zKn := fun E => zq_k 0 (xf_270_3 E) E
theorem xe_270_2 : xf_270_2 = zEx xb_270_2 := by
  unfold xf_270_2 xb_270_2
  rw [xe_270_3]
  rfl
theorem xc_270_2 : zCd 270 [0, 30, 34, 35] 34 xb_270_2 := zc_iconst xj_270 35 0 0 rfl rfl rfl (xc_270_3)
noncomputable def xb_270_1 : List zF := [zq_k 1, zq_goto 35]
noncomputable def xf_270_1 : zE → zKn := fun E => zq_k 1 (zq_goto 35 (zNil) E) E
theorem xe_270_1 : xf_270_1 = zEx xb_270_1 := by
  unfold xf_270_1 xb_270_1
  rfl
theorem xc_270_1 : zCd 270 [0, 30, 34, 35] 30 xb_270_1 := zc_iconst xj_270 31 1 1 rfl rfl rfl (zc_goto xj_270 32 4 35 rfl rfl rfl (trivial))
noncomputable def xb_270_0 : List zF := zq_aldg zG0 :: zq_ildg zG1 :: zq_k 0 :: zq_calli 247 2 9 3 :: zq_ildg zG2 :: zq_ic_eq 30 :: zq_aldg zG0 :: zq_ildg zG1 :: zq_k 1 :: zq_calli 247 2 9 3 :: zq_ildg zG2 :: zq_ic_eq 30 :: zq_aldg zG0 :: zq_ildg zG1 :: zq_k 2 :: zq_calli 247 2 9 3 :: zq_ildg zG2 :: zq_ic_ne 34 :: xb_270_1
noncomputable def xf_270_0 : zE → zKn := fun E => zq_aldg zG0 (zq_ildg zG1 (zq_k 0 (zq_calli 247 2 9 3 (zq_ildg zG2 (zq_ic_eq 30 (zq_aldg zG0 (zq_ildg zG1 (zq_k 1 (zq_calli 247 2 9 3 (zq_ildg zG2 (zq_ic_eq 30 (zq_aldg zG0 (zq_ildg zG1 (zq_k 2 (zq_calli 247 2 9 3 (zq_ildg zG2 (zq_ic_ne 34 (xf_270_1 E) E) E) E) E) E) E) E) E) E) E) E) E) E) E) E) E) E) E
theorem xe_270_0 : xf_270_0 = zEx xb_270_0 := by
  unfold xf_270_0 xb_270_0
  rw [xe_270_1]
  rfl
theorem xc_270_0 : zCd 270 [0, 30, 34, 35] 0 xb_270_0 := zc_aload_n xj_270 1 0 rfl rfl zf_ald_0 (zc_iload_n xj_270 2 1 rfl rfl zf_ild_1 (zc_iconst xj_270 3 0 0 rfl rfl rfl (zc_invokevirtual1 xj_270 6 206 247 2 313 9 3 rfl rfl rfl rfl (zc_iload_n xj_270 7 2 rfl rfl zf_ild_2 (zc_ic_eq xj_270 10 23 30 rfl rfl rfl (zc_aload_n xj_270 11 0 rfl rfl zf_ald_0 (zc_iload_n xj_270 12 1 rfl rfl zf_ild_1 (zc_iconst xj_270 13 1 1 rfl rfl rfl (zc_invokevirtual1 xj_270 16 206 247 2 313 9 3 rfl rfl rfl rfl (zc_iload_n xj_270 17 2 rfl rfl zf_ild_2 (zc_ic_eq xj_270 20 13 30 rfl rfl rfl (zc_aload_n xj_270 21 0 rfl rfl zf_ald_0 (zc_iload_n xj_270 22 1 rfl rfl zf_ild_1 (zc_iconst xj_270 23 2 2 rfl rfl rfl (zc_invokevirtual1 xj_270 26 206 247 2 313 9 3 rfl rfl rfl rfl (zc_iload_n xj_270 27 2 rfl rfl zf_ild_2 (zc_ic_ne xj_270 30 7 34 rfl rfl rfl (xc_270_1))))))))))))))))))
noncomputable def xm_270 : Lean.RArray (zE → zKn) := .branch 34 (.branch 30 (.leaf xf_270_0) (.leaf xf_270_1)) (.branch 35 (.leaf xf_270_2) (.leaf xf_270_3))
theorem xa_270 : zCdAll 270 [0, 30, 34, 35] xm_270 := zAll2_ok (P := fun t => ∃ c, zCd 270 [0, 30, 34, 35] t c ∧ xm_270.get t = zEx c) ⟨⟨_, xc_270_0, xe_270_0⟩, ⟨_, xc_270_1, xe_270_1⟩, ⟨_, xc_270_2, xe_270_2⟩, ⟨_, xc_270_3, xe_270_3⟩, trivial⟩
/-- SquareMeshModel.isEdge -/
theorem xj_271 : ∀ pc, pI 271 pc = pJ_271 pc := fun _ => rfl
noncomputable def xb_271_2 : List zF := [zq_iret 1]
noncomputable def xf_271_2 : zE → zKn := fun E => zq_iret 1 (zNil) E
theorem xe_271_2 : xf_271_2 = zEx xb_271_2 := by
  unfold xf_271_2 xb_271_2
  rfl
theorem xc_271_2 : zCd 271 [0, 22, 23] 23 xb_271_2 := zc_ireturn1 xj_271 24 rfl rfl (trivial)
noncomputable def xb_271_1 : List zF := zq_k 0 :: xb_271_2
noncomputable def xf_271_1 : zE → zKn := fun E => zq_k 0 (xf_271_2 E) E
theorem xe_271_1 : xf_271_1 = zEx xb_271_1 := by
  unfold xf_271_1 xb_271_1
  rw [xe_271_2]
  rfl
theorem xc_271_1 : zCd 271 [0, 22, 23] 22 xb_271_1 := zc_iconst xj_271 23 0 0 rfl rfl rfl (xc_271_2)
noncomputable def xb_271_0 : List zF := [zq_aldg zG0, zq_ildg zG1, zq_ildg zG2, zq_calli 239 2 9 3, zq_if_eq 22, zq_aldg zG0, zq_ildg zG1, zq_ildg zG2, zN2 213 3 zg_213, zq_if_eq 22, zq_k 1, zq_goto 23]
noncomputable def xf_271_0 : zE → zKn := fun E => zq_aldg zG0 (zq_ildg zG1 (zq_ildg zG2 (zq_calli 239 2 9 3 (zq_if_eq 22 (zq_aldg zG0 (zq_ildg zG1 (zq_ildg zG2 (zN2 213 3 zg_213 (zq_if_eq 22 (zq_k 1 (zq_goto 23 (zNil) E) E) E) E) E) E) E) E) E) E) E) E
theorem xe_271_0 : xf_271_0 = zEx xb_271_0 := by
  unfold xf_271_0 xb_271_0
  rfl
theorem xc_271_0 : zCd 271 [0, 22, 23] 0 xb_271_0 := zc_aload_n xj_271 1 0 rfl rfl zf_ald_0 (zc_iload_n xj_271 2 1 rfl rfl zf_ild_1 (zc_iload_n xj_271 3 2 rfl rfl zf_ild_2 (zc_invokevirtual1 xj_271 6 194 239 2 303 9 3 rfl rfl rfl rfl (zc_if_eq xj_271 9 16 22 rfl rfl rfl (zc_aload_n xj_271 10 0 rfl rfl zf_ald_0 (zc_iload_n xj_271 11 1 rfl rfl zf_ild_1 (zc_iload_n xj_271 12 2 rfl rfl zf_ild_2 (zc_any xj_271 15 (.invokevirtual 234) [1, 213, 2, 321, 9, 3] rfl rfl (zN2 213 3 zg_213) rfl rfl (zc_if_eq xj_271 18 7 22 rfl rfl rfl (zc_iconst xj_271 19 1 1 rfl rfl rfl (zc_goto xj_271 20 4 23 rfl rfl rfl (trivial))))))))))))
noncomputable def xm_271 : Lean.RArray (zE → zKn) := .branch 22 (.leaf xf_271_0) (.branch 23 (.leaf xf_271_1) (.leaf xf_271_2))
theorem xa_271 : zCdAll 271 [0, 22, 23] xm_271 := zAll2_ok (P := fun t => ∃ c, zCd 271 [0, 22, 23] t c ∧ xm_271.get t = zEx c) ⟨⟨_, xc_271_0, xe_271_0⟩, ⟨_, xc_271_1, xe_271_1⟩, ⟨_, xc_271_2, xe_271_2⟩, trivial⟩
/-- SquareMeshModel.isFixed -/
theorem xj_272 : ∀ pc, pI 272 pc = pJ_272 pc := fun _ => rfl
noncomputable def xb_272_2 : List zF := [zq_iret 1]
noncomputable def xf_272_2 : zE → zKn := fun E => zq_iret 1 (zNil) E
theorem xe_272_2 : xf_272_2 = zEx xb_272_2 := by
  unfold xf_272_2 xb_272_2
  rfl
theorem xc_272_2 : zCd 272 [0, 22, 23] 23 xb_272_2 := zc_ireturn1 xj_272 24 rfl rfl (trivial)
noncomputable def xb_272_1 : List zF := zq_k 0 :: xb_272_2
noncomputable def xf_272_1 : zE → zKn := fun E => zq_k 0 (xf_272_2 E) E
theorem xe_272_1 : xf_272_1 = zEx xb_272_1 := by
  unfold xf_272_1 xb_272_1
  rw [xe_272_2]
  rfl
theorem xc_272_1 : zCd 272 [0, 22, 23] 22 xb_272_1 := zc_iconst xj_272 23 0 0 rfl rfl rfl (xc_272_2)
noncomputable def xb_272_0 : List zF := [zq_aldg zG0, zq_ildg zG1, zq_ildg zG2, zq_calli 239 2 9 3, zq_if_eq 22, zq_aldg zG0, zq_ildg zG1, zq_ildg zG2, zN2 196 3 zg_196, zq_if_eq 22, zq_k 1, zq_goto 23]
noncomputable def xf_272_0 : zE → zKn := fun E => zq_aldg zG0 (zq_ildg zG1 (zq_ildg zG2 (zq_calli 239 2 9 3 (zq_if_eq 22 (zq_aldg zG0 (zq_ildg zG1 (zq_ildg zG2 (zN2 196 3 zg_196 (zq_if_eq 22 (zq_k 1 (zq_goto 23 (zNil) E) E) E) E) E) E) E) E) E) E) E) E
theorem xe_272_0 : xf_272_0 = zEx xb_272_0 := by
  unfold xf_272_0 xb_272_0
  rfl
theorem xc_272_0 : zCd 272 [0, 22, 23] 0 xb_272_0 := zc_aload_n xj_272 1 0 rfl rfl zf_ald_0 (zc_iload_n xj_272 2 1 rfl rfl zf_ild_1 (zc_iload_n xj_272 3 2 rfl rfl zf_ild_2 (zc_invokevirtual1 xj_272 6 194 239 2 303 9 3 rfl rfl rfl rfl (zc_if_eq xj_272 9 16 22 rfl rfl rfl (zc_aload_n xj_272 10 0 rfl rfl zf_ald_0 (zc_iload_n xj_272 11 1 rfl rfl zf_ild_1 (zc_iload_n xj_272 12 2 rfl rfl zf_ild_2 (zc_any xj_272 15 (.invokevirtual 102) [1, 196, 2, 258, 9, 3] rfl rfl (zN2 196 3 zg_196) rfl rfl (zc_if_eq xj_272 18 7 22 rfl rfl rfl (zc_iconst xj_272 19 1 1 rfl rfl rfl (zc_goto xj_272 20 4 23 rfl rfl rfl (trivial))))))))))))
noncomputable def xm_272 : Lean.RArray (zE → zKn) := .branch 22 (.leaf xf_272_0) (.branch 23 (.leaf xf_272_1) (.leaf xf_272_2))
theorem xa_272 : zCdAll 272 [0, 22, 23] xm_272 := zAll2_ok (P := fun t => ∃ c, zCd 272 [0, 22, 23] t c ∧ xm_272.get t = zEx c) ⟨⟨_, xc_272_0, xe_272_0⟩, ⟨_, xc_272_1, xe_272_1⟩, ⟨_, xc_272_2, xe_272_2⟩, trivial⟩
/-- SquareMeshModel.holds -/
theorem xj_273 : ∀ pc, pI 273 pc = pJ_273 pc := fun _ => rfl
noncomputable def xb_273_3 : List zF := [zq_k 1, zq_iret 1]
noncomputable def xf_273_3 : zE → zKn := fun E => zq_k 1 (zq_iret 1 (zNil) E) E
theorem xe_273_3 : xf_273_3 = zEx xb_273_3 := by
  unfold xf_273_3 xb_273_3
  rfl
theorem xc_273_3 : zCd 273 [0, 3, 36, 42] 42 xb_273_3 := zc_iconst xj_273 43 1 1 rfl rfl rfl (zc_ireturn1 xj_273 44 rfl rfl (trivial))
noncomputable def xb_273_2 : List zF := [zq_incg zG4 zE4 1, zq_goto 3]
noncomputable def xf_273_2 : zE → zKn := fun E => zq_incg zG4 zE4 1 (zq_goto 3 (zNil) E) E
theorem xe_273_2 : xf_273_2 = zEx xb_273_2 := by
  unfold xf_273_2 xb_273_2
  rfl
theorem xc_273_2 : zCd 273 [0, 3, 36, 42] 36 xb_273_2 := zc_iinc xj_273 39 4 1 1 rfl rfl rfl (zf_inc_4 _) (zc_goto xj_273 40 (-36) 3 rfl rfl rfl (trivial))
noncomputable def xb_273_1 : List zF := [zq_ildg zG4, zq_k 3, zq_ic_ge 42, zq_aldg zG0, zq_aldg zG0, zq_ildg zG1, zq_ildg zG4, zq_calli 247 2 9 3, zq_aldg zG0, zq_ildg zG1, zq_ildg zG4, zq_k 1, zq_add, zq_calli 247 2 9 3, zq_ildg zG2, zq_ildg zG3, zq_calli 201 4 9 5, zq_if_ge 36, zq_k 0, zq_iret 1]
noncomputable def xf_273_1 : zE → zKn := fun E => zq_ildg zG4 (zq_k 3 (zq_ic_ge 42 (zq_aldg zG0 (zq_aldg zG0 (zq_ildg zG1 (zq_ildg zG4 (zq_calli 247 2 9 3 (zq_aldg zG0 (zq_ildg zG1 (zq_ildg zG4 (zq_k 1 (zq_add (zq_calli 247 2 9 3 (zq_ildg zG2 (zq_ildg zG3 (zq_calli 201 4 9 5 (zq_if_ge 36 (zq_k 0 (zq_iret 1 (zNil) E) E) E) E) E) E) E) E) E) E) E) E) E) E) E) E) E) E) E) E
theorem xe_273_1 : xf_273_1 = zEx xb_273_1 := by
  unfold xf_273_1 xb_273_1
  rfl
theorem xc_273_1 : zCd 273 [0, 3, 36, 42] 3 xb_273_1 := zc_iload xj_273 5 4 rfl rfl zf_ild_4 (zc_iconst xj_273 6 3 3 rfl rfl rfl (zc_ic_ge xj_273 9 36 42 rfl rfl rfl (zc_aload_n xj_273 10 0 rfl rfl zf_ald_0 (zc_aload_n xj_273 11 0 rfl rfl zf_ald_0 (zc_iload_n xj_273 12 1 rfl rfl zf_ild_1 (zc_iload xj_273 14 4 rfl rfl zf_ild_4 (zc_invokevirtual1 xj_273 17 206 247 2 313 9 3 rfl rfl rfl rfl (zc_aload_n xj_273 18 0 rfl rfl zf_ald_0 (zc_iload_n xj_273 19 1 rfl rfl zf_ild_1 (zc_iload xj_273 21 4 rfl rfl zf_ild_4 (zc_iconst xj_273 22 1 1 rfl rfl rfl (zc_iadd xj_273 23 rfl rfl (zc_invokevirtual1 xj_273 26 206 247 2 313 9 3 rfl rfl rfl rfl (zc_iload_n xj_273 27 2 rfl rfl zf_ild_2 (zc_iload_n xj_273 28 3 rfl rfl zf_ild_3 (zc_invokevirtual1 xj_273 31 82 201 4 259 9 5 rfl rfl rfl rfl (zc_if_ge xj_273 34 5 36 rfl rfl rfl (zc_iconst xj_273 35 0 0 rfl rfl rfl (zc_ireturn1 xj_273 36 rfl rfl (trivial))))))))))))))))))))
noncomputable def xb_273_0 : List zF := zq_k 0 :: zq_istg zE4 :: xb_273_1
noncomputable def xf_273_0 : zE → zKn := fun E => zq_k 0 (zq_istg zE4 (xf_273_1 E) E) E
theorem xe_273_0 : xf_273_0 = zEx xb_273_0 := by
  unfold xf_273_0 xb_273_0
  rw [xe_273_1]
  rfl
theorem xc_273_0 : zCd 273 [0, 3, 36, 42] 0 xb_273_0 := zc_iconst xj_273 1 0 0 rfl rfl rfl (zc_istore xj_273 3 4 rfl rfl zf_ist_4 (xc_273_1))
noncomputable def xm_273 : Lean.RArray (zE → zKn) := .branch 36 (.branch 3 (.leaf xf_273_0) (.leaf xf_273_1)) (.branch 42 (.leaf xf_273_2) (.leaf xf_273_3))
theorem xa_273 : zCdAll 273 [0, 3, 36, 42] xm_273 := zAll2_ok (P := fun t => ∃ c, zCd 273 [0, 3, 36, 42] t c ∧ xm_273.get t = zEx c) ⟨⟨_, xc_273_0, xe_273_0⟩, ⟨_, xc_273_1, xe_273_1⟩, ⟨_, xc_273_2, xe_273_2⟩, ⟨_, xc_273_3, xe_273_3⟩, trivial⟩
/-- SquareMeshModel.inNow -/
theorem xj_274 : ∀ pc, pI 274 pc = pJ_274 pc := fun _ => rfl
noncomputable def xb_274_2 : List zF := [zq_ildg zG3, zq_iret 0]
noncomputable def xf_274_2 : zE → zKn := fun E => zq_ildg zG3 (zq_iret 0 (zNil) E) E
theorem xe_274_2 : xf_274_2 = zEx xb_274_2 := by
  unfold xf_274_2 xb_274_2
  rfl
theorem xc_274_2 : zCd 274 [0, 2, 18] 18 xb_274_2 := zc_iload_n xj_274 19 3 rfl rfl zf_ild_3 (zc_ireturn0 xj_274 20 rfl rfl (trivial))
noncomputable def xb_274_1 : List zF := [zq_aldg zG0, zq_ildg zG3, zq_ildg zG1, zq_ildg zG2, zq_calli 273 3 9 5, zq_if_ne 18, zq_incg zG3 zE3 1, zq_goto 2]
noncomputable def xf_274_1 : zE → zKn := fun E => zq_aldg zG0 (zq_ildg zG3 (zq_ildg zG1 (zq_ildg zG2 (zq_calli 273 3 9 5 (zq_if_ne 18 (zq_incg zG3 zE3 1 (zq_goto 2 (zNil) E) E) E) E) E) E) E) E
theorem xe_274_1 : xf_274_1 = zEx xb_274_1 := by
  unfold xf_274_1 xb_274_1
  rfl
theorem xc_274_1 : zCd 274 [0, 2, 18] 2 xb_274_1 := zc_aload_n xj_274 3 0 rfl rfl zf_ald_0 (zc_iload_n xj_274 4 3 rfl rfl zf_ild_3 (zc_iload_n xj_274 5 1 rfl rfl zf_ild_1 (zc_iload_n xj_274 6 2 rfl rfl zf_ild_2 (zc_invokevirtual1 xj_274 9 278 273 3 337 9 5 rfl rfl rfl rfl (zc_if_ne xj_274 12 9 18 rfl rfl rfl (zc_iinc xj_274 15 3 1 1 rfl rfl rfl (zf_inc_3 _) (zc_goto xj_274 16 (-13) 2 rfl rfl rfl (trivial))))))))
noncomputable def xb_274_0 : List zF := zq_k 0 :: zq_istg zE3 :: xb_274_1
noncomputable def xf_274_0 : zE → zKn := fun E => zq_k 0 (zq_istg zE3 (xf_274_1 E) E) E
theorem xe_274_0 : xf_274_0 = zEx xb_274_0 := by
  unfold xf_274_0 xb_274_0
  rw [xe_274_1]
  rfl
theorem xc_274_0 : zCd 274 [0, 2, 18] 0 xb_274_0 := zc_iconst xj_274 1 0 0 rfl rfl rfl (zc_istore_n xj_274 2 3 rfl rfl zf_ist_3 (xc_274_1))
noncomputable def xm_274 : Lean.RArray (zE → zKn) := .branch 2 (.leaf xf_274_0) (.branch 18 (.leaf xf_274_1) (.leaf xf_274_2))
theorem xa_274 : zCdAll 274 [0, 2, 18] xm_274 := zAll2_ok (P := fun t => ∃ c, zCd 274 [0, 2, 18] t c ∧ xm_274.get t = zEx c) ⟨⟨_, xc_274_0, xe_274_0⟩, ⟨_, xc_274_1, xe_274_1⟩, ⟨_, xc_274_2, xe_274_2⟩, trivial⟩
/-- SquareMeshModel.in -/
theorem xj_275 : ∀ pc, pI 275 pc = pJ_275 pc := fun _ => rfl
noncomputable def xb_275_2 : List zF := [zq_iret 0]
noncomputable def xf_275_2 : zE → zKn := fun E => zq_iret 0 (zNil) E
theorem xe_275_2 : xf_275_2 = zEx xb_275_2 := by
  unfold xf_275_2 xb_275_2
  rfl
theorem xc_275_2 : zCd 275 [0, 17, 18] 18 xb_275_2 := zc_ireturn0 xj_275 19 rfl rfl (trivial)
noncomputable def xb_275_1 : List zF := zq_k 4294967295 :: xb_275_2
noncomputable def xf_275_1 : zE → zKn := fun E => zq_k 4294967295 (xf_275_2 E) E
theorem xe_275_1 : xf_275_1 = zEx xb_275_1 := by
  unfold xf_275_1 xb_275_1
  rw [xe_275_2]
  rfl
theorem xc_275_1 : zCd 275 [0, 17, 18] 17 xb_275_1 := zc_iconst xj_275 18 (-1) 4294967295 rfl rfl rfl (xc_275_2)
noncomputable def xb_275_0 : List zF := [zq_ildg zG1, zq_ildg zG2, zq_calls 189 2 2, zq_if_eq 17, zq_aldg zG0, zq_ildg zG1, zq_ildg zG2, zq_calli 274 2 9 4, zq_goto 18]
noncomputable def xf_275_0 : zE → zKn := fun E => zq_ildg zG1 (zq_ildg zG2 (zq_calls 189 2 2 (zq_if_eq 17 (zq_aldg zG0 (zq_ildg zG1 (zq_ildg zG2 (zq_calli 274 2 9 4 (zq_goto 18 (zNil) E) E) E) E) E) E) E) E) E
theorem xe_275_0 : xf_275_0 = zEx xb_275_0 := by
  unfold xf_275_0 xb_275_0
  rfl
theorem xc_275_0 : zCd 275 [0, 17, 18] 0 xb_275_0 := zc_iload_n xj_275 1 1 rfl rfl zf_ild_1 (zc_iload_n xj_275 2 2 rfl rfl zf_ild_2 (zc_invokestatic2 xj_275 5 159 189 2 284 0 2 rfl rfl rfl rfl (zc_if_eq xj_275 8 12 17 rfl rfl rfl (zc_aload_n xj_275 9 0 rfl rfl zf_ald_0 (zc_iload_n xj_275 10 1 rfl rfl zf_ild_1 (zc_iload_n xj_275 11 2 rfl rfl zf_ild_2 (zc_invokevirtual1 xj_275 14 281 274 2 336 9 4 rfl rfl rfl rfl (zc_goto xj_275 15 4 18 rfl rfl rfl (trivial)))))))))
noncomputable def xm_275 : Lean.RArray (zE → zKn) := .branch 17 (.leaf xf_275_0) (.branch 18 (.leaf xf_275_1) (.leaf xf_275_2))
theorem xa_275 : zCdAll 275 [0, 17, 18] xm_275 := zAll2_ok (P := fun t => ∃ c, zCd 275 [0, 17, 18] t c ∧ xm_275.get t = zEx c) ⟨⟨_, xc_275_0, xe_275_0⟩, ⟨_, xc_275_1, xe_275_1⟩, ⟨_, xc_275_2, xe_275_2⟩, trivial⟩
/-- SquareMeshModel.lies -/
theorem xj_276 : ∀ pc, pI 276 pc = pJ_276 pc := fun _ => rfl
noncomputable def xb_276_5 : List zF := [zq_k 1, zq_iret 0]
noncomputable def xf_276_5 : zE → zKn := fun E => zq_k 1 (zq_iret 0 (zNil) E) E
theorem xe_276_5 : xf_276_5 = zEx xb_276_5 := by
  unfold xf_276_5 xb_276_5
  rfl
theorem xc_276_5 : zCd 276 [0, 10, 22, 32, 65, 71] 71 xb_276_5 := zc_iconst xj_276 72 1 1 rfl rfl rfl (zc_ireturn0 xj_276 73 rfl rfl (trivial))
noncomputable def xb_276_4 : List zF := [zq_incg zG4 zE4 1, zq_goto 32]
noncomputable def xf_276_4 : zE → zKn := fun E => zq_incg zG4 zE4 1 (zq_goto 32 (zNil) E) E
theorem xe_276_4 : xf_276_4 = zEx xb_276_4 := by
  unfold xf_276_4 xb_276_4
  rfl
theorem xc_276_4 : zCd 276 [0, 10, 22, 32, 65, 71] 65 xb_276_4 := zc_iinc xj_276 68 4 1 1 rfl rfl rfl (zf_inc_4 _) (zc_goto xj_276 69 (-36) 32 rfl rfl rfl (trivial))
noncomputable def xb_276_3 : List zF := [zq_ildg zG4, zq_k 3, zq_ic_ge 71, zq_aldg zG0, zq_aldg zG0, zq_ildg zG3, zq_ildg zG4, zq_calli 247 2 9 3, zq_aldg zG0, zq_ildg zG3, zq_ildg zG4, zq_k 1, zq_add, zq_calli 247 2 9 3, zq_ildg zG1, zq_ildg zG2, zq_calli 201 4 9 5, zq_if_ne 65, zq_k 2, zq_iret 0]
noncomputable def xf_276_3 : zE → zKn := fun E => zq_ildg zG4 (zq_k 3 (zq_ic_ge 71 (zq_aldg zG0 (zq_aldg zG0 (zq_ildg zG3 (zq_ildg zG4 (zq_calli 247 2 9 3 (zq_aldg zG0 (zq_ildg zG3 (zq_ildg zG4 (zq_k 1 (zq_add (zq_calli 247 2 9 3 (zq_ildg zG1 (zq_ildg zG2 (zq_calli 201 4 9 5 (zq_if_ne 65 (zq_k 2 (zq_iret 0 (zNil) E) E) E) E) E) E) E) E) E) E) E) E) E) E) E) E) E) E) E) E
theorem xe_276_3 : xf_276_3 = zEx xb_276_3 := by
  unfold xf_276_3 xb_276_3
  rfl
theorem xc_276_3 : zCd 276 [0, 10, 22, 32, 65, 71] 32 xb_276_3 := zc_iload xj_276 34 4 rfl rfl zf_ild_4 (zc_iconst xj_276 35 3 3 rfl rfl rfl (zc_ic_ge xj_276 38 36 71 rfl rfl rfl (zc_aload_n xj_276 39 0 rfl rfl zf_ald_0 (zc_aload_n xj_276 40 0 rfl rfl zf_ald_0 (zc_iload_n xj_276 41 3 rfl rfl zf_ild_3 (zc_iload xj_276 43 4 rfl rfl zf_ild_4 (zc_invokevirtual1 xj_276 46 206 247 2 313 9 3 rfl rfl rfl rfl (zc_aload_n xj_276 47 0 rfl rfl zf_ald_0 (zc_iload_n xj_276 48 3 rfl rfl zf_ild_3 (zc_iload xj_276 50 4 rfl rfl zf_ild_4 (zc_iconst xj_276 51 1 1 rfl rfl rfl (zc_iadd xj_276 52 rfl rfl (zc_invokevirtual1 xj_276 55 206 247 2 313 9 3 rfl rfl rfl rfl (zc_iload_n xj_276 56 1 rfl rfl zf_ild_1 (zc_iload_n xj_276 57 2 rfl rfl zf_ild_2 (zc_invokevirtual1 xj_276 60 82 201 4 259 9 5 rfl rfl rfl rfl (zc_if_ne xj_276 63 5 65 rfl rfl rfl (zc_iconst xj_276 64 2 2 rfl rfl rfl (zc_ireturn0 xj_276 65 rfl rfl (trivial))))))))))))))))))))
noncomputable def xb_276_2 : List zF := zq_aldg zG0 :: zq_ildg zG1 :: zq_ildg zG2 :: zq_calli 274 2 9 4 :: zq_istg zE3 :: zq_k 0 :: zq_istg zE4 :: xb_276_3
noncomputable def xf_276_2 : zE → zKn := fun E => zq_aldg zG0 (zq_ildg zG1 (zq_ildg zG2 (zq_calli 274 2 9 4 (zq_istg zE3 (zq_k 0 (zq_istg zE4 (xf_276_3 E) E) E) E) E) E) E) E
theorem xe_276_2 : xf_276_2 = zEx xb_276_2 := by
  unfold xf_276_2 xb_276_2
  rw [xe_276_3]
  rfl
theorem xc_276_2 : zCd 276 [0, 10, 22, 32, 65, 71] 22 xb_276_2 := zc_aload_n xj_276 23 0 rfl rfl zf_ald_0 (zc_iload_n xj_276 24 1 rfl rfl zf_ild_1 (zc_iload_n xj_276 25 2 rfl rfl zf_ild_2 (zc_invokevirtual1 xj_276 28 281 274 2 336 9 4 rfl rfl rfl rfl (zc_istore_n xj_276 29 3 rfl rfl zf_ist_3 (zc_iconst xj_276 30 0 0 rfl rfl rfl (zc_istore xj_276 32 4 rfl rfl zf_ist_4 (xc_276_3)))))))
noncomputable def xb_276_1 : List zF := [zq_aldg zG0, zq_ildg zG1, zq_ildg zG2, zq_calli 198 2 9 4, zq_k 4294967295, zq_ic_eq 22, zq_k 3, zq_iret 0]
noncomputable def xf_276_1 : zE → zKn := fun E => zq_aldg zG0 (zq_ildg zG1 (zq_ildg zG2 (zq_calli 198 2 9 4 (zq_k 4294967295 (zq_ic_eq 22 (zq_k 3 (zq_iret 0 (zNil) E) E) E) E) E) E) E) E
theorem xe_276_1 : xf_276_1 = zEx xb_276_1 := by
  unfold xf_276_1 xb_276_1
  rfl
theorem xc_276_1 : zCd 276 [0, 10, 22, 32, 65, 71] 10 xb_276_1 := zc_aload_n xj_276 11 0 rfl rfl zf_ald_0 (zc_iload_n xj_276 12 1 rfl rfl zf_ild_1 (zc_iload_n xj_276 13 2 rfl rfl zf_ild_2 (zc_invokevirtual1 xj_276 16 169 198 2 291 9 4 rfl rfl rfl rfl (zc_iconst xj_276 17 (-1) 4294967295 rfl rfl rfl (zc_ic_eq xj_276 20 5 22 rfl rfl rfl (zc_iconst xj_276 21 3 3 rfl rfl rfl (zc_ireturn0 xj_276 22 rfl rfl (trivial))))))))
noncomputable def xb_276_0 : List zF := [zq_ildg zG1, zq_ildg zG2, zq_calls 189 2 2, zq_if_ne 10, zq_k 0, zq_iret 0]
noncomputable def xf_276_0 : zE → zKn := fun E => zq_ildg zG1 (zq_ildg zG2 (zq_calls 189 2 2 (zq_if_ne 10 (zq_k 0 (zq_iret 0 (zNil) E) E) E) E) E) E
theorem xe_276_0 : xf_276_0 = zEx xb_276_0 := by
  unfold xf_276_0 xb_276_0
  rfl
theorem xc_276_0 : zCd 276 [0, 10, 22, 32, 65, 71] 0 xb_276_0 := zc_iload_n xj_276 1 1 rfl rfl zf_ild_1 (zc_iload_n xj_276 2 2 rfl rfl zf_ild_2 (zc_invokestatic2 xj_276 5 159 189 2 284 0 2 rfl rfl rfl rfl (zc_if_ne xj_276 8 5 10 rfl rfl rfl (zc_iconst xj_276 9 0 0 rfl rfl rfl (zc_ireturn0 xj_276 10 rfl rfl (trivial))))))
noncomputable def xm_276 : Lean.RArray (zE → zKn) := .branch 32 (.branch 10 (.leaf xf_276_0) (.branch 22 (.leaf xf_276_1) (.leaf xf_276_2))) (.branch 65 (.leaf xf_276_3) (.branch 71 (.leaf xf_276_4) (.leaf xf_276_5)))
theorem xa_276 : zCdAll 276 [0, 10, 22, 32, 65, 71] xm_276 := zAll2_ok (P := fun t => ∃ c, zCd 276 [0, 10, 22, 32, 65, 71] t c ∧ xm_276.get t = zEx c) ⟨⟨_, xc_276_0, xe_276_0⟩, ⟨_, xc_276_1, xe_276_1⟩, ⟨_, xc_276_2, xe_276_2⟩, ⟨_, xc_276_3, xe_276_3⟩, ⟨_, xc_276_4, xe_276_4⟩, ⟨_, xc_276_5, xe_276_5⟩, trivial⟩
/-- SquareMeshModel.nextOf -/
theorem xj_277 : ∀ pc, pI 277 pc = pJ_277 pc := fun _ => rfl
noncomputable def xb_277_3 : List zF := [zq_k 4294967295, zq_iret 0]
noncomputable def xf_277_3 : zE → zKn := fun E => zq_k 4294967295 (zq_iret 0 (zNil) E) E
theorem xe_277_3 : xf_277_3 = zEx xb_277_3 := by
  unfold xf_277_3 xb_277_3
  rfl
theorem xc_277_3 : zCd 277 [0, 3, 62, 68] 68 xb_277_3 := zc_iconst xj_277 69 (-1) 4294967295 rfl rfl rfl (zc_ireturn0 xj_277 70 rfl rfl (trivial))
noncomputable def xb_277_2 : List zF := [zq_incg zG4 zE4 1, zq_goto 3]
noncomputable def xf_277_2 : zE → zKn := fun E => zq_incg zG4 zE4 1 (zq_goto 3 (zNil) E) E
theorem xe_277_2 : xf_277_2 = zEx xb_277_2 := by
  unfold xf_277_2 xb_277_2
  rfl
theorem xc_277_2 : zCd 277 [0, 3, 62, 68] 62 xb_277_2 := zc_iinc xj_277 65 4 1 1 rfl rfl rfl (zf_inc_4 _) (zc_goto xj_277 66 (-62) 3 rfl rfl rfl (trivial))
noncomputable def xb_277_1 : List zF := [zq_ildg zG4, zq_k 3, zq_ic_ge 68, zq_aldg zG0, zq_ildg zG1, zq_ildg zG4, zq_calli 266 2 9 3, zq_istg zE5, zq_ildg zG5, zq_k 4294967295, zq_ic_eq 62, zq_aldg zG0, zq_getfg 9 zG6, zq_ildg zG5, zq_ild_ 2, zq_if_ne 62, zq_aldg zG0, zq_aldg zG0, zq_ildg zG1, zq_ildg zG4, zq_calli 247 2 9 3, zq_aldg zG0, zq_ildg zG1, zq_ildg zG4, zq_k 1, zq_add, zq_calli 247 2 9 3, zq_ildg zG2, zq_ildg zG3, zq_calli 201 4 9 5, zq_if_ge 62, zq_ildg zG5, zq_iret 0]
noncomputable def xf_277_1 : zE → zKn := fun E => zq_ildg zG4 (zq_k 3 (zq_ic_ge 68 (zq_aldg zG0 (zq_ildg zG1 (zq_ildg zG4 (zq_calli 266 2 9 3 (zq_istg zE5 (zq_ildg zG5 (zq_k 4294967295 (zq_ic_eq 62 (zq_aldg zG0 (zq_getfg 9 zG6 (zq_ildg zG5 (zq_ild_ 2 (zq_if_ne 62 (zq_aldg zG0 (zq_aldg zG0 (zq_ildg zG1 (zq_ildg zG4 (zq_calli 247 2 9 3 (zq_aldg zG0 (zq_ildg zG1 (zq_ildg zG4 (zq_k 1 (zq_add (zq_calli 247 2 9 3 (zq_ildg zG2 (zq_ildg zG3 (zq_calli 201 4 9 5 (zq_if_ge 62 (zq_ildg zG5 (zq_iret 0 (zNil) E) E) E) E) E) E) E) E) E) E) E) E) E) E) E) E) E) E) E) E) E) E) E) E) E) E) E) E) E) E) E) E) E
set_option maxRecDepth 100000 in
theorem xe_277_1 : xf_277_1 = zEx xb_277_1 := by
  unfold xf_277_1 xb_277_1
  rfl
theorem xc_277_1 : zCd 277 [0, 3, 62, 68] 3 xb_277_1 := zc_iload xj_277 5 4 rfl rfl zf_ild_4 (zc_iconst xj_277 6 3 3 rfl rfl rfl (zc_ic_ge xj_277 9 62 68 rfl rfl rfl (zc_aload_n xj_277 10 0 rfl rfl zf_ald_0 (zc_iload_n xj_277 11 1 rfl rfl zf_ild_1 (zc_iload xj_277 13 4 rfl rfl zf_ild_4 (zc_invokevirtual1 xj_277 16 272 266 2 330 9 3 rfl rfl rfl rfl (zc_istore xj_277 18 5 rfl rfl zf_ist_5 (zc_iload xj_277 20 5 rfl rfl zf_ild_5 (zc_iconst xj_277 21 (-1) 4294967295 rfl rfl rfl (zc_ic_eq xj_277 24 41 62 rfl rfl rfl (zc_aload_n xj_277 25 0 rfl rfl zf_ald_0 (zc_getf xj_277 28 26 9 6 100 rfl rfl (zf_getf_6 _) (zc_iload xj_277 30 5 rfl rfl zf_ild_5 (zc_baload xj_277 31 rfl rfl (zc_if_ne xj_277 34 31 62 rfl rfl rfl (zc_aload_n xj_277 35 0 rfl rfl zf_ald_0 (zc_aload_n xj_277 36 0 rfl rfl zf_ald_0 (zc_iload_n xj_277 37 1 rfl rfl zf_ild_1 (zc_iload xj_277 39 4 rfl rfl zf_ild_4 (zc_invokevirtual1 xj_277 42 206 247 2 313 9 3 rfl rfl rfl rfl (zc_aload_n xj_277 43 0 rfl rfl zf_ald_0 (zc_iload_n xj_277 44 1 rfl rfl zf_ild_1 (zc_iload xj_277 46 4 rfl rfl zf_ild_4 (zc_iconst xj_277 47 1 1 rfl rfl rfl (zc_iadd xj_277 48 rfl rfl (zc_invokevirtual1 xj_277 51 206 247 2 313 9 3 rfl rfl rfl rfl (zc_iload_n xj_277 52 2 rfl rfl zf_ild_2 (zc_iload_n xj_277 53 3 rfl rfl zf_ild_3 (zc_invokevirtual1 xj_277 56 82 201 4 259 9 5 rfl rfl rfl rfl (zc_if_ge xj_277 59 6 62 rfl rfl rfl (zc_iload xj_277 61 5 rfl rfl zf_ild_5 (zc_ireturn0 xj_277 62 rfl rfl (trivial)))))))))))))))))))))))))))))))))
noncomputable def xb_277_0 : List zF := zq_k 0 :: zq_istg zE4 :: xb_277_1
noncomputable def xf_277_0 : zE → zKn := fun E => zq_k 0 (zq_istg zE4 (xf_277_1 E) E) E
theorem xe_277_0 : xf_277_0 = zEx xb_277_0 := by
  unfold xf_277_0 xb_277_0
  rw [xe_277_1]
  rfl
theorem xc_277_0 : zCd 277 [0, 3, 62, 68] 0 xb_277_0 := zc_iconst xj_277 1 0 0 rfl rfl rfl (zc_istore xj_277 3 4 rfl rfl zf_ist_4 (xc_277_1))
noncomputable def xm_277 : Lean.RArray (zE → zKn) := .branch 62 (.branch 3 (.leaf xf_277_0) (.leaf xf_277_1)) (.branch 68 (.leaf xf_277_2) (.leaf xf_277_3))
theorem xa_277 : zCdAll 277 [0, 3, 62, 68] xm_277 := zAll2_ok (P := fun t => ∃ c, zCd 277 [0, 3, 62, 68] t c ∧ xm_277.get t = zEx c) ⟨⟨_, xc_277_0, xe_277_0⟩, ⟨_, xc_277_1, xe_277_1⟩, ⟨_, xc_277_2, xe_277_2⟩, ⟨_, xc_277_3, xe_277_3⟩, trivial⟩
/-- SquareMeshModel.walk -/
theorem xj_278 : ∀ pc, pI 278 pc = pJ_278 pc := fun _ => rfl
noncomputable def xb_278_10 : List zF := [zq_iret 0]
noncomputable def xf_278_10 : zE → zKn := fun E => zq_iret 0 (zNil) E
theorem xe_278_10 : xf_278_10 = zEx xb_278_10 := by
  unfold xf_278_10 xb_278_10
  rfl
theorem xc_278_10 : zCd 278 [0, 26, 28, 31, 54, 78, 112, 122, 133, 148, 149] 149 xb_278_10 := zc_ireturn0 xj_278 150 rfl rfl (trivial)
noncomputable def xb_278_9 : List zF := zq_k 0 :: xb_278_10
noncomputable def xf_278_9 : zE → zKn := fun E => zq_k 0 (xf_278_10 E) E
theorem xe_278_9 : xf_278_9 = zEx xb_278_9 := by
  unfold xf_278_9 xb_278_9
  rw [xe_278_10]
  rfl
theorem xc_278_9 : zCd 278 [0, 26, 28, 31, 54, 78, 112, 122, 133, 148, 149] 148 xb_278_9 := zc_iconst xj_278 149 0 0 rfl rfl rfl (xc_278_10)
noncomputable def xb_278_8 : List zF := [zq_aldg zG0, zq_ildg zG6, zq_ildg zG2, zq_ildg zG3, zq_calli 273 3 9 5, zq_if_eq 148, zq_k 1, zq_goto 149]
noncomputable def xf_278_8 : zE → zKn := fun E => zq_aldg zG0 (zq_ildg zG6 (zq_ildg zG2 (zq_ildg zG3 (zq_calli 273 3 9 5 (zq_if_eq 148 (zq_k 1 (zq_goto 149 (zNil) E) E) E) E) E) E) E) E
theorem xe_278_8 : xf_278_8 = zEx xb_278_8 := by
  unfold xf_278_8 xb_278_8
  rfl
theorem xc_278_8 : zCd 278 [0, 26, 28, 31, 54, 78, 112, 122, 133, 148, 149] 133 xb_278_8 := zc_aload_n xj_278 134 0 rfl rfl zf_ald_0 (zc_iload xj_278 136 6 rfl rfl zf_ild_6 (zc_iload_n xj_278 137 2 rfl rfl zf_ild_2 (zc_iload_n xj_278 138 3 rfl rfl zf_ild_3 (zc_invokevirtual1 xj_278 141 278 273 3 337 9 5 rfl rfl rfl rfl (zc_if_eq xj_278 144 7 148 rfl rfl rfl (zc_iconst xj_278 145 1 1 rfl rfl rfl (zc_goto xj_278 146 4 149 rfl rfl rfl (trivial))))))))
noncomputable def xb_278_7 : List zF := [zq_ildg zG4, zq_k 1, zq_ic_ne 133, zq_ildg zG5, zq_goto 149]
noncomputable def xf_278_7 : zE → zKn := fun E => zq_ildg zG4 (zq_k 1 (zq_ic_ne 133 (zq_ildg zG5 (zq_goto 149 (zNil) E) E) E) E) E
theorem xe_278_7 : xf_278_7 = zEx xb_278_7 := by
  unfold xf_278_7 xb_278_7
  rfl
theorem xc_278_7 : zCd 278 [0, 26, 28, 31, 54, 78, 112, 122, 133, 148, 149] 122 xb_278_7 := zc_iload xj_278 124 4 rfl rfl zf_ild_4 (zc_iconst xj_278 125 1 1 rfl rfl rfl (zc_ic_ne xj_278 128 8 133 rfl rfl rfl (zc_iload xj_278 130 5 rfl rfl zf_ild_5 (zc_goto xj_278 131 19 149 rfl rfl rfl (trivial)))))
noncomputable def xb_278_6 : List zF := [zq_ildg zG4, zq_if_ne 122, zq_ildg zG6, zq_goto 149]
noncomputable def xf_278_6 : zE → zKn := fun E => zq_ildg zG4 (zq_if_ne 122 (zq_ildg zG6 (zq_goto 149 (zNil) E) E) E) E
theorem xe_278_6 : xf_278_6 = zEx xb_278_6 := by
  unfold xf_278_6 xb_278_6
  rfl
theorem xc_278_6 : zCd 278 [0, 26, 28, 31, 54, 78, 112, 122, 133, 148, 149] 112 xb_278_6 := zc_iload xj_278 114 4 rfl rfl zf_ild_4 (zc_if_ne xj_278 117 8 122 rfl rfl rfl (zc_iload xj_278 119 6 rfl rfl zf_ild_6 (zc_goto xj_278 120 30 149 rfl rfl rfl (trivial))))
noncomputable def xb_278_5 : List zF := [zq_ildg zG7, zq_k 4294967295, zq_ic_eq 112, zq_aldg zG0, zq_getfg 9 zG6, zq_ildg zG7, zq_k 1, zq_bast, zq_ildg zG7, zq_istg zE6, zq_incg zG5 zE5 1, zq_aldg zG0, zq_ildg zG6, zq_ildg zG2, zq_ildg zG3, zq_calli 277 3 9 6, zq_istg zE7, zq_goto 78]
noncomputable def xf_278_5 : zE → zKn := fun E => zq_ildg zG7 (zq_k 4294967295 (zq_ic_eq 112 (zq_aldg zG0 (zq_getfg 9 zG6 (zq_ildg zG7 (zq_k 1 (zq_bast (zq_ildg zG7 (zq_istg zE6 (zq_incg zG5 zE5 1 (zq_aldg zG0 (zq_ildg zG6 (zq_ildg zG2 (zq_ildg zG3 (zq_calli 277 3 9 6 (zq_istg zE7 (zq_goto 78 (zNil) E) E) E) E) E) E) E) E) E) E) E) E) E) E) E) E) E) E
theorem xe_278_5 : xf_278_5 = zEx xb_278_5 := by
  unfold xf_278_5 xb_278_5
  rfl
theorem xc_278_5 : zCd 278 [0, 26, 28, 31, 54, 78, 112, 122, 133, 148, 149] 78 xb_278_5 := zc_iload xj_278 80 7 rfl rfl zf_ild_7 (zc_iconst xj_278 81 (-1) 4294967295 rfl rfl rfl (zc_ic_eq xj_278 84 31 112 rfl rfl rfl (zc_aload_n xj_278 85 0 rfl rfl zf_ald_0 (zc_getf xj_278 88 26 9 6 100 rfl rfl (zf_getf_6 _) (zc_iload xj_278 90 7 rfl rfl zf_ild_7 (zc_iconst xj_278 91 1 1 rfl rfl rfl (zc_bastore xj_278 92 rfl rfl (zc_iload xj_278 94 7 rfl rfl zf_ild_7 (zc_istore xj_278 96 6 rfl rfl zf_ist_6 (zc_iinc xj_278 99 5 1 1 rfl rfl rfl (zf_inc_5 _) (zc_aload_n xj_278 100 0 rfl rfl zf_ald_0 (zc_iload xj_278 102 6 rfl rfl zf_ild_6 (zc_iload_n xj_278 103 2 rfl rfl zf_ild_2 (zc_iload_n xj_278 104 3 rfl rfl zf_ild_3 (zc_invokevirtual1 xj_278 107 284 277 3 357 9 6 rfl rfl rfl rfl (zc_istore xj_278 109 7 rfl rfl zf_ist_7 (zc_goto xj_278 110 (-31) 78 rfl rfl rfl (trivial))))))))))))))))))
noncomputable def xb_278_4 : List zF := zq_k 0 :: zq_istg zE5 :: zq_ildg zG1 :: zq_istg zE6 :: zq_aldg zG0 :: zq_getfg 9 zG6 :: zq_ildg zG6 :: zq_k 1 :: zq_bast :: zq_aldg zG0 :: zq_ildg zG6 :: zq_ildg zG2 :: zq_ildg zG3 :: zq_calli 277 3 9 6 :: zq_istg zE7 :: xb_278_5
noncomputable def xf_278_4 : zE → zKn := fun E => zq_k 0 (zq_istg zE5 (zq_ildg zG1 (zq_istg zE6 (zq_aldg zG0 (zq_getfg 9 zG6 (zq_ildg zG6 (zq_k 1 (zq_bast (zq_aldg zG0 (zq_ildg zG6 (zq_ildg zG2 (zq_ildg zG3 (zq_calli 277 3 9 6 (zq_istg zE7 (xf_278_5 E) E) E) E) E) E) E) E) E) E) E) E) E) E) E) E
theorem xe_278_4 : xf_278_4 = zEx xb_278_4 := by
  unfold xf_278_4 xb_278_4
  rw [xe_278_5]
  rfl
theorem xc_278_4 : zCd 278 [0, 26, 28, 31, 54, 78, 112, 122, 133, 148, 149] 54 xb_278_4 := zc_iconst xj_278 55 0 0 rfl rfl rfl (zc_istore xj_278 57 5 rfl rfl zf_ist_5 (zc_iload_n xj_278 58 1 rfl rfl zf_ild_1 (zc_istore xj_278 60 6 rfl rfl zf_ist_6 (zc_aload_n xj_278 61 0 rfl rfl zf_ald_0 (zc_getf xj_278 64 26 9 6 100 rfl rfl (zf_getf_6 _) (zc_iload xj_278 66 6 rfl rfl zf_ild_6 (zc_iconst xj_278 67 1 1 rfl rfl rfl (zc_bastore xj_278 68 rfl rfl (zc_aload_n xj_278 69 0 rfl rfl zf_ald_0 (zc_iload xj_278 71 6 rfl rfl zf_ild_6 (zc_iload_n xj_278 72 2 rfl rfl zf_ild_2 (zc_iload_n xj_278 73 3 rfl rfl zf_ild_3 (zc_invokevirtual1 xj_278 76 284 277 3 357 9 6 rfl rfl rfl rfl (zc_istore xj_278 78 7 rfl rfl zf_ist_7 (xc_278_5)))))))))))))))
noncomputable def xb_278_3 : List zF := [zq_ildg zG5, zq_aldg zG0, zq_getfg 9 zG4, zq_ic_ge 54, zq_aldg zG0, zq_getfg 9 zG6, zq_ildg zG5, zq_k 0, zq_bast, zq_incg zG5 zE5 1, zq_goto 31]
noncomputable def xf_278_3 : zE → zKn := fun E => zq_ildg zG5 (zq_aldg zG0 (zq_getfg 9 zG4 (zq_ic_ge 54 (zq_aldg zG0 (zq_getfg 9 zG6 (zq_ildg zG5 (zq_k 0 (zq_bast (zq_incg zG5 zE5 1 (zq_goto 31 (zNil) E) E) E) E) E) E) E) E) E) E) E
theorem xe_278_3 : xf_278_3 = zEx xb_278_3 := by
  unfold xf_278_3 xb_278_3
  rfl
theorem xc_278_3 : zCd 278 [0, 26, 28, 31, 54, 78, 112, 122, 133, 148, 149] 31 xb_278_3 := zc_iload xj_278 33 5 rfl rfl zf_ild_5 (zc_aload_n xj_278 34 0 rfl rfl zf_ald_0 (zc_getf xj_278 37 134 9 4 98 rfl rfl (zf_getf_4 _) (zc_ic_ge xj_278 40 17 54 rfl rfl rfl (zc_aload_n xj_278 41 0 rfl rfl zf_ald_0 (zc_getf xj_278 44 26 9 6 100 rfl rfl (zf_getf_6 _) (zc_iload xj_278 46 5 rfl rfl zf_ild_5 (zc_iconst xj_278 47 0 0 rfl rfl rfl (zc_bastore xj_278 48 rfl rfl (zc_iinc xj_278 51 5 1 1 rfl rfl rfl (zf_inc_5 _) (zc_goto xj_278 52 (-20) 31 rfl rfl rfl (trivial)))))))))))
noncomputable def xb_278_2 : List zF := zq_k 0 :: zq_istg zE5 :: xb_278_3
noncomputable def xf_278_2 : zE → zKn := fun E => zq_k 0 (zq_istg zE5 (xf_278_3 E) E) E
theorem xe_278_2 : xf_278_2 = zEx xb_278_2 := by
  unfold xf_278_2 xb_278_2
  rw [xe_278_3]
  rfl
theorem xc_278_2 : zCd 278 [0, 26, 28, 31, 54, 78, 112, 122, 133, 148, 149] 28 xb_278_2 := zc_iconst xj_278 29 0 0 rfl rfl rfl (zc_istore xj_278 31 5 rfl rfl zf_ist_5 (xc_278_3))
noncomputable def xb_278_1 : List zF := [zq_k 4294967295, zq_iret 0]
noncomputable def xf_278_1 : zE → zKn := fun E => zq_k 4294967295 (zq_iret 0 (zNil) E) E
theorem xe_278_1 : xf_278_1 = zEx xb_278_1 := by
  unfold xf_278_1 xb_278_1
  rfl
theorem xc_278_1 : zCd 278 [0, 26, 28, 31, 54, 78, 112, 122, 133, 148, 149] 26 xb_278_1 := zc_iconst xj_278 27 (-1) 4294967295 rfl rfl rfl (zc_ireturn0 xj_278 28 rfl rfl (trivial))
noncomputable def xb_278_0 : List zF := zq_aldg zG0 :: zq_ildg zG1 :: zq_calli 264 1 9 2 :: zq_if_eq 26 :: zq_ildg zG2 :: zq_ildg zG3 :: zq_calls 189 2 2 :: zq_if_eq 26 :: zq_ildg zG4 :: zq_k 0 :: zq_k 2 :: zq_calls 188 3 3 :: zq_if_ne 28 :: xb_278_1
noncomputable def xf_278_0 : zE → zKn := fun E => zq_aldg zG0 (zq_ildg zG1 (zq_calli 264 1 9 2 (zq_if_eq 26 (zq_ildg zG2 (zq_ildg zG3 (zq_calls 189 2 2 (zq_if_eq 26 (zq_ildg zG4 (zq_k 0 (zq_k 2 (zq_calls 188 3 3 (zq_if_ne 28 (xf_278_1 E) E) E) E) E) E) E) E) E) E) E) E) E) E
theorem xe_278_0 : xf_278_0 = zEx xb_278_0 := by
  unfold xf_278_0 xb_278_0
  rw [xe_278_1]
  rfl
theorem xc_278_0 : zCd 278 [0, 26, 28, 31, 54, 78, 112, 122, 133, 148, 149] 0 xb_278_0 := zc_aload_n xj_278 1 0 rfl rfl zf_ald_0 (zc_iload_n xj_278 2 1 rfl rfl zf_ild_1 (zc_invokevirtual1 xj_278 5 269 264 1 347 9 2 rfl rfl rfl rfl (zc_if_eq xj_278 8 21 26 rfl rfl rfl (zc_iload_n xj_278 9 2 rfl rfl zf_ild_2 (zc_iload_n xj_278 10 3 rfl rfl zf_ild_3 (zc_invokestatic2 xj_278 13 159 189 2 284 0 2 rfl rfl rfl rfl (zc_if_eq xj_278 16 13 26 rfl rfl rfl (zc_iload xj_278 18 4 rfl rfl zf_ild_4 (zc_iconst xj_278 19 0 0 rfl rfl rfl (zc_iconst xj_278 20 2 2 rfl rfl rfl (zc_invokestatic2 xj_278 23 67 188 3 265 0 3 rfl rfl rfl rfl (zc_if_ne xj_278 26 5 28 rfl rfl rfl (xc_278_1)))))))))))))
noncomputable def xm_278 : Lean.RArray (zE → zKn) := .branch 78 (.branch 28 (.branch 26 (.leaf xf_278_0) (.leaf xf_278_1)) (.branch 31 (.leaf xf_278_2) (.branch 54 (.leaf xf_278_3) (.leaf xf_278_4)))) (.branch 133 (.branch 112 (.leaf xf_278_5) (.branch 122 (.leaf xf_278_6) (.leaf xf_278_7))) (.branch 148 (.leaf xf_278_8) (.branch 149 (.leaf xf_278_9) (.leaf xf_278_10))))
theorem xa_278 : zCdAll 278 [0, 26, 28, 31, 54, 78, 112, 122, 133, 148, 149] xm_278 := zAll2_ok (P := fun t => ∃ c, zCd 278 [0, 26, 28, 31, 54, 78, 112, 122, 133, 148, 149] t c ∧ xm_278.get t = zEx c) ⟨⟨_, xc_278_0, xe_278_0⟩, ⟨_, xc_278_1, xe_278_1⟩, ⟨_, xc_278_2, xe_278_2⟩, ⟨_, xc_278_3, xe_278_3⟩, ⟨_, xc_278_4, xe_278_4⟩, ⟨_, xc_278_5, xe_278_5⟩, ⟨_, xc_278_6, xe_278_6⟩, ⟨_, xc_278_7, xe_278_7⟩, ⟨_, xc_278_8, xe_278_8⟩, ⟨_, xc_278_9, xe_278_9⟩, ⟨_, xc_278_10, xe_278_10⟩, trivial⟩
/-- SquareMeshModel.afterOf -/
theorem xj_279 : ∀ pc, pI 279 pc = pJ_279 pc := fun _ => rfl
noncomputable def xb_279_3 : List zF := [zq_aldg zG0, zq_ildg zG3, zq_ildg zG4, zq_k 2, zq_add, zq_calli 247 2 9 3, zq_iret 0]
noncomputable def xf_279_3 : zE → zKn := fun E => zq_aldg zG0 (zq_ildg zG3 (zq_ildg zG4 (zq_k 2 (zq_add (zq_calli 247 2 9 3 (zq_iret 0 (zNil) E) E) E) E) E) E) E
theorem xe_279_3 : xf_279_3 = zEx xb_279_3 := by
  unfold xf_279_3 xb_279_3
  rfl
theorem xc_279_3 : zCd 279 [0, 14, 17, 34] 34 xb_279_3 := zc_aload_n xj_279 35 0 rfl rfl zf_ald_0 (zc_iload_n xj_279 36 3 rfl rfl zf_ild_3 (zc_iload xj_279 38 4 rfl rfl zf_ild_4 (zc_iconst xj_279 39 2 2 rfl rfl rfl (zc_iadd xj_279 40 rfl rfl (zc_invokevirtual1 xj_279 43 206 247 2 313 9 3 rfl rfl rfl rfl (zc_ireturn0 xj_279 44 rfl rfl (trivial)))))))
noncomputable def xb_279_2 : List zF := [zq_aldg zG0, zq_ildg zG3, zq_ildg zG4, zq_calli 247 2 9 3, zq_ildg zG1, zq_ic_eq 34, zq_incg zG4 zE4 1, zq_goto 17]
noncomputable def xf_279_2 : zE → zKn := fun E => zq_aldg zG0 (zq_ildg zG3 (zq_ildg zG4 (zq_calli 247 2 9 3 (zq_ildg zG1 (zq_ic_eq 34 (zq_incg zG4 zE4 1 (zq_goto 17 (zNil) E) E) E) E) E) E) E) E
theorem xe_279_2 : xf_279_2 = zEx xb_279_2 := by
  unfold xf_279_2 xb_279_2
  rfl
theorem xc_279_2 : zCd 279 [0, 14, 17, 34] 17 xb_279_2 := zc_aload_n xj_279 18 0 rfl rfl zf_ald_0 (zc_iload_n xj_279 19 3 rfl rfl zf_ild_3 (zc_iload xj_279 21 4 rfl rfl zf_ild_4 (zc_invokevirtual1 xj_279 24 206 247 2 313 9 3 rfl rfl rfl rfl (zc_iload_n xj_279 25 1 rfl rfl zf_ild_1 (zc_ic_eq xj_279 28 9 34 rfl rfl rfl (zc_iinc xj_279 31 4 1 1 rfl rfl rfl (zf_inc_4 _) (zc_goto xj_279 32 (-14) 17 rfl rfl rfl (trivial))))))))
noncomputable def xb_279_1 : List zF := zq_k 0 :: zq_istg zE4 :: xb_279_2
noncomputable def xf_279_1 : zE → zKn := fun E => zq_k 0 (zq_istg zE4 (xf_279_2 E) E) E
theorem xe_279_1 : xf_279_1 = zEx xb_279_1 := by
  unfold xf_279_1 xb_279_1
  rw [xe_279_2]
  rfl
theorem xc_279_1 : zCd 279 [0, 14, 17, 34] 14 xb_279_1 := zc_iconst xj_279 15 0 0 rfl rfl rfl (zc_istore xj_279 17 4 rfl rfl zf_ist_4 (xc_279_2))
noncomputable def xb_279_0 : List zF := [zq_aldg zG0, zq_ildg zG1, zq_ildg zG2, zN2 212 3 zg_212, zq_istg zE3, zq_ildg zG3, zq_k 4294967295, zq_ic_ne 14, zq_k 4294967295, zq_iret 0]
noncomputable def xf_279_0 : zE → zKn := fun E => zq_aldg zG0 (zq_ildg zG1 (zq_ildg zG2 (zN2 212 3 zg_212 (zq_istg zE3 (zq_ildg zG3 (zq_k 4294967295 (zq_ic_ne 14 (zq_k 4294967295 (zq_iret 0 (zNil) E) E) E) E) E) E) E) E) E) E
theorem xe_279_0 : xf_279_0 = zEx xb_279_0 := by
  unfold xf_279_0 xb_279_0
  rfl
theorem xc_279_0 : zCd 279 [0, 14, 17, 34] 0 xb_279_0 := zc_aload_n xj_279 1 0 rfl rfl zf_ald_0 (zc_iload_n xj_279 2 1 rfl rfl zf_ild_1 (zc_iload_n xj_279 3 2 rfl rfl zf_ild_2 (zc_any xj_279 6 (.invokevirtual 118) [1, 212, 2, 262, 9, 3] rfl rfl (zN2 212 3 zg_212) rfl rfl (zc_istore_n xj_279 7 3 rfl rfl zf_ist_3 (zc_iload_n xj_279 8 3 rfl rfl zf_ild_3 (zc_iconst xj_279 9 (-1) 4294967295 rfl rfl rfl (zc_ic_ne xj_279 12 5 14 rfl rfl rfl (zc_iconst xj_279 13 (-1) 4294967295 rfl rfl rfl (zc_ireturn0 xj_279 14 rfl rfl (trivial))))))))))
noncomputable def xm_279 : Lean.RArray (zE → zKn) := .branch 17 (.branch 14 (.leaf xf_279_0) (.leaf xf_279_1)) (.branch 34 (.leaf xf_279_2) (.leaf xf_279_3))
theorem xa_279 : zCdAll 279 [0, 14, 17, 34] xm_279 := zAll2_ok (P := fun t => ∃ c, zCd 279 [0, 14, 17, 34] t c ∧ xm_279.get t = zEx c) ⟨⟨_, xc_279_0, xe_279_0⟩, ⟨_, xc_279_1, xe_279_1⟩, ⟨_, xc_279_2, xe_279_2⟩, ⟨_, xc_279_3, xe_279_3⟩, trivial⟩
/-- SquareMeshModel.firstOf -/
theorem xj_280 : ∀ pc, pI 280 pc = pJ_280 pc := fun _ => rfl
noncomputable def xb_280_5 : List zF := [zq_ildg zG2, zq_iret 0]
noncomputable def xf_280_5 : zE → zKn := fun E => zq_ildg zG2 (zq_iret 0 (zNil) E) E
theorem xe_280_5 : xf_280_5 = zEx xb_280_5 := by
  unfold xf_280_5 xb_280_5
  rfl
theorem xc_280_5 : zCd 280 [0, 5, 21, 33, 35, 41] 41 xb_280_5 := zc_iload_n xj_280 42 2 rfl rfl zf_ild_2 (zc_ireturn0 xj_280 43 rfl rfl (trivial))
noncomputable def xb_280_4 : List zF := [zq_incg zG3 zE3 4294967295, zq_goto 5]
noncomputable def xf_280_4 : zE → zKn := fun E => zq_incg zG3 zE3 4294967295 (zq_goto 5 (zNil) E) E
theorem xe_280_4 : xf_280_4 = zEx xb_280_4 := by
  unfold xf_280_4 xb_280_4
  rfl
theorem xc_280_4 : zCd 280 [0, 5, 21, 33, 35, 41] 35 xb_280_4 := zc_iinc xj_280 38 3 (-1) 4294967295 rfl rfl rfl (zf_inc_3 _) (zc_goto xj_280 39 (-33) 5 rfl rfl rfl (trivial))
noncomputable def xb_280_3 : List zF := zq_ildg zG3 :: zq_istg zE2 :: xb_280_4
noncomputable def xf_280_3 : zE → zKn := fun E => zq_ildg zG3 (zq_istg zE2 (xf_280_4 E) E) E
theorem xe_280_3 : xf_280_3 = zEx xb_280_3 := by
  unfold xf_280_3 xb_280_3
  rw [xe_280_4]
  rfl
theorem xc_280_3 : zCd 280 [0, 5, 21, 33, 35, 41] 33 xb_280_3 := zc_iload_n xj_280 34 3 rfl rfl zf_ild_3 (zc_istore_n xj_280 35 2 rfl rfl zf_ist_2 (xc_280_4))
noncomputable def xb_280_2 : List zF := [zq_aldg zG0, zq_ildg zG3, zq_ildg zG1, zN2 212 3 zg_212, zq_k 4294967295, zq_ic_ne 33, zq_ildg zG3, zq_iret 0]
noncomputable def xf_280_2 : zE → zKn := fun E => zq_aldg zG0 (zq_ildg zG3 (zq_ildg zG1 (zN2 212 3 zg_212 (zq_k 4294967295 (zq_ic_ne 33 (zq_ildg zG3 (zq_iret 0 (zNil) E) E) E) E) E) E) E) E
theorem xe_280_2 : xf_280_2 = zEx xb_280_2 := by
  unfold xf_280_2 xb_280_2
  rfl
theorem xc_280_2 : zCd 280 [0, 5, 21, 33, 35, 41] 21 xb_280_2 := zc_aload_n xj_280 22 0 rfl rfl zf_ald_0 (zc_iload_n xj_280 23 3 rfl rfl zf_ild_3 (zc_iload_n xj_280 24 1 rfl rfl zf_ild_1 (zc_any xj_280 27 (.invokevirtual 118) [1, 212, 2, 262, 9, 3] rfl rfl (zN2 212 3 zg_212) rfl rfl (zc_iconst xj_280 28 (-1) 4294967295 rfl rfl rfl (zc_ic_ne xj_280 31 5 33 rfl rfl rfl (zc_iload_n xj_280 32 3 rfl rfl zf_ild_3 (zc_ireturn0 xj_280 33 rfl rfl (trivial))))))))
noncomputable def xb_280_1 : List zF := [zq_ildg zG3, zq_if_lt 41, zq_aldg zG0, zq_ildg zG1, zq_ildg zG3, zN2 213 3 zg_213, zq_if_ne 21, zq_goto 35]
noncomputable def xf_280_1 : zE → zKn := fun E => zq_ildg zG3 (zq_if_lt 41 (zq_aldg zG0 (zq_ildg zG1 (zq_ildg zG3 (zN2 213 3 zg_213 (zq_if_ne 21 (zq_goto 35 (zNil) E) E) E) E) E) E) E) E
theorem xe_280_1 : xf_280_1 = zEx xb_280_1 := by
  unfold xf_280_1 xb_280_1
  rfl
theorem xc_280_1 : zCd 280 [0, 5, 21, 33, 35, 41] 5 xb_280_1 := zc_iload_n xj_280 6 3 rfl rfl zf_ild_3 (zc_if_lt xj_280 9 35 41 rfl rfl rfl (zc_aload_n xj_280 10 0 rfl rfl zf_ald_0 (zc_iload_n xj_280 11 1 rfl rfl zf_ild_1 (zc_iload_n xj_280 12 3 rfl rfl zf_ild_3 (zc_any xj_280 15 (.invokevirtual 234) [1, 213, 2, 321, 9, 3] rfl rfl (zN2 213 3 zg_213) rfl rfl (zc_if_ne xj_280 18 6 21 rfl rfl rfl (zc_goto xj_280 19 17 35 rfl rfl rfl (trivial))))))))
noncomputable def xb_280_0 : List zF := zq_k 4294967295 :: zq_istg zE2 :: zq_k 39 :: zq_istg zE3 :: xb_280_1
noncomputable def xf_280_0 : zE → zKn := fun E => zq_k 4294967295 (zq_istg zE2 (zq_k 39 (zq_istg zE3 (xf_280_1 E) E) E) E) E
theorem xe_280_0 : xf_280_0 = zEx xb_280_0 := by
  unfold xf_280_0 xb_280_0
  rw [xe_280_1]
  rfl
theorem xc_280_0 : zCd 280 [0, 5, 21, 33, 35, 41] 0 xb_280_0 := zc_iconst xj_280 1 (-1) 4294967295 rfl rfl rfl (zc_istore_n xj_280 2 2 rfl rfl zf_ist_2 (zc_bipush xj_280 4 39 39 rfl rfl rfl (zc_istore_n xj_280 5 3 rfl rfl zf_ist_3 (xc_280_1))))
noncomputable def xm_280 : Lean.RArray (zE → zKn) := .branch 33 (.branch 5 (.leaf xf_280_0) (.branch 21 (.leaf xf_280_1) (.leaf xf_280_2))) (.branch 35 (.leaf xf_280_3) (.branch 41 (.leaf xf_280_4) (.leaf xf_280_5)))
theorem xa_280 : zCdAll 280 [0, 5, 21, 33, 35, 41] xm_280 := zAll2_ok (P := fun t => ∃ c, zCd 280 [0, 5, 21, 33, 35, 41] t c ∧ xm_280.get t = zEx c) ⟨⟨_, xc_280_0, xe_280_0⟩, ⟨_, xc_280_1, xe_280_1⟩, ⟨_, xc_280_2, xe_280_2⟩, ⟨_, xc_280_3, xe_280_3⟩, ⟨_, xc_280_4, xe_280_4⟩, ⟨_, xc_280_5, xe_280_5⟩, trivial⟩
/-- SquareMeshModel.layStar -/
theorem xj_281 : ∀ pc, pI 281 pc = pJ_281 pc := fun _ => rfl
noncomputable def xb_281_3 : List zF := [zq_ildg zG2, zq_iret 0]
noncomputable def xf_281_3 : zE → zKn := fun E => zq_ildg zG2 (zq_iret 0 (zNil) E) E
theorem xe_281_3 : xf_281_3 = zEx xb_281_3 := by
  unfold xf_281_3 xb_281_3
  rfl
theorem xc_281_3 : zCd 281 [0, 11, 27, 50] 50 xb_281_3 := zc_iload_n xj_281 51 2 rfl rfl zf_ild_2 (zc_ireturn0 xj_281 52 rfl rfl (trivial))
noncomputable def xb_281_2 : List zF := [zq_aldg zG0, zq_getfg 9 zG7, zq_ildg zG2, zq_ildg zG4, zq_iast, zq_incg zG2 zE2 1, zq_aldg zG0, zq_ildg zG1, zq_ildg zG4, zq_calli 279 2 9 5, zq_istg zE4, zq_goto 11]
noncomputable def xf_281_2 : zE → zKn := fun E => zq_aldg zG0 (zq_getfg 9 zG7 (zq_ildg zG2 (zq_ildg zG4 (zq_iast (zq_incg zG2 zE2 1 (zq_aldg zG0 (zq_ildg zG1 (zq_ildg zG4 (zq_calli 279 2 9 5 (zq_istg zE4 (zq_goto 11 (zNil) E) E) E) E) E) E) E) E) E) E) E) E
theorem xe_281_2 : xf_281_2 = zEx xb_281_2 := by
  unfold xf_281_2 xb_281_2
  rfl
theorem xc_281_2 : zCd 281 [0, 11, 27, 50] 27 xb_281_2 := zc_aload_n xj_281 28 0 rfl rfl zf_ald_0 (zc_getf xj_281 31 30 9 7 101 rfl rfl (zf_getf_7 _) (zc_iload_n xj_281 32 2 rfl rfl zf_ild_2 (zc_iload xj_281 34 4 rfl rfl zf_ild_4 (zc_iastore xj_281 35 rfl rfl (zc_iinc xj_281 38 2 1 1 rfl rfl rfl (zf_inc_2 _) (zc_aload_n xj_281 39 0 rfl rfl zf_ald_0 (zc_iload_n xj_281 40 1 rfl rfl zf_ild_1 (zc_iload xj_281 42 4 rfl rfl zf_ild_4 (zc_invokevirtual1 xj_281 45 290 279 2 322 9 5 rfl rfl rfl rfl (zc_istore xj_281 47 4 rfl rfl zf_ist_4 (zc_goto xj_281 48 (-36) 11 rfl rfl rfl (trivial))))))))))))
noncomputable def xb_281_1 : List zF := zq_ildg zG4 :: zq_k 4294967295 :: zq_ic_eq 50 :: zq_ildg zG2 :: zq_if_eq 27 :: zq_ildg zG4 :: zq_ildg zG3 :: zq_ic_eq 50 :: xb_281_2
noncomputable def xf_281_1 : zE → zKn := fun E => zq_ildg zG4 (zq_k 4294967295 (zq_ic_eq 50 (zq_ildg zG2 (zq_if_eq 27 (zq_ildg zG4 (zq_ildg zG3 (zq_ic_eq 50 (xf_281_2 E) E) E) E) E) E) E) E) E
theorem xe_281_1 : xf_281_1 = zEx xb_281_1 := by
  unfold xf_281_1 xb_281_1
  rw [xe_281_2]
  rfl
theorem xc_281_1 : zCd 281 [0, 11, 27, 50] 11 xb_281_1 := zc_iload xj_281 13 4 rfl rfl zf_ild_4 (zc_iconst xj_281 14 (-1) 4294967295 rfl rfl rfl (zc_ic_eq xj_281 17 36 50 rfl rfl rfl (zc_iload_n xj_281 18 2 rfl rfl zf_ild_2 (zc_if_eq xj_281 21 9 27 rfl rfl rfl (zc_iload xj_281 23 4 rfl rfl zf_ild_4 (zc_iload_n xj_281 24 3 rfl rfl zf_ild_3 (zc_ic_eq xj_281 27 26 50 rfl rfl rfl (xc_281_2))))))))
noncomputable def xb_281_0 : List zF := zq_k 0 :: zq_istg zE2 :: zq_aldg zG0 :: zq_ildg zG1 :: zq_calli 280 1 9 4 :: zq_istg zE3 :: zq_ildg zG3 :: zq_istg zE4 :: xb_281_1
noncomputable def xf_281_0 : zE → zKn := fun E => zq_k 0 (zq_istg zE2 (zq_aldg zG0 (zq_ildg zG1 (zq_calli 280 1 9 4 (zq_istg zE3 (zq_ildg zG3 (zq_istg zE4 (xf_281_1 E) E) E) E) E) E) E) E) E
theorem xe_281_0 : xf_281_0 = zEx xb_281_0 := by
  unfold xf_281_0 xb_281_0
  rw [xe_281_1]
  rfl
theorem xc_281_0 : zCd 281 [0, 11, 27, 50] 0 xb_281_0 := zc_iconst xj_281 1 0 0 rfl rfl rfl (zc_istore_n xj_281 2 2 rfl rfl zf_ist_2 (zc_aload_n xj_281 3 0 rfl rfl zf_ald_0 (zc_iload_n xj_281 4 1 rfl rfl zf_ild_1 (zc_invokevirtual1 xj_281 7 287 280 1 320 9 4 rfl rfl rfl rfl (zc_istore_n xj_281 8 3 rfl rfl zf_ist_3 (zc_iload_n xj_281 9 3 rfl rfl zf_ild_3 (zc_istore xj_281 11 4 rfl rfl zf_ist_4 (xc_281_1))))))))
noncomputable def xm_281 : Lean.RArray (zE → zKn) := .branch 27 (.branch 11 (.leaf xf_281_0) (.leaf xf_281_1)) (.branch 50 (.leaf xf_281_2) (.leaf xf_281_3))
theorem xa_281 : zCdAll 281 [0, 11, 27, 50] xm_281 := zAll2_ok (P := fun t => ∃ c, zCd 281 [0, 11, 27, 50] t c ∧ xm_281.get t = zEx c) ⟨⟨_, xc_281_0, xe_281_0⟩, ⟨_, xc_281_1, xe_281_1⟩, ⟨_, xc_281_2, xe_281_2⟩, ⟨_, xc_281_3, xe_281_3⟩, trivial⟩
/-- SquareMeshModel.star -/
theorem xj_282 : ∀ pc, pI 282 pc = pJ_282 pc := fun _ => rfl
noncomputable def xb_282_2 : List zF := [zq_iret 0]
noncomputable def xf_282_2 : zE → zKn := fun E => zq_iret 0 (zNil) E
theorem xe_282_2 : xf_282_2 = zEx xb_282_2 := by
  unfold xf_282_2 xb_282_2
  rfl
theorem xc_282_2 : zCd 282 [0, 32, 33] 33 xb_282_2 := zc_ireturn0 xj_282 34 rfl rfl (trivial)
noncomputable def xb_282_1 : List zF := zq_k 4294967295 :: xb_282_2
noncomputable def xf_282_1 : zE → zKn := fun E => zq_k 4294967295 (xf_282_2 E) E
theorem xe_282_1 : xf_282_1 = zEx xb_282_1 := by
  unfold xf_282_1 xb_282_1
  rw [xe_282_2]
  rfl
theorem xc_282_1 : zCd 282 [0, 32, 33] 32 xb_282_1 := zc_iconst xj_282 33 (-1) 4294967295 rfl rfl rfl (xc_282_2)
noncomputable def xb_282_0 : List zF := [zq_aldg zG0, zq_ildg zG1, zN1 191 2 zg_191, zq_if_eq 32, zq_ildg zG2, zq_k 0, zq_aldg zG0, zq_ildg zG1, zq_calli 281 1 9 5, zq_k 1, zq_sub, zq_calls 188 3 3, zq_if_eq 32, zq_aldg zG0, zq_getfg 9 zG7, zq_ildg zG2, zq_ild_ 0, zq_goto 33]
noncomputable def xf_282_0 : zE → zKn := fun E => zq_aldg zG0 (zq_ildg zG1 (zN1 191 2 zg_191 (zq_if_eq 32 (zq_ildg zG2 (zq_k 0 (zq_aldg zG0 (zq_ildg zG1 (zq_calli 281 1 9 5 (zq_k 1 (zq_sub (zq_calls 188 3 3 (zq_if_eq 32 (zq_aldg zG0 (zq_getfg 9 zG7 (zq_ildg zG2 (zq_ild_ 0 (zq_goto 33 (zNil) E) E) E) E) E) E) E) E) E) E) E) E) E) E) E) E) E) E
theorem xe_282_0 : xf_282_0 = zEx xb_282_0 := by
  unfold xf_282_0 xb_282_0
  rfl
theorem xc_282_0 : zCd 282 [0, 32, 33] 0 xb_282_0 := zc_aload_n xj_282 1 0 rfl rfl zf_ald_0 (zc_iload_n xj_282 2 1 rfl rfl zf_ild_1 (zc_any xj_282 5 (.invokevirtual 71) [1, 191, 1, 264, 9, 2] rfl rfl (zN1 191 2 zg_191) rfl rfl (zc_if_eq xj_282 8 27 32 rfl rfl rfl (zc_iload_n xj_282 9 2 rfl rfl zf_ild_2 (zc_iconst xj_282 10 0 0 rfl rfl rfl (zc_aload_n xj_282 11 0 rfl rfl zf_ald_0 (zc_iload_n xj_282 12 1 rfl rfl zf_ild_1 (zc_invokevirtual1 xj_282 15 228 281 1 319 9 5 rfl rfl rfl rfl (zc_iconst xj_282 16 1 1 rfl rfl rfl (zc_isub xj_282 17 rfl rfl (zc_invokestatic2 xj_282 20 67 188 3 265 0 3 rfl rfl rfl rfl (zc_if_eq xj_282 23 12 32 rfl rfl rfl (zc_aload_n xj_282 24 0 rfl rfl zf_ald_0 (zc_getf xj_282 27 30 9 7 101 rfl rfl (zf_getf_7 _) (zc_iload_n xj_282 28 2 rfl rfl zf_ild_2 (zc_iaload xj_282 29 rfl rfl (zc_goto xj_282 30 4 33 rfl rfl rfl (trivial))))))))))))))))))
noncomputable def xm_282 : Lean.RArray (zE → zKn) := .branch 32 (.leaf xf_282_0) (.branch 33 (.leaf xf_282_1) (.leaf xf_282_2))
theorem xa_282 : zCdAll 282 [0, 32, 33] xm_282 := zAll2_ok (P := fun t => ∃ c, zCd 282 [0, 32, 33] t c ∧ xm_282.get t = zEx c) ⟨⟨_, xc_282_0, xe_282_0⟩, ⟨_, xc_282_1, xe_282_1⟩, ⟨_, xc_282_2, xe_282_2⟩, trivial⟩
/-- SquareMeshModel.layFar -/
theorem xj_283 : ∀ pc, pI 283 pc = pJ_283 pc := fun _ => rfl
noncomputable def xb_283_10 : List zF := [zq_vret]
noncomputable def xf_283_10 : zE → zKn := fun E => zq_vret (zNil) E
theorem xe_283_10 : xf_283_10 = zEx xb_283_10 := by
  unfold xf_283_10 xb_283_10
  rfl
theorem xc_283_10 : zCd 283 [0, 2, 21, 32, 41, 51, 94, 106, 112, 118, 124] 124 xb_283_10 := zc_return_ xj_283 125 rfl rfl (trivial)
noncomputable def xb_283_9 : List zF := [zq_incg zG3 zE3 1, zq_goto 32]
noncomputable def xf_283_9 : zE → zKn := fun E => zq_incg zG3 zE3 1 (zq_goto 32 (zNil) E) E
theorem xe_283_9 : xf_283_9 = zEx xb_283_9 := by
  unfold xf_283_9 xb_283_9
  rfl
theorem xc_283_9 : zCd 283 [0, 2, 21, 32, 41, 51, 94, 106, 112, 118, 124] 118 xb_283_9 := zc_iinc xj_283 121 3 1 1 rfl rfl rfl (zf_inc_3 _) (zc_goto xj_283 122 (-89) 32 rfl rfl rfl (trivial))
noncomputable def xb_283_8 : List zF := [zq_incg zG4 zE4 1, zq_goto 41]
noncomputable def xf_283_8 : zE → zKn := fun E => zq_incg zG4 zE4 1 (zq_goto 41 (zNil) E) E
theorem xe_283_8 : xf_283_8 = zEx xb_283_8 := by
  unfold xf_283_8 xb_283_8
  rfl
theorem xc_283_8 : zCd 283 [0, 2, 21, 32, 41, 51, 94, 106, 112, 118, 124] 112 xb_283_8 := zc_iinc xj_283 115 4 1 1 rfl rfl rfl (zf_inc_4 _) (zc_goto xj_283 116 (-74) 41 rfl rfl rfl (trivial))
noncomputable def xb_283_7 : List zF := [zq_incg zG5 zE5 1, zq_goto 51]
noncomputable def xf_283_7 : zE → zKn := fun E => zq_incg zG5 zE5 1 (zq_goto 51 (zNil) E) E
theorem xe_283_7 : xf_283_7 = zEx xb_283_7 := by
  unfold xf_283_7 xb_283_7
  rfl
theorem xc_283_7 : zCd 283 [0, 2, 21, 32, 41, 51, 94, 106, 112, 118, 124] 106 xb_283_7 := zc_iinc xj_283 109 5 1 1 rfl rfl rfl (zf_inc_5 _) (zc_goto xj_283 110 (-58) 51 rfl rfl rfl (trivial))
noncomputable def xb_283_6 : List zF := zq_aldg zG0 :: zq_getfg 9 zG8 :: zq_ildg zG5 :: zq_ildg zG3 :: zq_k 1 :: zq_add :: zq_iast :: zq_k 1 :: zq_istg zE2 :: xb_283_7
noncomputable def xf_283_6 : zE → zKn := fun E => zq_aldg zG0 (zq_getfg 9 zG8 (zq_ildg zG5 (zq_ildg zG3 (zq_k 1 (zq_add (zq_iast (zq_k 1 (zq_istg zE2 (xf_283_7 E) E) E) E) E) E) E) E) E) E
theorem xe_283_6 : xf_283_6 = zEx xb_283_6 := by
  unfold xf_283_6 xb_283_6
  rw [xe_283_7]
  rfl
theorem xc_283_6 : zCd 283 [0, 2, 21, 32, 41, 51, 94, 106, 112, 118, 124] 94 xb_283_6 := zc_aload_n xj_283 95 0 rfl rfl zf_ald_0 (zc_getf xj_283 98 33 9 8 102 rfl rfl (zf_getf_8 _) (zc_iload xj_283 100 5 rfl rfl zf_ild_5 (zc_iload_n xj_283 101 3 rfl rfl zf_ild_3 (zc_iconst xj_283 102 1 1 rfl rfl rfl (zc_iadd xj_283 103 rfl rfl (zc_iastore xj_283 104 rfl rfl (zc_iconst xj_283 105 1 1 rfl rfl rfl (zc_istore_n xj_283 106 2 rfl rfl zf_ist_2 (xc_283_7)))))))))
noncomputable def xb_283_5 : List zF := [zq_ildg zG5, zq_k 40, zq_ic_ge 112, zq_aldg zG0, zq_getfg 9 zG8, zq_ildg zG4, zq_ild_ 0, zq_ildg zG3, zq_ic_ne 112, zq_aldg zG0, zq_getfg 9 zG8, zq_ildg zG5, zq_ild_ 0, zq_k 4294967295, zq_ic_ne 106, zq_aldg zG0, zq_ildg zG4, zq_ildg zG5, zN2 213 3 zg_213, zq_if_ne 94, zq_goto 106]
noncomputable def xf_283_5 : zE → zKn := fun E => zq_ildg zG5 (zq_k 40 (zq_ic_ge 112 (zq_aldg zG0 (zq_getfg 9 zG8 (zq_ildg zG4 (zq_ild_ 0 (zq_ildg zG3 (zq_ic_ne 112 (zq_aldg zG0 (zq_getfg 9 zG8 (zq_ildg zG5 (zq_ild_ 0 (zq_k 4294967295 (zq_ic_ne 106 (zq_aldg zG0 (zq_ildg zG4 (zq_ildg zG5 (zN2 213 3 zg_213 (zq_if_ne 94 (zq_goto 106 (zNil) E) E) E) E) E) E) E) E) E) E) E) E) E) E) E) E) E) E) E) E) E
theorem xe_283_5 : xf_283_5 = zEx xb_283_5 := by
  unfold xf_283_5 xb_283_5
  rfl
theorem xc_283_5 : zCd 283 [0, 2, 21, 32, 41, 51, 94, 106, 112, 118, 124] 51 xb_283_5 := zc_iload xj_283 53 5 rfl rfl zf_ild_5 (zc_bipush xj_283 55 40 40 rfl rfl rfl (zc_ic_ge xj_283 58 57 112 rfl rfl rfl (zc_aload_n xj_283 59 0 rfl rfl zf_ald_0 (zc_getf xj_283 62 33 9 8 102 rfl rfl (zf_getf_8 _) (zc_iload xj_283 64 4 rfl rfl zf_ild_4 (zc_iaload xj_283 65 rfl rfl (zc_iload_n xj_283 66 3 rfl rfl zf_ild_3 (zc_ic_ne xj_283 69 46 112 rfl rfl rfl (zc_aload_n xj_283 70 0 rfl rfl zf_ald_0 (zc_getf xj_283 73 33 9 8 102 rfl rfl (zf_getf_8 _) (zc_iload xj_283 75 5 rfl rfl zf_ild_5 (zc_iaload xj_283 76 rfl rfl (zc_iconst xj_283 77 (-1) 4294967295 rfl rfl rfl (zc_ic_ne xj_283 80 29 106 rfl rfl rfl (zc_aload_n xj_283 81 0 rfl rfl zf_ald_0 (zc_iload xj_283 83 4 rfl rfl zf_ild_4 (zc_iload xj_283 85 5 rfl rfl zf_ild_5 (zc_any xj_283 88 (.invokevirtual 234) [1, 213, 2, 321, 9, 3] rfl rfl (zN2 213 3 zg_213) rfl rfl (zc_if_ne xj_283 91 6 94 rfl rfl rfl (zc_goto xj_283 92 15 106 rfl rfl rfl (trivial)))))))))))))))))))))
noncomputable def xb_283_4 : List zF := zq_ildg zG4 :: zq_k 40 :: zq_ic_ge 118 :: zq_k 0 :: zq_istg zE5 :: xb_283_5
noncomputable def xf_283_4 : zE → zKn := fun E => zq_ildg zG4 (zq_k 40 (zq_ic_ge 118 (zq_k 0 (zq_istg zE5 (xf_283_5 E) E) E) E) E) E
theorem xe_283_4 : xf_283_4 = zEx xb_283_4 := by
  unfold xf_283_4 xb_283_4
  rw [xe_283_5]
  rfl
theorem xc_283_4 : zCd 283 [0, 2, 21, 32, 41, 51, 94, 106, 112, 118, 124] 41 xb_283_4 := zc_iload xj_283 43 4 rfl rfl zf_ild_4 (zc_bipush xj_283 45 40 40 rfl rfl rfl (zc_ic_ge xj_283 48 73 118 rfl rfl rfl (zc_iconst xj_283 49 0 0 rfl rfl rfl (zc_istore xj_283 51 5 rfl rfl zf_ist_5 (xc_283_5)))))
noncomputable def xb_283_3 : List zF := zq_ildg zG2 :: zq_if_eq 124 :: zq_k 0 :: zq_istg zE2 :: zq_k 0 :: zq_istg zE4 :: xb_283_4
noncomputable def xf_283_3 : zE → zKn := fun E => zq_ildg zG2 (zq_if_eq 124 (zq_k 0 (zq_istg zE2 (zq_k 0 (zq_istg zE4 (xf_283_4 E) E) E) E) E) E) E
theorem xe_283_3 : xf_283_3 = zEx xb_283_3 := by
  unfold xf_283_3 xb_283_3
  rw [xe_283_4]
  rfl
theorem xc_283_3 : zCd 283 [0, 2, 21, 32, 41, 51, 94, 106, 112, 118, 124] 32 xb_283_3 := zc_iload_n xj_283 33 2 rfl rfl zf_ild_2 (zc_if_eq xj_283 36 91 124 rfl rfl rfl (zc_iconst xj_283 37 0 0 rfl rfl rfl (zc_istore_n xj_283 38 2 rfl rfl zf_ist_2 (zc_iconst xj_283 39 0 0 rfl rfl rfl (zc_istore xj_283 41 4 rfl rfl zf_ist_4 (xc_283_4))))))
noncomputable def xb_283_2 : List zF := zq_aldg zG0 :: zq_getfg 9 zG8 :: zq_ildg zG1 :: zq_k 0 :: zq_iast :: zq_k 1 :: zq_istg zE2 :: zq_k 0 :: zq_istg zE3 :: xb_283_3
noncomputable def xf_283_2 : zE → zKn := fun E => zq_aldg zG0 (zq_getfg 9 zG8 (zq_ildg zG1 (zq_k 0 (zq_iast (zq_k 1 (zq_istg zE2 (zq_k 0 (zq_istg zE3 (xf_283_3 E) E) E) E) E) E) E) E) E) E
theorem xe_283_2 : xf_283_2 = zEx xb_283_2 := by
  unfold xf_283_2 xb_283_2
  rw [xe_283_3]
  rfl
theorem xc_283_2 : zCd 283 [0, 2, 21, 32, 41, 51, 94, 106, 112, 118, 124] 21 xb_283_2 := zc_aload_n xj_283 22 0 rfl rfl zf_ald_0 (zc_getf xj_283 25 33 9 8 102 rfl rfl (zf_getf_8 _) (zc_iload_n xj_283 26 1 rfl rfl zf_ild_1 (zc_iconst xj_283 27 0 0 rfl rfl rfl (zc_iastore xj_283 28 rfl rfl (zc_iconst xj_283 29 1 1 rfl rfl rfl (zc_istore_n xj_283 30 2 rfl rfl zf_ist_2 (zc_iconst xj_283 31 0 0 rfl rfl rfl (zc_istore_n xj_283 32 3 rfl rfl zf_ist_3 (xc_283_3)))))))))
noncomputable def xb_283_1 : List zF := [zq_ildg zG2, zq_k 40, zq_ic_ge 21, zq_aldg zG0, zq_getfg 9 zG8, zq_ildg zG2, zq_k 4294967295, zq_iast, zq_incg zG2 zE2 1, zq_goto 2]
noncomputable def xf_283_1 : zE → zKn := fun E => zq_ildg zG2 (zq_k 40 (zq_ic_ge 21 (zq_aldg zG0 (zq_getfg 9 zG8 (zq_ildg zG2 (zq_k 4294967295 (zq_iast (zq_incg zG2 zE2 1 (zq_goto 2 (zNil) E) E) E) E) E) E) E) E) E) E
theorem xe_283_1 : xf_283_1 = zEx xb_283_1 := by
  unfold xf_283_1 xb_283_1
  rfl
theorem xc_283_1 : zCd 283 [0, 2, 21, 32, 41, 51, 94, 106, 112, 118, 124] 2 xb_283_1 := zc_iload_n xj_283 3 2 rfl rfl zf_ild_2 (zc_bipush xj_283 5 40 40 rfl rfl rfl (zc_ic_ge xj_283 8 16 21 rfl rfl rfl (zc_aload_n xj_283 9 0 rfl rfl zf_ald_0 (zc_getf xj_283 12 33 9 8 102 rfl rfl (zf_getf_8 _) (zc_iload_n xj_283 13 2 rfl rfl zf_ild_2 (zc_iconst xj_283 14 (-1) 4294967295 rfl rfl rfl (zc_iastore xj_283 15 rfl rfl (zc_iinc xj_283 18 2 1 1 rfl rfl rfl (zf_inc_2 _) (zc_goto xj_283 19 (-16) 2 rfl rfl rfl (trivial))))))))))
noncomputable def xb_283_0 : List zF := zq_k 0 :: zq_istg zE2 :: xb_283_1
noncomputable def xf_283_0 : zE → zKn := fun E => zq_k 0 (zq_istg zE2 (xf_283_1 E) E) E
theorem xe_283_0 : xf_283_0 = zEx xb_283_0 := by
  unfold xf_283_0 xb_283_0
  rw [xe_283_1]
  rfl
theorem xc_283_0 : zCd 283 [0, 2, 21, 32, 41, 51, 94, 106, 112, 118, 124] 0 xb_283_0 := zc_iconst xj_283 1 0 0 rfl rfl rfl (zc_istore_n xj_283 2 2 rfl rfl zf_ist_2 (xc_283_1))
noncomputable def xm_283 : Lean.RArray (zE → zKn) := .branch 51 (.branch 21 (.branch 2 (.leaf xf_283_0) (.leaf xf_283_1)) (.branch 32 (.leaf xf_283_2) (.branch 41 (.leaf xf_283_3) (.leaf xf_283_4)))) (.branch 112 (.branch 94 (.leaf xf_283_5) (.branch 106 (.leaf xf_283_6) (.leaf xf_283_7))) (.branch 118 (.leaf xf_283_8) (.branch 124 (.leaf xf_283_9) (.leaf xf_283_10))))
theorem xa_283 : zCdAll 283 [0, 2, 21, 32, 41, 51, 94, 106, 112, 118, 124] xm_283 := zAll2_ok (P := fun t => ∃ c, zCd 283 [0, 2, 21, 32, 41, 51, 94, 106, 112, 118, 124] t c ∧ xm_283.get t = zEx c) ⟨⟨_, xc_283_0, xe_283_0⟩, ⟨_, xc_283_1, xe_283_1⟩, ⟨_, xc_283_2, xe_283_2⟩, ⟨_, xc_283_3, xe_283_3⟩, ⟨_, xc_283_4, xe_283_4⟩, ⟨_, xc_283_5, xe_283_5⟩, ⟨_, xc_283_6, xe_283_6⟩, ⟨_, xc_283_7, xe_283_7⟩, ⟨_, xc_283_8, xe_283_8⟩, ⟨_, xc_283_9, xe_283_9⟩, ⟨_, xc_283_10, xe_283_10⟩, trivial⟩
/-- SquareMeshModel.ring -/
theorem xj_284 : ∀ pc, pI 284 pc = pJ_284 pc := fun _ => rfl
noncomputable def xb_284_5 : List zF := [zq_lldg zG3, zq_lret]
noncomputable def xf_284_5 : zE → zKn := fun E => zq_lldg zG3 (zq_lret (zNil) E) E
theorem xe_284_5 : xf_284_5 = zEx xb_284_5 := by
  unfold xf_284_5 xb_284_5
  rfl
theorem xc_284_5 : zCd 284 [0, 12, 14, 24, 49, 55] 55 xb_284_5 := zc_lload_n xj_284 56 3 rfl rfl zf_lld_3 (zc_lreturn xj_284 57 rfl rfl (trivial))
noncomputable def xb_284_4 : List zF := [zq_incg zG5 zE5 1, zq_goto 24]
noncomputable def xf_284_4 : zE → zKn := fun E => zq_incg zG5 zE5 1 (zq_goto 24 (zNil) E) E
theorem xe_284_4 : xf_284_4 = zEx xb_284_4 := by
  unfold xf_284_4 xb_284_4
  rfl
theorem xc_284_4 : zCd 284 [0, 12, 14, 24, 49, 55] 49 xb_284_4 := zc_iinc xj_284 52 5 1 1 rfl rfl rfl (zf_inc_5 _) (zc_goto xj_284 53 (-28) 24 rfl rfl rfl (trivial))
noncomputable def xb_284_3 : List zF := zq_ildg zG5 :: zq_k 40 :: zq_ic_ge 55 :: zq_aldg zG0 :: zq_getfg 9 zG8 :: zq_ildg zG5 :: zq_ild_ 0 :: zq_ildg zG2 :: zq_ic_ne 49 :: zq_lldg zG3 :: zq_kl 1 :: zq_ildg zG5 :: zq_lshl :: zq_lor :: zq_lst 3 :: xb_284_4
noncomputable def xf_284_3 : zE → zKn := fun E => zq_ildg zG5 (zq_k 40 (zq_ic_ge 55 (zq_aldg zG0 (zq_getfg 9 zG8 (zq_ildg zG5 (zq_ild_ 0 (zq_ildg zG2 (zq_ic_ne 49 (zq_lldg zG3 (zq_kl 1 (zq_ildg zG5 (zq_lshl (zq_lor (zq_lst 3 (xf_284_4 E) E) E) E) E) E) E) E) E) E) E) E) E) E) E) E
theorem xe_284_3 : xf_284_3 = zEx xb_284_3 := by
  unfold xf_284_3 xb_284_3
  rw [xe_284_4]
  rfl
theorem xc_284_3 : zCd 284 [0, 12, 14, 24, 49, 55] 24 xb_284_3 := zc_iload xj_284 26 5 rfl rfl zf_ild_5 (zc_bipush xj_284 28 40 40 rfl rfl rfl (zc_ic_ge xj_284 31 27 55 rfl rfl rfl (zc_aload_n xj_284 32 0 rfl rfl zf_ald_0 (zc_getf xj_284 35 33 9 8 102 rfl rfl (zf_getf_8 _) (zc_iload xj_284 37 5 rfl rfl zf_ild_5 (zc_iaload xj_284 38 rfl rfl (zc_iload_n xj_284 39 2 rfl rfl zf_ild_2 (zc_ic_ne xj_284 42 10 49 rfl rfl rfl (zc_lload_n xj_284 43 3 rfl rfl zf_lld_3 (zc_lconst xj_284 44 1 rfl rfl (zc_iload xj_284 46 5 rfl rfl zf_ild_5 (zc_lshl xj_284 47 rfl rfl (zc_lor xj_284 48 rfl rfl (zc_lstore_n xj_284 49 3 rfl rfl rfl (xc_284_4)))))))))))))))
noncomputable def xb_284_2 : List zF := zq_aldg zG0 :: zq_ildg zG1 :: zq_calli 283 1 9 6 :: zq_kl 0 :: zq_lst 3 :: zq_k 0 :: zq_istg zE5 :: xb_284_3
noncomputable def xf_284_2 : zE → zKn := fun E => zq_aldg zG0 (zq_ildg zG1 (zq_calli 283 1 9 6 (zq_kl 0 (zq_lst 3 (zq_k 0 (zq_istg zE5 (xf_284_3 E) E) E) E) E) E) E) E
theorem xe_284_2 : xf_284_2 = zEx xb_284_2 := by
  unfold xf_284_2 xb_284_2
  rw [xe_284_3]
  rfl
theorem xc_284_2 : zCd 284 [0, 12, 14, 24, 49, 55] 14 xb_284_2 := zc_aload_n xj_284 15 0 rfl rfl zf_ald_0 (zc_iload_n xj_284 16 1 rfl rfl zf_ild_1 (zc_invokevirtual1 xj_284 19 293 283 1 360 9 6 rfl rfl rfl rfl (zc_lconst xj_284 20 0 rfl rfl (zc_lstore_n xj_284 21 3 rfl rfl rfl (zc_iconst xj_284 22 0 0 rfl rfl rfl (zc_istore xj_284 24 5 rfl rfl zf_ist_5 (xc_284_3)))))))
noncomputable def xb_284_1 : List zF := [zq_kl 0, zq_lret]
noncomputable def xf_284_1 : zE → zKn := fun E => zq_kl 0 (zq_lret (zNil) E) E
theorem xe_284_1 : xf_284_1 = zEx xb_284_1 := by
  unfold xf_284_1 xb_284_1
  rfl
theorem xc_284_1 : zCd 284 [0, 12, 14, 24, 49, 55] 12 xb_284_1 := zc_lconst xj_284 13 0 rfl rfl (zc_lreturn xj_284 14 rfl rfl (trivial))
noncomputable def xb_284_0 : List zF := zq_aldg zG0 :: zq_ildg zG1 :: zN1 191 2 zg_191 :: zq_if_eq 12 :: zq_ildg zG2 :: zq_if_ge 14 :: xb_284_1
noncomputable def xf_284_0 : zE → zKn := fun E => zq_aldg zG0 (zq_ildg zG1 (zN1 191 2 zg_191 (zq_if_eq 12 (zq_ildg zG2 (zq_if_ge 14 (xf_284_1 E) E) E) E) E) E) E
theorem xe_284_0 : xf_284_0 = zEx xb_284_0 := by
  unfold xf_284_0 xb_284_0
  rw [xe_284_1]
  rfl
theorem xc_284_0 : zCd 284 [0, 12, 14, 24, 49, 55] 0 xb_284_0 := zc_aload_n xj_284 1 0 rfl rfl zf_ald_0 (zc_iload_n xj_284 2 1 rfl rfl zf_ild_1 (zc_any xj_284 5 (.invokevirtual 71) [1, 191, 1, 264, 9, 2] rfl rfl (zN1 191 2 zg_191) rfl rfl (zc_if_eq xj_284 8 7 12 rfl rfl rfl (zc_iload_n xj_284 9 2 rfl rfl zf_ild_2 (zc_if_ge xj_284 12 5 14 rfl rfl rfl (xc_284_1))))))
noncomputable def xm_284 : Lean.RArray (zE → zKn) := .branch 24 (.branch 12 (.leaf xf_284_0) (.branch 14 (.leaf xf_284_1) (.leaf xf_284_2))) (.branch 49 (.leaf xf_284_3) (.branch 55 (.leaf xf_284_4) (.leaf xf_284_5)))
theorem xa_284 : zCdAll 284 [0, 12, 14, 24, 49, 55] xm_284 := zAll2_ok (P := fun t => ∃ c, zCd 284 [0, 12, 14, 24, 49, 55] t c ∧ xm_284.get t = zEx c) ⟨⟨_, xc_284_0, xe_284_0⟩, ⟨_, xc_284_1, xe_284_1⟩, ⟨_, xc_284_2, xe_284_2⟩, ⟨_, xc_284_3, xe_284_3⟩, ⟨_, xc_284_4, xe_284_4⟩, ⟨_, xc_284_5, xe_284_5⟩, trivial⟩
/-- SquareMeshModel.crossed -/
theorem xj_285 : ∀ pc, pI 285 pc = pJ_285 pc := fun _ => rfl
noncomputable def xb_285_7 : List zF := [zq_ildg zG3, zq_iret 0]
noncomputable def xf_285_7 : zE → zKn := fun E => zq_ildg zG3 (zq_iret 0 (zNil) E) E
theorem xe_285_7 : xf_285_7 = zEx xb_285_7 := by
  unfold xf_285_7 xb_285_7
  rfl
theorem xc_285_7 : zCd 285 [0, 11, 16, 26, 62, 63, 71, 77] 77 xb_285_7 := zc_iload_n xj_285 78 3 rfl rfl zf_ild_3 (zc_ireturn0 xj_285 79 rfl rfl (trivial))
noncomputable def xb_285_6 : List zF := [zq_incg zG4 zE4 1, zq_goto 16]
noncomputable def xf_285_6 : zE → zKn := fun E => zq_incg zG4 zE4 1 (zq_goto 16 (zNil) E) E
theorem xe_285_6 : xf_285_6 = zEx xb_285_6 := by
  unfold xf_285_6 xb_285_6
  rfl
theorem xc_285_6 : zCd 285 [0, 11, 16, 26, 62, 63, 71, 77] 71 xb_285_6 := zc_iinc xj_285 74 4 1 1 rfl rfl rfl (zf_inc_4 _) (zc_goto xj_285 75 (-58) 16 rfl rfl rfl (trivial))
noncomputable def xb_285_5 : List zF := [zq_add, zq_istg zE3, zq_incg zG5 zE5 1, zq_goto 26]
noncomputable def xf_285_5 : zE → zKn := fun E => zq_add (zq_istg zE3 (zq_incg zG5 zE5 1 (zq_goto 26 (zNil) E) E) E) E
theorem xe_285_5 : xf_285_5 = zEx xb_285_5 := by
  unfold xf_285_5 xb_285_5
  rfl
theorem xc_285_5 : zCd 285 [0, 11, 16, 26, 62, 63, 71, 77] 63 xb_285_5 := zc_iadd xj_285 64 rfl rfl (zc_istore_n xj_285 65 3 rfl rfl zf_ist_3 (zc_iinc xj_285 68 5 1 1 rfl rfl rfl (zf_inc_5 _) (zc_goto xj_285 69 (-42) 26 rfl rfl rfl (trivial))))
noncomputable def xb_285_4 : List zF := zq_k 0 :: xb_285_5
noncomputable def xf_285_4 : zE → zKn := fun E => zq_k 0 (xf_285_5 E) E
theorem xe_285_4 : xf_285_4 = zEx xb_285_4 := by
  unfold xf_285_4 xb_285_4
  rw [xe_285_5]
  rfl
theorem xc_285_4 : zCd 285 [0, 11, 16, 26, 62, 63, 71, 77] 62 xb_285_4 := zc_iconst xj_285 63 0 0 rfl rfl rfl (xc_285_5)
noncomputable def xb_285_3 : List zF := [zq_ildg zG5, zq_ildg zG4, zq_ic_ge 71, zq_ildg zG3, zq_aldg zG0, zq_ildg zG4, zq_ildg zG5, zN2 213 3 zg_213, zq_if_eq 62, zq_aldg zG0, zq_ildg zG1, zq_ildg zG2, zq_ildg zG4, zq_ildg zG5, zq_calli 206 4 9 5, zq_if_eq 62, zq_k 1, zq_goto 63]
noncomputable def xf_285_3 : zE → zKn := fun E => zq_ildg zG5 (zq_ildg zG4 (zq_ic_ge 71 (zq_ildg zG3 (zq_aldg zG0 (zq_ildg zG4 (zq_ildg zG5 (zN2 213 3 zg_213 (zq_if_eq 62 (zq_aldg zG0 (zq_ildg zG1 (zq_ildg zG2 (zq_ildg zG4 (zq_ildg zG5 (zq_calli 206 4 9 5 (zq_if_eq 62 (zq_k 1 (zq_goto 63 (zNil) E) E) E) E) E) E) E) E) E) E) E) E) E) E) E) E) E) E
theorem xe_285_3 : xf_285_3 = zEx xb_285_3 := by
  unfold xf_285_3 xb_285_3
  rfl
theorem xc_285_3 : zCd 285 [0, 11, 16, 26, 62, 63, 71, 77] 26 xb_285_3 := zc_iload xj_285 28 5 rfl rfl zf_ild_5 (zc_iload xj_285 30 4 rfl rfl zf_ild_4 (zc_ic_ge xj_285 33 41 71 rfl rfl rfl (zc_iload_n xj_285 34 3 rfl rfl zf_ild_3 (zc_aload_n xj_285 35 0 rfl rfl zf_ald_0 (zc_iload xj_285 37 4 rfl rfl zf_ild_4 (zc_iload xj_285 39 5 rfl rfl zf_ild_5 (zc_any xj_285 42 (.invokevirtual 234) [1, 213, 2, 321, 9, 3] rfl rfl (zN2 213 3 zg_213) rfl rfl (zc_if_eq xj_285 45 20 62 rfl rfl rfl (zc_aload_n xj_285 46 0 rfl rfl zf_ald_0 (zc_iload_n xj_285 47 1 rfl rfl zf_ild_1 (zc_iload_n xj_285 48 2 rfl rfl zf_ild_2 (zc_iload xj_285 50 4 rfl rfl zf_ild_4 (zc_iload xj_285 52 5 rfl rfl zf_ild_5 (zc_invokevirtual1 xj_285 55 105 206 4 272 9 5 rfl rfl rfl rfl (zc_if_eq xj_285 58 7 62 rfl rfl rfl (zc_iconst xj_285 59 1 1 rfl rfl rfl (zc_goto xj_285 60 4 63 rfl rfl rfl (trivial))))))))))))))))))
noncomputable def xb_285_2 : List zF := zq_ildg zG4 :: zq_k 40 :: zq_ic_ge 77 :: zq_k 0 :: zq_istg zE5 :: xb_285_3
noncomputable def xf_285_2 : zE → zKn := fun E => zq_ildg zG4 (zq_k 40 (zq_ic_ge 77 (zq_k 0 (zq_istg zE5 (xf_285_3 E) E) E) E) E) E
theorem xe_285_2 : xf_285_2 = zEx xb_285_2 := by
  unfold xf_285_2 xb_285_2
  rw [xe_285_3]
  rfl
theorem xc_285_2 : zCd 285 [0, 11, 16, 26, 62, 63, 71, 77] 16 xb_285_2 := zc_iload xj_285 18 4 rfl rfl zf_ild_4 (zc_bipush xj_285 20 40 40 rfl rfl rfl (zc_ic_ge xj_285 23 57 77 rfl rfl rfl (zc_iconst xj_285 24 0 0 rfl rfl rfl (zc_istore xj_285 26 5 rfl rfl zf_ist_5 (xc_285_3)))))
noncomputable def xb_285_1 : List zF := zq_k 0 :: zq_istg zE3 :: zq_k 0 :: zq_istg zE4 :: xb_285_2
noncomputable def xf_285_1 : zE → zKn := fun E => zq_k 0 (zq_istg zE3 (zq_k 0 (zq_istg zE4 (xf_285_2 E) E) E) E) E
theorem xe_285_1 : xf_285_1 = zEx xb_285_1 := by
  unfold xf_285_1 xb_285_1
  rw [xe_285_2]
  rfl
theorem xc_285_1 : zCd 285 [0, 11, 16, 26, 62, 63, 71, 77] 11 xb_285_1 := zc_iconst xj_285 12 0 0 rfl rfl rfl (zc_istore_n xj_285 13 3 rfl rfl zf_ist_3 (zc_iconst xj_285 14 0 0 rfl rfl rfl (zc_istore xj_285 16 4 rfl rfl zf_ist_4 (xc_285_2))))
noncomputable def xb_285_0 : List zF := [zq_aldg zG0, zq_ildg zG1, zq_ildg zG2, zq_calli 239 2 9 3, zq_if_ne 11, zq_k 4294967295, zq_iret 0]
noncomputable def xf_285_0 : zE → zKn := fun E => zq_aldg zG0 (zq_ildg zG1 (zq_ildg zG2 (zq_calli 239 2 9 3 (zq_if_ne 11 (zq_k 4294967295 (zq_iret 0 (zNil) E) E) E) E) E) E) E
theorem xe_285_0 : xf_285_0 = zEx xb_285_0 := by
  unfold xf_285_0 xb_285_0
  rfl
theorem xc_285_0 : zCd 285 [0, 11, 16, 26, 62, 63, 71, 77] 0 xb_285_0 := zc_aload_n xj_285 1 0 rfl rfl zf_ald_0 (zc_iload_n xj_285 2 1 rfl rfl zf_ild_1 (zc_iload_n xj_285 3 2 rfl rfl zf_ild_2 (zc_invokevirtual1 xj_285 6 194 239 2 303 9 3 rfl rfl rfl rfl (zc_if_ne xj_285 9 5 11 rfl rfl rfl (zc_iconst xj_285 10 (-1) 4294967295 rfl rfl rfl (zc_ireturn0 xj_285 11 rfl rfl (trivial)))))))
noncomputable def xm_285 : Lean.RArray (zE → zKn) := .branch 62 (.branch 16 (.branch 11 (.leaf xf_285_0) (.leaf xf_285_1)) (.branch 26 (.leaf xf_285_2) (.leaf xf_285_3))) (.branch 71 (.branch 63 (.leaf xf_285_4) (.leaf xf_285_5)) (.branch 77 (.leaf xf_285_6) (.leaf xf_285_7)))
theorem xa_285 : zCdAll 285 [0, 11, 16, 26, 62, 63, 71, 77] xm_285 := zAll2_ok (P := fun t => ∃ c, zCd 285 [0, 11, 16, 26, 62, 63, 71, 77] t c ∧ xm_285.get t = zEx c) ⟨⟨_, xc_285_0, xe_285_0⟩, ⟨_, xc_285_1, xe_285_1⟩, ⟨_, xc_285_2, xe_285_2⟩, ⟨_, xc_285_3, xe_285_3⟩, ⟨_, xc_285_4, xe_285_4⟩, ⟨_, xc_285_5, xe_285_5⟩, ⟨_, xc_285_6, xe_285_6⟩, ⟨_, xc_285_7, xe_285_7⟩, trivial⟩
/-- SquareMeshModel.sees -/
theorem xj_286 : ∀ pc, pI 286 pc = pJ_286 pc := fun _ => rfl
noncomputable def xb_286_2 : List zF := [zq_iret 1]
noncomputable def xf_286_2 : zE → zKn := fun E => zq_iret 1 (zNil) E
theorem xe_286_2 : xf_286_2 = zEx xb_286_2 := by
  unfold xf_286_2 xb_286_2
  rfl
theorem xc_286_2 : zCd 286 [0, 22, 23] 23 xb_286_2 := zc_ireturn1 xj_286 24 rfl rfl (trivial)
noncomputable def xb_286_1 : List zF := zq_k 0 :: xb_286_2
noncomputable def xf_286_1 : zE → zKn := fun E => zq_k 0 (xf_286_2 E) E
theorem xe_286_1 : xf_286_1 = zEx xb_286_1 := by
  unfold xf_286_1 xb_286_1
  rw [xe_286_2]
  rfl
theorem xc_286_1 : zCd 286 [0, 22, 23] 22 xb_286_1 := zc_iconst xj_286 23 0 0 rfl rfl rfl (xc_286_2)
noncomputable def xb_286_0 : List zF := [zq_aldg zG0, zq_ildg zG1, zq_ildg zG2, zq_calli 239 2 9 3, zq_if_eq 22, zq_aldg zG0, zq_ildg zG1, zq_ildg zG2, zq_calli 209 2 9 3, zq_if_eq 22, zq_k 1, zq_goto 23]
noncomputable def xf_286_0 : zE → zKn := fun E => zq_aldg zG0 (zq_ildg zG1 (zq_ildg zG2 (zq_calli 239 2 9 3 (zq_if_eq 22 (zq_aldg zG0 (zq_ildg zG1 (zq_ildg zG2 (zq_calli 209 2 9 3 (zq_if_eq 22 (zq_k 1 (zq_goto 23 (zNil) E) E) E) E) E) E) E) E) E) E) E) E
theorem xe_286_0 : xf_286_0 = zEx xb_286_0 := by
  unfold xf_286_0 xb_286_0
  rfl
theorem xc_286_0 : zCd 286 [0, 22, 23] 0 xb_286_0 := zc_aload_n xj_286 1 0 rfl rfl zf_ald_0 (zc_iload_n xj_286 2 1 rfl rfl zf_ild_1 (zc_iload_n xj_286 3 2 rfl rfl zf_ild_2 (zc_invokevirtual1 xj_286 6 194 239 2 303 9 3 rfl rfl rfl rfl (zc_if_eq xj_286 9 16 22 rfl rfl rfl (zc_aload_n xj_286 10 0 rfl rfl zf_ald_0 (zc_iload_n xj_286 11 1 rfl rfl zf_ild_1 (zc_iload_n xj_286 12 2 rfl rfl zf_ild_2 (zc_invokevirtual1 xj_286 15 128 209 2 267 9 3 rfl rfl rfl rfl (zc_if_eq xj_286 18 7 22 rfl rfl rfl (zc_iconst xj_286 19 1 1 rfl rfl rfl (zc_goto xj_286 20 4 23 rfl rfl rfl (trivial))))))))))))
noncomputable def xm_286 : Lean.RArray (zE → zKn) := .branch 22 (.leaf xf_286_0) (.branch 23 (.leaf xf_286_1) (.leaf xf_286_2))
theorem xa_286 : zCdAll 286 [0, 22, 23] xm_286 := zAll2_ok (P := fun t => ∃ c, zCd 286 [0, 22, 23] t c ∧ xm_286.get t = zEx c) ⟨⟨_, xc_286_0, xe_286_0⟩, ⟨_, xc_286_1, xe_286_1⟩, ⟨_, xc_286_2, xe_286_2⟩, trivial⟩
/-- SquareMeshModel.seen -/
theorem xj_287 : ∀ pc, pI 287 pc = pJ_287 pc := fun _ => rfl
noncomputable def xb_287_3 : List zF := [zq_lldg zG2, zq_lret]
noncomputable def xf_287_3 : zE → zKn := fun E => zq_lldg zG2 (zq_lret (zNil) E) E
theorem xe_287_3 : xf_287_3 = zEx xb_287_3 := by
  unfold xf_287_3 xb_287_3
  rfl
theorem xc_287_3 : zCd 287 [0, 5, 29, 35] 35 xb_287_3 := zc_lload_n xj_287 36 2 rfl rfl zf_lld_2 (zc_lreturn xj_287 37 rfl rfl (trivial))
noncomputable def xb_287_2 : List zF := [zq_incg zG4 zE4 1, zq_goto 5]
noncomputable def xf_287_2 : zE → zKn := fun E => zq_incg zG4 zE4 1 (zq_goto 5 (zNil) E) E
theorem xe_287_2 : xf_287_2 = zEx xb_287_2 := by
  unfold xf_287_2 xb_287_2
  rfl
theorem xc_287_2 : zCd 287 [0, 5, 29, 35] 29 xb_287_2 := zc_iinc xj_287 32 4 1 1 rfl rfl rfl (zf_inc_4 _) (zc_goto xj_287 33 (-27) 5 rfl rfl rfl (trivial))
noncomputable def xb_287_1 : List zF := zq_ildg zG4 :: zq_k 40 :: zq_ic_ge 35 :: zq_aldg zG0 :: zq_ildg zG1 :: zq_ildg zG4 :: zq_calli 286 2 9 3 :: zq_if_eq 29 :: zq_lldg zG2 :: zq_kl 1 :: zq_ildg zG4 :: zq_lshl :: zq_lor :: zq_lst 2 :: xb_287_2
noncomputable def xf_287_1 : zE → zKn := fun E => zq_ildg zG4 (zq_k 40 (zq_ic_ge 35 (zq_aldg zG0 (zq_ildg zG1 (zq_ildg zG4 (zq_calli 286 2 9 3 (zq_if_eq 29 (zq_lldg zG2 (zq_kl 1 (zq_ildg zG4 (zq_lshl (zq_lor (zq_lst 2 (xf_287_2 E) E) E) E) E) E) E) E) E) E) E) E) E) E) E
theorem xe_287_1 : xf_287_1 = zEx xb_287_1 := by
  unfold xf_287_1 xb_287_1
  rw [xe_287_2]
  rfl
theorem xc_287_1 : zCd 287 [0, 5, 29, 35] 5 xb_287_1 := zc_iload xj_287 7 4 rfl rfl zf_ild_4 (zc_bipush xj_287 9 40 40 rfl rfl rfl (zc_ic_ge xj_287 12 26 35 rfl rfl rfl (zc_aload_n xj_287 13 0 rfl rfl zf_ald_0 (zc_iload_n xj_287 14 1 rfl rfl zf_ild_1 (zc_iload xj_287 16 4 rfl rfl zf_ild_4 (zc_invokevirtual1 xj_287 19 296 286 2 364 9 3 rfl rfl rfl rfl (zc_if_eq xj_287 22 10 29 rfl rfl rfl (zc_lload_n xj_287 23 2 rfl rfl zf_lld_2 (zc_lconst xj_287 24 1 rfl rfl (zc_iload xj_287 26 4 rfl rfl zf_ild_4 (zc_lshl xj_287 27 rfl rfl (zc_lor xj_287 28 rfl rfl (zc_lstore_n xj_287 29 2 rfl rfl rfl (xc_287_2))))))))))))))
noncomputable def xb_287_0 : List zF := zq_kl 0 :: zq_lst 2 :: zq_k 0 :: zq_istg zE4 :: xb_287_1
noncomputable def xf_287_0 : zE → zKn := fun E => zq_kl 0 (zq_lst 2 (zq_k 0 (zq_istg zE4 (xf_287_1 E) E) E) E) E
theorem xe_287_0 : xf_287_0 = zEx xb_287_0 := by
  unfold xf_287_0 xb_287_0
  rw [xe_287_1]
  rfl
theorem xc_287_0 : zCd 287 [0, 5, 29, 35] 0 xb_287_0 := zc_lconst xj_287 1 0 rfl rfl (zc_lstore_n xj_287 2 2 rfl rfl rfl (zc_iconst xj_287 3 0 0 rfl rfl rfl (zc_istore xj_287 5 4 rfl rfl zf_ist_4 (xc_287_1))))
noncomputable def xm_287 : Lean.RArray (zE → zKn) := .branch 29 (.branch 5 (.leaf xf_287_0) (.leaf xf_287_1)) (.branch 35 (.leaf xf_287_2) (.leaf xf_287_3))
theorem xa_287 : zCdAll 287 [0, 5, 29, 35] xm_287 := zAll2_ok (P := fun t => ∃ c, zCd 287 [0, 5, 29, 35] t c ∧ xm_287.get t = zEx c) ⟨⟨_, xc_287_0, xe_287_0⟩, ⟨_, xc_287_1, xe_287_1⟩, ⟨_, xc_287_2, xe_287_2⟩, ⟨_, xc_287_3, xe_287_3⟩, trivial⟩
/-- SquareMeshModel.isShut -/
theorem xj_288 : ∀ pc, pI 288 pc = pJ_288 pc := fun _ => rfl
noncomputable def xb_288_2 : List zF := [zq_iret 1]
noncomputable def xf_288_2 : zE → zKn := fun E => zq_iret 1 (zNil) E
theorem xe_288_2 : xf_288_2 = zEx xb_288_2 := by
  unfold xf_288_2 xb_288_2
  rfl
theorem xc_288_2 : zCd 288 [0, 25, 26] 26 xb_288_2 := zc_ireturn1 xj_288 27 rfl rfl (trivial)
noncomputable def xb_288_1 : List zF := zq_k 0 :: xb_288_2
noncomputable def xf_288_1 : zE → zKn := fun E => zq_k 0 (xf_288_2 E) E
theorem xe_288_1 : xf_288_1 = zEx xb_288_1 := by
  unfold xf_288_1 xb_288_1
  rw [xe_288_2]
  rfl
theorem xc_288_1 : zCd 288 [0, 25, 26] 25 xb_288_1 := zc_iconst xj_288 26 0 0 rfl rfl rfl (xc_288_2)
noncomputable def xb_288_0 : List zF := [zq_aldg zG0, zq_aldg zG0, zq_ildg zG1, zq_ildg zG2, zq_calli 247 2 9 3, zq_aldg zG0, zq_ildg zG1, zq_ildg zG2, zq_k 1, zq_add, zq_calli 247 2 9 3, zN2 196 3 zg_196, zq_if_eq 25, zq_k 1, zq_goto 26]
noncomputable def xf_288_0 : zE → zKn := fun E => zq_aldg zG0 (zq_aldg zG0 (zq_ildg zG1 (zq_ildg zG2 (zq_calli 247 2 9 3 (zq_aldg zG0 (zq_ildg zG1 (zq_ildg zG2 (zq_k 1 (zq_add (zq_calli 247 2 9 3 (zN2 196 3 zg_196 (zq_if_eq 25 (zq_k 1 (zq_goto 26 (zNil) E) E) E) E) E) E) E) E) E) E) E) E) E) E) E
theorem xe_288_0 : xf_288_0 = zEx xb_288_0 := by
  unfold xf_288_0 xb_288_0
  rfl
theorem xc_288_0 : zCd 288 [0, 25, 26] 0 xb_288_0 := zc_aload_n xj_288 1 0 rfl rfl zf_ald_0 (zc_aload_n xj_288 2 0 rfl rfl zf_ald_0 (zc_iload_n xj_288 3 1 rfl rfl zf_ild_1 (zc_iload_n xj_288 4 2 rfl rfl zf_ild_2 (zc_invokevirtual1 xj_288 7 206 247 2 313 9 3 rfl rfl rfl rfl (zc_aload_n xj_288 8 0 rfl rfl zf_ald_0 (zc_iload_n xj_288 9 1 rfl rfl zf_ild_1 (zc_iload_n xj_288 10 2 rfl rfl zf_ild_2 (zc_iconst xj_288 11 1 1 rfl rfl rfl (zc_iadd xj_288 12 rfl rfl (zc_invokevirtual1 xj_288 15 206 247 2 313 9 3 rfl rfl rfl rfl (zc_any xj_288 18 (.invokevirtual 102) [1, 196, 2, 258, 9, 3] rfl rfl (zN2 196 3 zg_196) rfl rfl (zc_if_eq xj_288 21 7 25 rfl rfl rfl (zc_iconst xj_288 22 1 1 rfl rfl rfl (zc_goto xj_288 23 4 26 rfl rfl rfl (trivial)))))))))))))))
noncomputable def xm_288 : Lean.RArray (zE → zKn) := .branch 25 (.leaf xf_288_0) (.branch 26 (.leaf xf_288_1) (.leaf xf_288_2))
theorem xa_288 : zCdAll 288 [0, 25, 26] xm_288 := zAll2_ok (P := fun t => ∃ c, zCd 288 [0, 25, 26] t c ∧ xm_288.get t = zEx c) ⟨⟨_, xc_288_0, xe_288_0⟩, ⟨_, xc_288_1, xe_288_1⟩, ⟨_, xc_288_2, xe_288_2⟩, trivial⟩
/-- SquareMeshModel.layRegions -/
theorem xj_289 : ∀ pc, pI 289 pc = pJ_289 pc := fun _ => rfl
noncomputable def xb_289_14 : List zF := [zq_ildg zG1, zq_iret 0]
noncomputable def xf_289_14 : zE → zKn := fun E => zq_ildg zG1 (zq_iret 0 (zNil) E) E
theorem xe_289_14 : xf_289_14 = zEx xb_289_14 := by
  unfold xf_289_14 xb_289_14
  rfl
theorem xc_289_14 : zCd 289 [0, 4, 25, 27, 48, 57, 66, 78, 126, 142, 148, 154, 157, 160, 166] 166 xb_289_14 := zc_iload_n xj_289 167 1 rfl rfl zf_ild_1 (zc_ireturn0 xj_289 168 rfl rfl (trivial))
noncomputable def xb_289_13 : List zF := [zq_incg zG2 zE2 1, zq_goto 27]
noncomputable def xf_289_13 : zE → zKn := fun E => zq_incg zG2 zE2 1 (zq_goto 27 (zNil) E) E
theorem xe_289_13 : xf_289_13 = zEx xb_289_13 := by
  unfold xf_289_13 xb_289_13
  rfl
theorem xc_289_13 : zCd 289 [0, 4, 25, 27, 48, 57, 66, 78, 126, 142, 148, 154, 157, 160, 166] 160 xb_289_13 := zc_iinc xj_289 163 2 1 1 rfl rfl rfl (zf_inc_2 _) (zc_goto xj_289 164 (-136) 27 rfl rfl rfl (trivial))
noncomputable def xb_289_12 : List zF := zq_incg zG1 zE1 1 :: xb_289_13
noncomputable def xf_289_12 : zE → zKn := fun E => zq_incg zG1 zE1 1 (xf_289_13 E) E
theorem xe_289_12 : xf_289_12 = zEx xb_289_12 := by
  unfold xf_289_12 xb_289_12
  rw [xe_289_13]
  rfl
theorem xc_289_12 : zCd 289 [0, 4, 25, 27, 48, 57, 66, 78, 126, 142, 148, 154, 157, 160, 166] 157 xb_289_12 := zc_iinc xj_289 160 1 1 1 rfl rfl rfl (zf_inc_1 _) (xc_289_13)
noncomputable def xb_289_11 : List zF := [zq_goto 57]
noncomputable def xf_289_11 : zE → zKn := fun E => zq_goto 57 (zNil) E
theorem xe_289_11 : xf_289_11 = zEx xb_289_11 := by
  unfold xf_289_11 xb_289_11
  rfl
theorem xc_289_11 : zCd 289 [0, 4, 25, 27, 48, 57, 66, 78, 126, 142, 148, 154, 157, 160, 166] 154 xb_289_11 := zc_goto xj_289 155 (-97) 57 rfl rfl rfl (trivial)
noncomputable def xb_289_10 : List zF := [zq_incg zG4 zE4 1, zq_goto 66]
noncomputable def xf_289_10 : zE → zKn := fun E => zq_incg zG4 zE4 1 (zq_goto 66 (zNil) E) E
theorem xe_289_10 : xf_289_10 = zEx xb_289_10 := by
  unfold xf_289_10 xb_289_10
  rfl
theorem xc_289_10 : zCd 289 [0, 4, 25, 27, 48, 57, 66, 78, 126, 142, 148, 154, 157, 160, 166] 148 xb_289_10 := zc_iinc xj_289 151 4 1 1 rfl rfl rfl (zf_inc_4 _) (zc_goto xj_289 152 (-85) 66 rfl rfl rfl (trivial))
noncomputable def xb_289_9 : List zF := [zq_incg zG5 zE5 1, zq_goto 78]
noncomputable def xf_289_9 : zE → zKn := fun E => zq_incg zG5 zE5 1 (zq_goto 78 (zNil) E) E
theorem xe_289_9 : xf_289_9 = zEx xb_289_9 := by
  unfold xf_289_9 xb_289_9
  rfl
theorem xc_289_9 : zCd 289 [0, 4, 25, 27, 48, 57, 66, 78, 126, 142, 148, 154, 157, 160, 166] 142 xb_289_9 := zc_iinc xj_289 145 5 1 1 rfl rfl rfl (zf_inc_5 _) (zc_goto xj_289 146 (-67) 78 rfl rfl rfl (trivial))
noncomputable def xb_289_8 : List zF := zq_aldg zG0 :: zq_getfg 9 zG9 :: zq_aldg zG0 :: zq_ildg zG4 :: zq_ildg zG5 :: zq_calli 266 2 9 3 :: zq_ildg zG1 :: zq_iast :: zq_k 1 :: zq_istg zE3 :: xb_289_9
noncomputable def xf_289_8 : zE → zKn := fun E => zq_aldg zG0 (zq_getfg 9 zG9 (zq_aldg zG0 (zq_ildg zG4 (zq_ildg zG5 (zq_calli 266 2 9 3 (zq_ildg zG1 (zq_iast (zq_k 1 (zq_istg zE3 (xf_289_9 E) E) E) E) E) E) E) E) E) E) E
theorem xe_289_8 : xf_289_8 = zEx xb_289_8 := by
  unfold xf_289_8 xb_289_8
  rw [xe_289_9]
  rfl
theorem xc_289_8 : zCd 289 [0, 4, 25, 27, 48, 57, 66, 78, 126, 142, 148, 154, 157, 160, 166] 126 xb_289_8 := zc_aload_n xj_289 127 0 rfl rfl zf_ald_0 (zc_getf xj_289 130 36 9 9 103 rfl rfl (zf_getf_9 _) (zc_aload_n xj_289 131 0 rfl rfl zf_ald_0 (zc_iload xj_289 133 4 rfl rfl zf_ild_4 (zc_iload xj_289 135 5 rfl rfl zf_ild_5 (zc_invokevirtual1 xj_289 138 272 266 2 330 9 3 rfl rfl rfl rfl (zc_iload_n xj_289 139 1 rfl rfl zf_ild_1 (zc_iastore xj_289 140 rfl rfl (zc_iconst xj_289 141 1 1 rfl rfl rfl (zc_istore_n xj_289 142 3 rfl rfl zf_ist_3 (xc_289_9))))))))))
noncomputable def xb_289_7 : List zF := [zq_ildg zG5, zq_k 3, zq_ic_ge 148, zq_aldg zG0, zq_getfg 9 zG9, zq_ildg zG4, zq_ild_ 0, zq_ildg zG1, zq_ic_ne 148, zq_aldg zG0, zq_ildg zG4, zq_ildg zG5, zq_calli 288 2 9 3, zq_if_ne 142, zq_aldg zG0, zq_getfg 9 zG9, zq_aldg zG0, zq_ildg zG4, zq_ildg zG5, zq_calli 266 2 9 3, zq_ild_ 0, zq_k 4294967295, zq_ic_eq 126, zq_goto 142]
noncomputable def xf_289_7 : zE → zKn := fun E => zq_ildg zG5 (zq_k 3 (zq_ic_ge 148 (zq_aldg zG0 (zq_getfg 9 zG9 (zq_ildg zG4 (zq_ild_ 0 (zq_ildg zG1 (zq_ic_ne 148 (zq_aldg zG0 (zq_ildg zG4 (zq_ildg zG5 (zq_calli 288 2 9 3 (zq_if_ne 142 (zq_aldg zG0 (zq_getfg 9 zG9 (zq_aldg zG0 (zq_ildg zG4 (zq_ildg zG5 (zq_calli 266 2 9 3 (zq_ild_ 0 (zq_k 4294967295 (zq_ic_eq 126 (zq_goto 142 (zNil) E) E) E) E) E) E) E) E) E) E) E) E) E) E) E) E) E) E) E) E) E) E) E) E
theorem xe_289_7 : xf_289_7 = zEx xb_289_7 := by
  unfold xf_289_7 xb_289_7
  rfl
theorem xc_289_7 : zCd 289 [0, 4, 25, 27, 48, 57, 66, 78, 126, 142, 148, 154, 157, 160, 166] 78 xb_289_7 := zc_iload xj_289 80 5 rfl rfl zf_ild_5 (zc_iconst xj_289 81 3 3 rfl rfl rfl (zc_ic_ge xj_289 84 67 148 rfl rfl rfl (zc_aload_n xj_289 85 0 rfl rfl zf_ald_0 (zc_getf xj_289 88 36 9 9 103 rfl rfl (zf_getf_9 _) (zc_iload xj_289 90 4 rfl rfl zf_ild_4 (zc_iaload xj_289 91 rfl rfl (zc_iload_n xj_289 92 1 rfl rfl zf_ild_1 (zc_ic_ne xj_289 95 56 148 rfl rfl rfl (zc_aload_n xj_289 96 0 rfl rfl zf_ald_0 (zc_iload xj_289 98 4 rfl rfl zf_ild_4 (zc_iload xj_289 100 5 rfl rfl zf_ild_5 (zc_invokevirtual1 xj_289 103 299 288 2 329 9 3 rfl rfl rfl rfl (zc_if_ne xj_289 106 39 142 rfl rfl rfl (zc_aload_n xj_289 107 0 rfl rfl zf_ald_0 (zc_getf xj_289 110 36 9 9 103 rfl rfl (zf_getf_9 _) (zc_aload_n xj_289 111 0 rfl rfl zf_ald_0 (zc_iload xj_289 113 4 rfl rfl zf_ild_4 (zc_iload xj_289 115 5 rfl rfl zf_ild_5 (zc_invokevirtual1 xj_289 118 272 266 2 330 9 3 rfl rfl rfl rfl (zc_iaload xj_289 119 rfl rfl (zc_iconst xj_289 120 (-1) 4294967295 rfl rfl rfl (zc_ic_eq xj_289 123 6 126 rfl rfl rfl (zc_goto xj_289 124 19 142 rfl rfl rfl (trivial))))))))))))))))))))))))
noncomputable def xb_289_6 : List zF := zq_ildg zG4 :: zq_aldg zG0 :: zq_getfg 9 zG4 :: zq_ic_ge 154 :: zq_k 0 :: zq_istg zE5 :: xb_289_7
noncomputable def xf_289_6 : zE → zKn := fun E => zq_ildg zG4 (zq_aldg zG0 (zq_getfg 9 zG4 (zq_ic_ge 154 (zq_k 0 (zq_istg zE5 (xf_289_7 E) E) E) E) E) E) E
theorem xe_289_6 : xf_289_6 = zEx xb_289_6 := by
  unfold xf_289_6 xb_289_6
  rw [xe_289_7]
  rfl
theorem xc_289_6 : zCd 289 [0, 4, 25, 27, 48, 57, 66, 78, 126, 142, 148, 154, 157, 160, 166] 66 xb_289_6 := zc_iload xj_289 68 4 rfl rfl zf_ild_4 (zc_aload_n xj_289 69 0 rfl rfl zf_ald_0 (zc_getf xj_289 72 134 9 4 98 rfl rfl (zf_getf_4 _) (zc_ic_ge xj_289 75 82 154 rfl rfl rfl (zc_iconst xj_289 76 0 0 rfl rfl rfl (zc_istore xj_289 78 5 rfl rfl zf_ist_5 (xc_289_7))))))
noncomputable def xb_289_5 : List zF := zq_ildg zG3 :: zq_if_eq 157 :: zq_k 0 :: zq_istg zE3 :: zq_k 0 :: zq_istg zE4 :: xb_289_6
noncomputable def xf_289_5 : zE → zKn := fun E => zq_ildg zG3 (zq_if_eq 157 (zq_k 0 (zq_istg zE3 (zq_k 0 (zq_istg zE4 (xf_289_6 E) E) E) E) E) E) E
theorem xe_289_5 : xf_289_5 = zEx xb_289_5 := by
  unfold xf_289_5 xb_289_5
  rw [xe_289_6]
  rfl
theorem xc_289_5 : zCd 289 [0, 4, 25, 27, 48, 57, 66, 78, 126, 142, 148, 154, 157, 160, 166] 57 xb_289_5 := zc_iload_n xj_289 58 3 rfl rfl zf_ild_3 (zc_if_eq xj_289 61 99 157 rfl rfl rfl (zc_iconst xj_289 62 0 0 rfl rfl rfl (zc_istore_n xj_289 63 3 rfl rfl zf_ist_3 (zc_iconst xj_289 64 0 0 rfl rfl rfl (zc_istore xj_289 66 4 rfl rfl zf_ist_4 (xc_289_6))))))
noncomputable def xb_289_4 : List zF := zq_aldg zG0 :: zq_getfg 9 zG9 :: zq_ildg zG2 :: zq_ildg zG1 :: zq_iast :: zq_k 1 :: zq_istg zE3 :: xb_289_5
noncomputable def xf_289_4 : zE → zKn := fun E => zq_aldg zG0 (zq_getfg 9 zG9 (zq_ildg zG2 (zq_ildg zG1 (zq_iast (zq_k 1 (zq_istg zE3 (xf_289_5 E) E) E) E) E) E) E) E
theorem xe_289_4 : xf_289_4 = zEx xb_289_4 := by
  unfold xf_289_4 xb_289_4
  rw [xe_289_5]
  rfl
theorem xc_289_4 : zCd 289 [0, 4, 25, 27, 48, 57, 66, 78, 126, 142, 148, 154, 157, 160, 166] 48 xb_289_4 := zc_aload_n xj_289 49 0 rfl rfl zf_ald_0 (zc_getf xj_289 52 36 9 9 103 rfl rfl (zf_getf_9 _) (zc_iload_n xj_289 53 2 rfl rfl zf_ild_2 (zc_iload_n xj_289 54 1 rfl rfl zf_ild_1 (zc_iastore xj_289 55 rfl rfl (zc_iconst xj_289 56 1 1 rfl rfl rfl (zc_istore_n xj_289 57 3 rfl rfl zf_ist_3 (xc_289_5)))))))
noncomputable def xb_289_3 : List zF := [zq_ildg zG2, zq_aldg zG0, zq_getfg 9 zG4, zq_ic_ge 166, zq_aldg zG0, zq_getfg 9 zG9, zq_ildg zG2, zq_ild_ 0, zq_k 4294967295, zq_ic_eq 48, zq_goto 160]
noncomputable def xf_289_3 : zE → zKn := fun E => zq_ildg zG2 (zq_aldg zG0 (zq_getfg 9 zG4 (zq_ic_ge 166 (zq_aldg zG0 (zq_getfg 9 zG9 (zq_ildg zG2 (zq_ild_ 0 (zq_k 4294967295 (zq_ic_eq 48 (zq_goto 160 (zNil) E) E) E) E) E) E) E) E) E) E) E
theorem xe_289_3 : xf_289_3 = zEx xb_289_3 := by
  unfold xf_289_3 xb_289_3
  rfl
theorem xc_289_3 : zCd 289 [0, 4, 25, 27, 48, 57, 66, 78, 126, 142, 148, 154, 157, 160, 166] 27 xb_289_3 := zc_iload_n xj_289 28 2 rfl rfl zf_ild_2 (zc_aload_n xj_289 29 0 rfl rfl zf_ald_0 (zc_getf xj_289 32 134 9 4 98 rfl rfl (zf_getf_4 _) (zc_ic_ge xj_289 35 134 166 rfl rfl rfl (zc_aload_n xj_289 36 0 rfl rfl zf_ald_0 (zc_getf xj_289 39 36 9 9 103 rfl rfl (zf_getf_9 _) (zc_iload_n xj_289 40 2 rfl rfl zf_ild_2 (zc_iaload xj_289 41 rfl rfl (zc_iconst xj_289 42 (-1) 4294967295 rfl rfl rfl (zc_ic_eq xj_289 45 6 48 rfl rfl rfl (zc_goto xj_289 46 115 160 rfl rfl rfl (trivial)))))))))))
noncomputable def xb_289_2 : List zF := zq_k 0 :: zq_istg zE2 :: xb_289_3
noncomputable def xf_289_2 : zE → zKn := fun E => zq_k 0 (zq_istg zE2 (xf_289_3 E) E) E
theorem xe_289_2 : xf_289_2 = zEx xb_289_2 := by
  unfold xf_289_2 xb_289_2
  rw [xe_289_3]
  rfl
theorem xc_289_2 : zCd 289 [0, 4, 25, 27, 48, 57, 66, 78, 126, 142, 148, 154, 157, 160, 166] 25 xb_289_2 := zc_iconst xj_289 26 0 0 rfl rfl rfl (zc_istore_n xj_289 27 2 rfl rfl zf_ist_2 (xc_289_3))
noncomputable def xb_289_1 : List zF := [zq_ildg zG2, zq_aldg zG0, zq_getfg 9 zG4, zq_ic_ge 25, zq_aldg zG0, zq_getfg 9 zG9, zq_ildg zG2, zq_k 4294967295, zq_iast, zq_incg zG2 zE2 1, zq_goto 4]
noncomputable def xf_289_1 : zE → zKn := fun E => zq_ildg zG2 (zq_aldg zG0 (zq_getfg 9 zG4 (zq_ic_ge 25 (zq_aldg zG0 (zq_getfg 9 zG9 (zq_ildg zG2 (zq_k 4294967295 (zq_iast (zq_incg zG2 zE2 1 (zq_goto 4 (zNil) E) E) E) E) E) E) E) E) E) E) E
theorem xe_289_1 : xf_289_1 = zEx xb_289_1 := by
  unfold xf_289_1 xb_289_1
  rfl
theorem xc_289_1 : zCd 289 [0, 4, 25, 27, 48, 57, 66, 78, 126, 142, 148, 154, 157, 160, 166] 4 xb_289_1 := zc_iload_n xj_289 5 2 rfl rfl zf_ild_2 (zc_aload_n xj_289 6 0 rfl rfl zf_ald_0 (zc_getf xj_289 9 134 9 4 98 rfl rfl (zf_getf_4 _) (zc_ic_ge xj_289 12 16 25 rfl rfl rfl (zc_aload_n xj_289 13 0 rfl rfl zf_ald_0 (zc_getf xj_289 16 36 9 9 103 rfl rfl (zf_getf_9 _) (zc_iload_n xj_289 17 2 rfl rfl zf_ild_2 (zc_iconst xj_289 18 (-1) 4294967295 rfl rfl rfl (zc_iastore xj_289 19 rfl rfl (zc_iinc xj_289 22 2 1 1 rfl rfl rfl (zf_inc_2 _) (zc_goto xj_289 23 (-18) 4 rfl rfl rfl (trivial)))))))))))
noncomputable def xb_289_0 : List zF := zq_k 0 :: zq_istg zE1 :: zq_k 0 :: zq_istg zE2 :: xb_289_1
noncomputable def xf_289_0 : zE → zKn := fun E => zq_k 0 (zq_istg zE1 (zq_k 0 (zq_istg zE2 (xf_289_1 E) E) E) E) E
theorem xe_289_0 : xf_289_0 = zEx xb_289_0 := by
  unfold xf_289_0 xb_289_0
  rw [xe_289_1]
  rfl
theorem xc_289_0 : zCd 289 [0, 4, 25, 27, 48, 57, 66, 78, 126, 142, 148, 154, 157, 160, 166] 0 xb_289_0 := zc_iconst xj_289 1 0 0 rfl rfl rfl (zc_istore_n xj_289 2 1 rfl rfl zf_ist_1 (zc_iconst xj_289 3 0 0 rfl rfl rfl (zc_istore_n xj_289 4 2 rfl rfl zf_ist_2 (xc_289_1))))
noncomputable def xm_289 : Lean.RArray (zE → zKn) := .branch 78 (.branch 27 (.branch 4 (.leaf xf_289_0) (.branch 25 (.leaf xf_289_1) (.leaf xf_289_2))) (.branch 57 (.branch 48 (.leaf xf_289_3) (.leaf xf_289_4)) (.branch 66 (.leaf xf_289_5) (.leaf xf_289_6)))) (.branch 154 (.branch 142 (.branch 126 (.leaf xf_289_7) (.leaf xf_289_8)) (.branch 148 (.leaf xf_289_9) (.leaf xf_289_10))) (.branch 160 (.branch 157 (.leaf xf_289_11) (.leaf xf_289_12)) (.branch 166 (.leaf xf_289_13) (.leaf xf_289_14))))
theorem xa_289 : zCdAll 289 [0, 4, 25, 27, 48, 57, 66, 78, 126, 142, 148, 154, 157, 160, 166] xm_289 := zAll2_ok (P := fun t => ∃ c, zCd 289 [0, 4, 25, 27, 48, 57, 66, 78, 126, 142, 148, 154, 157, 160, 166] t c ∧ xm_289.get t = zEx c) ⟨⟨_, xc_289_0, xe_289_0⟩, ⟨_, xc_289_1, xe_289_1⟩, ⟨_, xc_289_2, xe_289_2⟩, ⟨_, xc_289_3, xe_289_3⟩, ⟨_, xc_289_4, xe_289_4⟩, ⟨_, xc_289_5, xe_289_5⟩, ⟨_, xc_289_6, xe_289_6⟩, ⟨_, xc_289_7, xe_289_7⟩, ⟨_, xc_289_8, xe_289_8⟩, ⟨_, xc_289_9, xe_289_9⟩, ⟨_, xc_289_10, xe_289_10⟩, ⟨_, xc_289_11, xe_289_11⟩, ⟨_, xc_289_12, xe_289_12⟩, ⟨_, xc_289_13, xe_289_13⟩, ⟨_, xc_289_14, xe_289_14⟩, trivial⟩
/-- SquareMeshModel.region -/
theorem xj_290 : ∀ pc, pI 290 pc = pJ_290 pc := fun _ => rfl
noncomputable def xb_290_1 : List zF := [zq_aldg zG0, zq_calli 289 0 9 6, zq_istg zE2, zq_aldg zG0, zq_getfg 9 zG9, zq_ildg zG1, zq_ild_ 0, zq_iret 0]
noncomputable def xf_290_1 : zE → zKn := fun E => zq_aldg zG0 (zq_calli 289 0 9 6 (zq_istg zE2 (zq_aldg zG0 (zq_getfg 9 zG9 (zq_ildg zG1 (zq_ild_ 0 (zq_iret 0 (zNil) E) E) E) E) E) E) E) E
theorem xe_290_1 : xf_290_1 = zEx xb_290_1 := by
  unfold xf_290_1 xb_290_1
  rfl
theorem xc_290_1 : zCd 290 [0, 10] 10 xb_290_1 := zc_aload_n xj_290 11 0 rfl rfl zf_ald_0 (zc_invokevirtual1 xj_290 14 246 289 0 328 9 6 rfl rfl rfl rfl (zc_istore_n xj_290 15 2 rfl rfl zf_ist_2 (zc_aload_n xj_290 16 0 rfl rfl zf_ald_0 (zc_getf xj_290 19 36 9 9 103 rfl rfl (zf_getf_9 _) (zc_iload_n xj_290 20 1 rfl rfl zf_ild_1 (zc_iaload xj_290 21 rfl rfl (zc_ireturn0 xj_290 22 rfl rfl (trivial))))))))
noncomputable def xb_290_0 : List zF := [zq_aldg zG0, zq_ildg zG1, zq_calli 264 1 9 2, zq_if_ne 10, zq_k 4294967295, zq_iret 0]
noncomputable def xf_290_0 : zE → zKn := fun E => zq_aldg zG0 (zq_ildg zG1 (zq_calli 264 1 9 2 (zq_if_ne 10 (zq_k 4294967295 (zq_iret 0 (zNil) E) E) E) E) E) E
theorem xe_290_0 : xf_290_0 = zEx xb_290_0 := by
  unfold xf_290_0 xb_290_0
  rfl
theorem xc_290_0 : zCd 290 [0, 10] 0 xb_290_0 := zc_aload_n xj_290 1 0 rfl rfl zf_ald_0 (zc_iload_n xj_290 2 1 rfl rfl zf_ild_1 (zc_invokevirtual1 xj_290 5 269 264 1 347 9 2 rfl rfl rfl rfl (zc_if_ne xj_290 8 5 10 rfl rfl rfl (zc_iconst xj_290 9 (-1) 4294967295 rfl rfl rfl (zc_ireturn0 xj_290 10 rfl rfl (trivial))))))
noncomputable def xm_290 : Lean.RArray (zE → zKn) := .branch 10 (.leaf xf_290_0) (.leaf xf_290_1)
theorem xa_290 : zCdAll 290 [0, 10] xm_290 := zAll2_ok (P := fun t => ∃ c, zCd 290 [0, 10] t c ∧ xm_290.get t = zEx c) ⟨⟨_, xc_290_0, xe_290_0⟩, ⟨_, xc_290_1, xe_290_1⟩, trivial⟩
/-- SquareMeshModel.ofRegion -/
theorem xj_291 : ∀ pc, pI 291 pc = pJ_291 pc := fun _ => rfl
noncomputable def xb_291_9 : List zF := [zq_k 4294967295, zq_iret 0]
noncomputable def xf_291_9 : zE → zKn := fun E => zq_k 4294967295 (zq_iret 0 (zNil) E) E
theorem xe_291_9 : xf_291_9 = zEx xb_291_9 := by
  unfold xf_291_9 xb_291_9
  rfl
theorem xc_291_9 : zCd 291 [0, 18, 52, 58, 64, 76, 77, 78, 84, 90] 90 xb_291_9 := zc_iconst xj_291 91 (-1) 4294967295 rfl rfl rfl (zc_ireturn0 xj_291 92 rfl rfl (trivial))
noncomputable def xb_291_8 : List zF := [zq_aldg zG0, zq_ildg zG1, zq_calli 295 1 9 6, zq_iret 0]
noncomputable def xf_291_8 : zE → zKn := fun E => zq_aldg zG0 (zq_ildg zG1 (zq_calli 295 1 9 6 (zq_iret 0 (zNil) E) E) E) E
theorem xe_291_8 : xf_291_8 = zEx xb_291_8 := by
  unfold xf_291_8 xb_291_8
  rfl
theorem xc_291_8 : zCd 291 [0, 18, 52, 58, 64, 76, 77, 78, 84, 90] 84 xb_291_8 := zc_aload_n xj_291 85 0 rfl rfl zf_ald_0 (zc_iload_n xj_291 86 1 rfl rfl zf_ild_1 (zc_invokevirtual1 xj_291 89 311 295 1 369 9 6 rfl rfl rfl rfl (zc_ireturn0 xj_291 90 rfl rfl (trivial))))
noncomputable def xb_291_7 : List zF := [zq_aldg zG0, zq_ildg zG1, zq_calli 294 1 9 4, zq_iret 0]
noncomputable def xf_291_7 : zE → zKn := fun E => zq_aldg zG0 (zq_ildg zG1 (zq_calli 294 1 9 4 (zq_iret 0 (zNil) E) E) E) E
theorem xe_291_7 : xf_291_7 = zEx xb_291_7 := by
  unfold xf_291_7 xb_291_7
  rfl
theorem xc_291_7 : zCd 291 [0, 18, 52, 58, 64, 76, 77, 78, 84, 90] 78 xb_291_7 := zc_aload_n xj_291 79 0 rfl rfl zf_ald_0 (zc_iload_n xj_291 80 1 rfl rfl zf_ild_1 (zc_invokevirtual1 xj_291 83 308 294 1 335 9 4 rfl rfl rfl rfl (zc_ireturn0 xj_291 84 rfl rfl (trivial))))
noncomputable def xb_291_6 : List zF := [zq_iret 0]
noncomputable def xf_291_6 : zE → zKn := fun E => zq_iret 0 (zNil) E
theorem xe_291_6 : xf_291_6 = zEx xb_291_6 := by
  unfold xf_291_6 xb_291_6
  rfl
theorem xc_291_6 : zCd 291 [0, 18, 52, 58, 64, 76, 77, 78, 84, 90] 77 xb_291_6 := zc_ireturn0 xj_291 78 rfl rfl (trivial)
noncomputable def xb_291_5 : List zF := zq_k 0 :: xb_291_6
noncomputable def xf_291_5 : zE → zKn := fun E => zq_k 0 (xf_291_6 E) E
theorem xe_291_5 : xf_291_5 = zEx xb_291_5 := by
  unfold xf_291_5 xb_291_5
  rw [xe_291_6]
  rfl
theorem xc_291_5 : zCd 291 [0, 18, 52, 58, 64, 76, 77, 78, 84, 90] 76 xb_291_5 := zc_iconst xj_291 77 0 0 rfl rfl rfl (xc_291_6)
noncomputable def xb_291_4 : List zF := [zq_aldg zG0, zq_ildg zG1, zq_calli 294 1 9 4, zq_if_le 76, zq_k 1, zq_goto 77]
noncomputable def xf_291_4 : zE → zKn := fun E => zq_aldg zG0 (zq_ildg zG1 (zq_calli 294 1 9 4 (zq_if_le 76 (zq_k 1 (zq_goto 77 (zNil) E) E) E) E) E) E
theorem xe_291_4 : xf_291_4 = zEx xb_291_4 := by
  unfold xf_291_4 xb_291_4
  rfl
theorem xc_291_4 : zCd 291 [0, 18, 52, 58, 64, 76, 77, 78, 84, 90] 64 xb_291_4 := zc_aload_n xj_291 65 0 rfl rfl zf_ald_0 (zc_iload_n xj_291 66 1 rfl rfl zf_ild_1 (zc_invokevirtual1 xj_291 69 308 294 1 335 9 4 rfl rfl rfl rfl (zc_if_le xj_291 72 7 76 rfl rfl rfl (zc_iconst xj_291 73 1 1 rfl rfl rfl (zc_goto xj_291 74 4 77 rfl rfl rfl (trivial))))))
noncomputable def xb_291_3 : List zF := [zq_aldg zG0, zq_ildg zG1, zq_calli 293 1 9 4, zq_iret 0]
noncomputable def xf_291_3 : zE → zKn := fun E => zq_aldg zG0 (zq_ildg zG1 (zq_calli 293 1 9 4 (zq_iret 0 (zNil) E) E) E) E
theorem xe_291_3 : xf_291_3 = zEx xb_291_3 := by
  unfold xf_291_3 xb_291_3
  rfl
theorem xc_291_3 : zCd 291 [0, 18, 52, 58, 64, 76, 77, 78, 84, 90] 58 xb_291_3 := zc_aload_n xj_291 59 0 rfl rfl zf_ald_0 (zc_iload_n xj_291 60 1 rfl rfl zf_ild_1 (zc_invokevirtual1 xj_291 63 305 293 1 368 9 4 rfl rfl rfl rfl (zc_ireturn0 xj_291 64 rfl rfl (trivial))))
noncomputable def xb_291_2 : List zF := [zq_aldg zG0, zq_ildg zG1, zq_calli 292 1 9 4, zq_iret 0]
noncomputable def xf_291_2 : zE → zKn := fun E => zq_aldg zG0 (zq_ildg zG1 (zq_calli 292 1 9 4 (zq_iret 0 (zNil) E) E) E) E
theorem xe_291_2 : xf_291_2 = zEx xb_291_2 := by
  unfold xf_291_2 xb_291_2
  rfl
theorem xc_291_2 : zCd 291 [0, 18, 52, 58, 64, 76, 77, 78, 84, 90] 52 xb_291_2 := zc_aload_n xj_291 53 0 rfl rfl zf_ald_0 (zc_iload_n xj_291 54 1 rfl rfl zf_ild_1 (zc_invokevirtual1 xj_291 57 302 292 1 367 9 4 rfl rfl rfl rfl (zc_ireturn0 xj_291 58 rfl rfl (trivial))))
noncomputable def xb_291_1 : List zF := [zq_ildg zG2, zq_tab 0 [52, 58, 64, 78, 84] 90]
noncomputable def xf_291_1 : zE → zKn := fun E => zq_ildg zG2 (zq_tab 0 [52, 58, 64, 78, 84] 90 (zNil) E) E
theorem xe_291_1 : xf_291_1 = zEx xb_291_1 := by
  unfold xf_291_1 xb_291_1
  rfl
theorem xc_291_1 : zCd 291 [0, 18, 52, 58, 64, 76, 77, 78, 84, 90] 18 xb_291_1 := zc_iload_n xj_291 19 2 rfl rfl zf_ild_2 (zc_tab xj_291 20 71 0 4 #[33, 39, 45, 59, 65] 90 [52, 58, 64, 78, 84] 0 rfl rfl rfl rfl rfl (trivial))
noncomputable def xb_291_0 : List zF := [zq_aldg zG0, zq_calli 289 0 9 6, zq_istg zE3, zq_ildg zG1, zq_k 0, zq_ildg zG3, zq_k 1, zq_sub, zq_calls 188 3 3, zq_if_ne 18, zq_k 4294967295, zq_iret 0]
noncomputable def xf_291_0 : zE → zKn := fun E => zq_aldg zG0 (zq_calli 289 0 9 6 (zq_istg zE3 (zq_ildg zG1 (zq_k 0 (zq_ildg zG3 (zq_k 1 (zq_sub (zq_calls 188 3 3 (zq_if_ne 18 (zq_k 4294967295 (zq_iret 0 (zNil) E) E) E) E) E) E) E) E) E) E) E) E
theorem xe_291_0 : xf_291_0 = zEx xb_291_0 := by
  unfold xf_291_0 xb_291_0
  rfl
theorem xc_291_0 : zCd 291 [0, 18, 52, 58, 64, 76, 77, 78, 84, 90] 0 xb_291_0 := zc_aload_n xj_291 1 0 rfl rfl zf_ald_0 (zc_invokevirtual1 xj_291 4 246 289 0 328 9 6 rfl rfl rfl rfl (zc_istore_n xj_291 5 3 rfl rfl zf_ist_3 (zc_iload_n xj_291 6 1 rfl rfl zf_ild_1 (zc_iconst xj_291 7 0 0 rfl rfl rfl (zc_iload_n xj_291 8 3 rfl rfl zf_ild_3 (zc_iconst xj_291 9 1 1 rfl rfl rfl (zc_isub xj_291 10 rfl rfl (zc_invokestatic2 xj_291 13 67 188 3 265 0 3 rfl rfl rfl rfl (zc_if_ne xj_291 16 5 18 rfl rfl rfl (zc_iconst xj_291 17 (-1) 4294967295 rfl rfl rfl (zc_ireturn0 xj_291 18 rfl rfl (trivial))))))))))))
noncomputable def xm_291 : Lean.RArray (zE → zKn) := .branch 76 (.branch 52 (.branch 18 (.leaf xf_291_0) (.leaf xf_291_1)) (.branch 58 (.leaf xf_291_2) (.branch 64 (.leaf xf_291_3) (.leaf xf_291_4)))) (.branch 78 (.branch 77 (.leaf xf_291_5) (.leaf xf_291_6)) (.branch 84 (.leaf xf_291_7) (.branch 90 (.leaf xf_291_8) (.leaf xf_291_9))))
theorem xa_291 : zCdAll 291 [0, 18, 52, 58, 64, 76, 77, 78, 84, 90] xm_291 := zAll2_ok (P := fun t => ∃ c, zCd 291 [0, 18, 52, 58, 64, 76, 77, 78, 84, 90] t c ∧ xm_291.get t = zEx c) ⟨⟨_, xc_291_0, xe_291_0⟩, ⟨_, xc_291_1, xe_291_1⟩, ⟨_, xc_291_2, xe_291_2⟩, ⟨_, xc_291_3, xe_291_3⟩, ⟨_, xc_291_4, xe_291_4⟩, ⟨_, xc_291_5, xe_291_5⟩, ⟨_, xc_291_6, xe_291_6⟩, ⟨_, xc_291_7, xe_291_7⟩, ⟨_, xc_291_8, xe_291_8⟩, ⟨_, xc_291_9, xe_291_9⟩, trivial⟩
/-- SquareMeshModel.manyOf -/
theorem xj_292 : ∀ pc, pI 292 pc = pJ_292 pc := fun _ => rfl
noncomputable def xb_292_4 : List zF := [zq_ildg zG2, zq_iret 0]
noncomputable def xf_292_4 : zE → zKn := fun E => zq_ildg zG2 (zq_iret 0 (zNil) E) E
theorem xe_292_4 : xf_292_4 = zEx xb_292_4 := by
  unfold xf_292_4 xb_292_4
  rfl
theorem xc_292_4 : zCd 292 [0, 4, 27, 28, 36] 36 xb_292_4 := zc_iload_n xj_292 37 2 rfl rfl zf_ild_2 (zc_ireturn0 xj_292 38 rfl rfl (trivial))
noncomputable def xb_292_3 : List zF := [zq_add, zq_istg zE2, zq_incg zG3 zE3 1, zq_goto 4]
noncomputable def xf_292_3 : zE → zKn := fun E => zq_add (zq_istg zE2 (zq_incg zG3 zE3 1 (zq_goto 4 (zNil) E) E) E) E
theorem xe_292_3 : xf_292_3 = zEx xb_292_3 := by
  unfold xf_292_3 xb_292_3
  rfl
theorem xc_292_3 : zCd 292 [0, 4, 27, 28, 36] 28 xb_292_3 := zc_iadd xj_292 29 rfl rfl (zc_istore_n xj_292 30 2 rfl rfl zf_ist_2 (zc_iinc xj_292 33 3 1 1 rfl rfl rfl (zf_inc_3 _) (zc_goto xj_292 34 (-29) 4 rfl rfl rfl (trivial))))
noncomputable def xb_292_2 : List zF := zq_k 0 :: xb_292_3
noncomputable def xf_292_2 : zE → zKn := fun E => zq_k 0 (xf_292_3 E) E
theorem xe_292_2 : xf_292_2 = zEx xb_292_2 := by
  unfold xf_292_2 xb_292_2
  rw [xe_292_3]
  rfl
theorem xc_292_2 : zCd 292 [0, 4, 27, 28, 36] 27 xb_292_2 := zc_iconst xj_292 28 0 0 rfl rfl rfl (xc_292_3)
noncomputable def xb_292_1 : List zF := [zq_ildg zG3, zq_aldg zG0, zq_getfg 9 zG4, zq_ic_ge 36, zq_ildg zG2, zq_aldg zG0, zq_getfg 9 zG9, zq_ildg zG3, zq_ild_ 0, zq_ildg zG1, zq_ic_ne 27, zq_k 1, zq_goto 28]
noncomputable def xf_292_1 : zE → zKn := fun E => zq_ildg zG3 (zq_aldg zG0 (zq_getfg 9 zG4 (zq_ic_ge 36 (zq_ildg zG2 (zq_aldg zG0 (zq_getfg 9 zG9 (zq_ildg zG3 (zq_ild_ 0 (zq_ildg zG1 (zq_ic_ne 27 (zq_k 1 (zq_goto 28 (zNil) E) E) E) E) E) E) E) E) E) E) E) E) E
theorem xe_292_1 : xf_292_1 = zEx xb_292_1 := by
  unfold xf_292_1 xb_292_1
  rfl
theorem xc_292_1 : zCd 292 [0, 4, 27, 28, 36] 4 xb_292_1 := zc_iload_n xj_292 5 3 rfl rfl zf_ild_3 (zc_aload_n xj_292 6 0 rfl rfl zf_ald_0 (zc_getf xj_292 9 134 9 4 98 rfl rfl (zf_getf_4 _) (zc_ic_ge xj_292 12 27 36 rfl rfl rfl (zc_iload_n xj_292 13 2 rfl rfl zf_ild_2 (zc_aload_n xj_292 14 0 rfl rfl zf_ald_0 (zc_getf xj_292 17 36 9 9 103 rfl rfl (zf_getf_9 _) (zc_iload_n xj_292 18 3 rfl rfl zf_ild_3 (zc_iaload xj_292 19 rfl rfl (zc_iload_n xj_292 20 1 rfl rfl zf_ild_1 (zc_ic_ne xj_292 23 7 27 rfl rfl rfl (zc_iconst xj_292 24 1 1 rfl rfl rfl (zc_goto xj_292 25 4 28 rfl rfl rfl (trivial)))))))))))))
noncomputable def xb_292_0 : List zF := zq_k 0 :: zq_istg zE2 :: zq_k 0 :: zq_istg zE3 :: xb_292_1
noncomputable def xf_292_0 : zE → zKn := fun E => zq_k 0 (zq_istg zE2 (zq_k 0 (zq_istg zE3 (xf_292_1 E) E) E) E) E
theorem xe_292_0 : xf_292_0 = zEx xb_292_0 := by
  unfold xf_292_0 xb_292_0
  rw [xe_292_1]
  rfl
theorem xc_292_0 : zCd 292 [0, 4, 27, 28, 36] 0 xb_292_0 := zc_iconst xj_292 1 0 0 rfl rfl rfl (zc_istore_n xj_292 2 2 rfl rfl zf_ist_2 (zc_iconst xj_292 3 0 0 rfl rfl rfl (zc_istore_n xj_292 4 3 rfl rfl zf_ist_3 (xc_292_1))))
noncomputable def xm_292 : Lean.RArray (zE → zKn) := .branch 27 (.branch 4 (.leaf xf_292_0) (.leaf xf_292_1)) (.branch 28 (.leaf xf_292_2) (.branch 36 (.leaf xf_292_3) (.leaf xf_292_4)))
theorem xa_292 : zCdAll 292 [0, 4, 27, 28, 36] xm_292 := zAll2_ok (P := fun t => ∃ c, zCd 292 [0, 4, 27, 28, 36] t c ∧ xm_292.get t = zEx c) ⟨⟨_, xc_292_0, xe_292_0⟩, ⟨_, xc_292_1, xe_292_1⟩, ⟨_, xc_292_2, xe_292_2⟩, ⟨_, xc_292_3, xe_292_3⟩, ⟨_, xc_292_4, xe_292_4⟩, trivial⟩
/-- SquareMeshModel.areaIn -/
theorem xj_293 : ∀ pc, pI 293 pc = pJ_293 pc := fun _ => rfl
noncomputable def xb_293_4 : List zF := [zq_ildg zG2, zq_iret 0]
noncomputable def xf_293_4 : zE → zKn := fun E => zq_ildg zG2 (zq_iret 0 (zNil) E) E
theorem xe_293_4 : xf_293_4 = zEx xb_293_4 := by
  unfold xf_293_4 xb_293_4
  rfl
theorem xc_293_4 : zCd 293 [0, 4, 31, 32, 40] 40 xb_293_4 := zc_iload_n xj_293 41 2 rfl rfl zf_ild_2 (zc_ireturn0 xj_293 42 rfl rfl (trivial))
noncomputable def xb_293_3 : List zF := [zq_add, zq_istg zE2, zq_incg zG3 zE3 1, zq_goto 4]
noncomputable def xf_293_3 : zE → zKn := fun E => zq_add (zq_istg zE2 (zq_incg zG3 zE3 1 (zq_goto 4 (zNil) E) E) E) E
theorem xe_293_3 : xf_293_3 = zEx xb_293_3 := by
  unfold xf_293_3 xb_293_3
  rfl
theorem xc_293_3 : zCd 293 [0, 4, 31, 32, 40] 32 xb_293_3 := zc_iadd xj_293 33 rfl rfl (zc_istore_n xj_293 34 2 rfl rfl zf_ist_2 (zc_iinc xj_293 37 3 1 1 rfl rfl rfl (zf_inc_3 _) (zc_goto xj_293 38 (-33) 4 rfl rfl rfl (trivial))))
noncomputable def xb_293_2 : List zF := zq_k 0 :: xb_293_3
noncomputable def xf_293_2 : zE → zKn := fun E => zq_k 0 (xf_293_3 E) E
theorem xe_293_2 : xf_293_2 = zEx xb_293_2 := by
  unfold xf_293_2 xb_293_2
  rw [xe_293_3]
  rfl
theorem xc_293_2 : zCd 293 [0, 4, 31, 32, 40] 31 xb_293_2 := zc_iconst xj_293 32 0 0 rfl rfl rfl (xc_293_3)
noncomputable def xb_293_1 : List zF := [zq_ildg zG3, zq_aldg zG0, zq_getfg 9 zG4, zq_ic_ge 40, zq_ildg zG2, zq_aldg zG0, zq_getfg 9 zG9, zq_ildg zG3, zq_ild_ 0, zq_ildg zG1, zq_ic_ne 31, zq_aldg zG0, zq_ildg zG3, zq_calli 250 1 9 2, zq_goto 32]
noncomputable def xf_293_1 : zE → zKn := fun E => zq_ildg zG3 (zq_aldg zG0 (zq_getfg 9 zG4 (zq_ic_ge 40 (zq_ildg zG2 (zq_aldg zG0 (zq_getfg 9 zG9 (zq_ildg zG3 (zq_ild_ 0 (zq_ildg zG1 (zq_ic_ne 31 (zq_aldg zG0 (zq_ildg zG3 (zq_calli 250 1 9 2 (zq_goto 32 (zNil) E) E) E) E) E) E) E) E) E) E) E) E) E) E) E
theorem xe_293_1 : xf_293_1 = zEx xb_293_1 := by
  unfold xf_293_1 xb_293_1
  rfl
theorem xc_293_1 : zCd 293 [0, 4, 31, 32, 40] 4 xb_293_1 := zc_iload_n xj_293 5 3 rfl rfl zf_ild_3 (zc_aload_n xj_293 6 0 rfl rfl zf_ald_0 (zc_getf xj_293 9 134 9 4 98 rfl rfl (zf_getf_4 _) (zc_ic_ge xj_293 12 31 40 rfl rfl rfl (zc_iload_n xj_293 13 2 rfl rfl zf_ild_2 (zc_aload_n xj_293 14 0 rfl rfl zf_ald_0 (zc_getf xj_293 17 36 9 9 103 rfl rfl (zf_getf_9 _) (zc_iload_n xj_293 18 3 rfl rfl zf_ild_3 (zc_iaload xj_293 19 rfl rfl (zc_iload_n xj_293 20 1 rfl rfl zf_ild_1 (zc_ic_ne xj_293 23 11 31 rfl rfl rfl (zc_aload_n xj_293 24 0 rfl rfl zf_ald_0 (zc_iload_n xj_293 25 3 rfl rfl zf_ild_3 (zc_invokevirtual1 xj_293 28 212 250 1 312 9 2 rfl rfl rfl rfl (zc_goto xj_293 29 4 32 rfl rfl rfl (trivial)))))))))))))))
noncomputable def xb_293_0 : List zF := zq_k 0 :: zq_istg zE2 :: zq_k 0 :: zq_istg zE3 :: xb_293_1
noncomputable def xf_293_0 : zE → zKn := fun E => zq_k 0 (zq_istg zE2 (zq_k 0 (zq_istg zE3 (xf_293_1 E) E) E) E) E
theorem xe_293_0 : xf_293_0 = zEx xb_293_0 := by
  unfold xf_293_0 xb_293_0
  rw [xe_293_1]
  rfl
theorem xc_293_0 : zCd 293 [0, 4, 31, 32, 40] 0 xb_293_0 := zc_iconst xj_293 1 0 0 rfl rfl rfl (zc_istore_n xj_293 2 2 rfl rfl zf_ist_2 (zc_iconst xj_293 3 0 0 rfl rfl rfl (zc_istore_n xj_293 4 3 rfl rfl zf_ist_3 (xc_293_1))))
noncomputable def xm_293 : Lean.RArray (zE → zKn) := .branch 31 (.branch 4 (.leaf xf_293_0) (.leaf xf_293_1)) (.branch 32 (.leaf xf_293_2) (.branch 40 (.leaf xf_293_3) (.leaf xf_293_4)))
theorem xa_293 : zCdAll 293 [0, 4, 31, 32, 40] xm_293 := zAll2_ok (P := fun t => ∃ c, zCd 293 [0, 4, 31, 32, 40] t c ∧ xm_293.get t = zEx c) ⟨⟨_, xc_293_0, xe_293_0⟩, ⟨_, xc_293_1, xe_293_1⟩, ⟨_, xc_293_2, xe_293_2⟩, ⟨_, xc_293_3, xe_293_3⟩, ⟨_, xc_293_4, xe_293_4⟩, trivial⟩
/-- SquareMeshModel.holesIn -/
theorem xj_294 : ∀ pc, pI 294 pc = pJ_294 pc := fun _ => rfl
noncomputable def xb_294_4 : List zF := [zq_ildg zG2, zq_iret 0]
noncomputable def xf_294_4 : zE → zKn := fun E => zq_ildg zG2 (zq_iret 0 (zNil) E) E
theorem xe_294_4 : xf_294_4 = zEx xb_294_4 := by
  unfold xf_294_4 xb_294_4
  rfl
theorem xc_294_4 : zCd 294 [0, 4, 60, 61, 69] 69 xb_294_4 := zc_iload_n xj_294 70 2 rfl rfl zf_ild_2 (zc_ireturn0 xj_294 71 rfl rfl (trivial))
noncomputable def xb_294_3 : List zF := [zq_add, zq_istg zE2, zq_incg zG3 zE3 1, zq_goto 4]
noncomputable def xf_294_3 : zE → zKn := fun E => zq_add (zq_istg zE2 (zq_incg zG3 zE3 1 (zq_goto 4 (zNil) E) E) E) E
theorem xe_294_3 : xf_294_3 = zEx xb_294_3 := by
  unfold xf_294_3 xb_294_3
  rfl
theorem xc_294_3 : zCd 294 [0, 4, 60, 61, 69] 61 xb_294_3 := zc_iadd xj_294 62 rfl rfl (zc_istore_n xj_294 63 2 rfl rfl zf_ist_2 (zc_iinc xj_294 66 3 1 1 rfl rfl rfl (zf_inc_3 _) (zc_goto xj_294 67 (-62) 4 rfl rfl rfl (trivial))))
noncomputable def xb_294_2 : List zF := zq_k 0 :: xb_294_3
noncomputable def xf_294_2 : zE → zKn := fun E => zq_k 0 (xf_294_3 E) E
theorem xe_294_2 : xf_294_2 = zEx xb_294_2 := by
  unfold xf_294_2 xb_294_2
  rw [xe_294_3]
  rfl
theorem xc_294_2 : zCd 294 [0, 4, 60, 61, 69] 60 xb_294_2 := zc_iconst xj_294 61 0 0 rfl rfl rfl (xc_294_3)
noncomputable def xb_294_1 : List zF := [zq_ildg zG3, zq_aldg zG0, zq_getfg 9 zG0, zq_k 1763, zq_ild_ 0, zq_ic_ge 69, zq_ildg zG2, zq_aldg zG0, zq_getfg 9 zG9, zq_aldg zG0, zq_aldg zG0, zq_getfg 9 zG0, zq_k 1764, zq_k 2, zq_ildg zG3, zq_mul, zq_add, zq_ild_ 0, zq_aldg zG0, zq_getfg 9 zG0, zq_k 1764, zq_k 2, zq_ildg zG3, zq_mul, zq_add, zq_k 1, zq_add, zq_ild_ 0, zq_calli 274 2 9 4, zq_ild_ 0, zq_ildg zG1, zq_ic_ne 60, zq_k 1, zq_goto 61]
noncomputable def xf_294_1 : zE → zKn := fun E => zq_ildg zG3 (zq_aldg zG0 (zq_getfg 9 zG0 (zq_k 1763 (zq_ild_ 0 (zq_ic_ge 69 (zq_ildg zG2 (zq_aldg zG0 (zq_getfg 9 zG9 (zq_aldg zG0 (zq_aldg zG0 (zq_getfg 9 zG0 (zq_k 1764 (zq_k 2 (zq_ildg zG3 (zq_mul (zq_add (zq_ild_ 0 (zq_aldg zG0 (zq_getfg 9 zG0 (zq_k 1764 (zq_k 2 (zq_ildg zG3 (zq_mul (zq_add (zq_k 1 (zq_add (zq_ild_ 0 (zq_calli 274 2 9 4 (zq_ild_ 0 (zq_ildg zG1 (zq_ic_ne 60 (zq_k 1 (zq_goto 61 (zNil) E) E) E) E) E) E) E) E) E) E) E) E) E) E) E) E) E) E) E) E) E) E) E) E) E) E) E) E) E) E) E) E) E) E
set_option maxRecDepth 100000 in
theorem xe_294_1 : xf_294_1 = zEx xb_294_1 := by
  unfold xf_294_1 xb_294_1
  rfl
theorem xc_294_1 : zCd 294 [0, 4, 60, 61, 69] 4 xb_294_1 := zc_iload_n xj_294 5 3 rfl rfl zf_ild_3 (zc_aload_n xj_294 6 0 rfl rfl zf_ald_0 (zc_getf xj_294 9 8 9 0 94 rfl rfl (zf_getf_0 _) (zc_sipush xj_294 12 1763 1763 rfl rfl rfl (zc_iaload xj_294 13 rfl rfl (zc_ic_ge xj_294 16 56 69 rfl rfl rfl (zc_iload_n xj_294 17 2 rfl rfl zf_ild_2 (zc_aload_n xj_294 18 0 rfl rfl zf_ald_0 (zc_getf xj_294 21 36 9 9 103 rfl rfl (zf_getf_9 _) (zc_aload_n xj_294 22 0 rfl rfl zf_ald_0 (zc_aload_n xj_294 23 0 rfl rfl zf_ald_0 (zc_getf xj_294 26 8 9 0 94 rfl rfl (zf_getf_0 _) (zc_sipush xj_294 29 1764 1764 rfl rfl rfl (zc_iconst xj_294 30 2 2 rfl rfl rfl (zc_iload_n xj_294 31 3 rfl rfl zf_ild_3 (zc_imul xj_294 32 rfl rfl (zc_iadd xj_294 33 rfl rfl (zc_iaload xj_294 34 rfl rfl (zc_aload_n xj_294 35 0 rfl rfl zf_ald_0 (zc_getf xj_294 38 8 9 0 94 rfl rfl (zf_getf_0 _) (zc_sipush xj_294 41 1764 1764 rfl rfl rfl (zc_iconst xj_294 42 2 2 rfl rfl rfl (zc_iload_n xj_294 43 3 rfl rfl zf_ild_3 (zc_imul xj_294 44 rfl rfl (zc_iadd xj_294 45 rfl rfl (zc_iconst xj_294 46 1 1 rfl rfl rfl (zc_iadd xj_294 47 rfl rfl (zc_iaload xj_294 48 rfl rfl (zc_invokevirtual1 xj_294 51 281 274 2 336 9 4 rfl rfl rfl rfl (zc_iaload xj_294 52 rfl rfl (zc_iload_n xj_294 53 1 rfl rfl zf_ild_1 (zc_ic_ne xj_294 56 7 60 rfl rfl rfl (zc_iconst xj_294 57 1 1 rfl rfl rfl (zc_goto xj_294 58 4 61 rfl rfl rfl (trivial))))))))))))))))))))))))))))))))))
noncomputable def xb_294_0 : List zF := zq_k 0 :: zq_istg zE2 :: zq_k 0 :: zq_istg zE3 :: xb_294_1
noncomputable def xf_294_0 : zE → zKn := fun E => zq_k 0 (zq_istg zE2 (zq_k 0 (zq_istg zE3 (xf_294_1 E) E) E) E) E
theorem xe_294_0 : xf_294_0 = zEx xb_294_0 := by
  unfold xf_294_0 xb_294_0
  rw [xe_294_1]
  rfl
theorem xc_294_0 : zCd 294 [0, 4, 60, 61, 69] 0 xb_294_0 := zc_iconst xj_294 1 0 0 rfl rfl rfl (zc_istore_n xj_294 2 2 rfl rfl zf_ist_2 (zc_iconst xj_294 3 0 0 rfl rfl rfl (zc_istore_n xj_294 4 3 rfl rfl zf_ist_3 (xc_294_1))))
noncomputable def xm_294 : Lean.RArray (zE → zKn) := .branch 60 (.branch 4 (.leaf xf_294_0) (.leaf xf_294_1)) (.branch 61 (.leaf xf_294_2) (.branch 69 (.leaf xf_294_3) (.leaf xf_294_4)))
theorem xa_294 : zCdAll 294 [0, 4, 60, 61, 69] xm_294 := zAll2_ok (P := fun t => ∃ c, zCd 294 [0, 4, 60, 61, 69] t c ∧ xm_294.get t = zEx c) ⟨⟨_, xc_294_0, xe_294_0⟩, ⟨_, xc_294_1, xe_294_1⟩, ⟨_, xc_294_2, xe_294_2⟩, ⟨_, xc_294_3, xe_294_3⟩, ⟨_, xc_294_4, xe_294_4⟩, trivial⟩
/-- SquareMeshModel.pointsIn -/
theorem xj_295 : ∀ pc, pI 295 pc = pJ_295 pc := fun _ => rfl
noncomputable def xb_295_9 : List zF := [zq_ildg zG2, zq_iret 0]
noncomputable def xf_295_9 : zE → zKn := fun E => zq_ildg zG2 (zq_iret 0 (zNil) E) E
theorem xe_295_9 : xf_295_9 = zEx xb_295_9 := by
  unfold xf_295_9 xb_295_9
  rfl
theorem xc_295_9 : zCd 295 [0, 4, 16, 51, 55, 56, 64, 74, 75, 83] 83 xb_295_9 := zc_iload_n xj_295 84 2 rfl rfl zf_ild_2 (zc_ireturn0 xj_295 85 rfl rfl (trivial))
noncomputable def xb_295_8 : List zF := [zq_add, zq_istg zE2, zq_incg zG3 zE3 1, zq_goto 4]
noncomputable def xf_295_8 : zE → zKn := fun E => zq_add (zq_istg zE2 (zq_incg zG3 zE3 1 (zq_goto 4 (zNil) E) E) E) E
theorem xe_295_8 : xf_295_8 = zEx xb_295_8 := by
  unfold xf_295_8 xb_295_8
  rfl
theorem xc_295_8 : zCd 295 [0, 4, 16, 51, 55, 56, 64, 74, 75, 83] 75 xb_295_8 := zc_iadd xj_295 76 rfl rfl (zc_istore_n xj_295 77 2 rfl rfl zf_ist_2 (zc_iinc xj_295 80 3 1 1 rfl rfl rfl (zf_inc_3 _) (zc_goto xj_295 81 (-76) 4 rfl rfl rfl (trivial))))
noncomputable def xb_295_7 : List zF := zq_k 0 :: xb_295_8
noncomputable def xf_295_7 : zE → zKn := fun E => zq_k 0 (xf_295_8 E) E
theorem xe_295_7 : xf_295_7 = zEx xb_295_7 := by
  unfold xf_295_7 xb_295_7
  rw [xe_295_8]
  rfl
theorem xc_295_7 : zCd 295 [0, 4, 16, 51, 55, 56, 64, 74, 75, 83] 74 xb_295_7 := zc_iconst xj_295 75 0 0 rfl rfl rfl (xc_295_8)
noncomputable def xb_295_6 : List zF := [zq_ildg zG2, zq_ildg zG4, zq_if_eq 74, zq_k 1, zq_goto 75]
noncomputable def xf_295_6 : zE → zKn := fun E => zq_ildg zG2 (zq_ildg zG4 (zq_if_eq 74 (zq_k 1 (zq_goto 75 (zNil) E) E) E) E) E
theorem xe_295_6 : xf_295_6 = zEx xb_295_6 := by
  unfold xf_295_6 xb_295_6
  rfl
theorem xc_295_6 : zCd 295 [0, 4, 16, 51, 55, 56, 64, 74, 75, 83] 64 xb_295_6 := zc_iload_n xj_295 65 2 rfl rfl zf_ild_2 (zc_iload xj_295 67 4 rfl rfl zf_ild_4 (zc_if_eq xj_295 70 7 74 rfl rfl rfl (zc_iconst xj_295 71 1 1 rfl rfl rfl (zc_goto xj_295 72 4 75 rfl rfl rfl (trivial)))))
noncomputable def xb_295_5 : List zF := [zq_istg zE4, zq_incg zG5 zE5 1, zq_goto 16]
noncomputable def xf_295_5 : zE → zKn := fun E => zq_istg zE4 (zq_incg zG5 zE5 1 (zq_goto 16 (zNil) E) E) E
theorem xe_295_5 : xf_295_5 = zEx xb_295_5 := by
  unfold xf_295_5 xb_295_5
  rfl
theorem xc_295_5 : zCd 295 [0, 4, 16, 51, 55, 56, 64, 74, 75, 83] 56 xb_295_5 := zc_istore xj_295 58 4 rfl rfl zf_ist_4 (zc_iinc xj_295 61 5 1 1 rfl rfl rfl (zf_inc_5 _) (zc_goto xj_295 62 (-45) 16 rfl rfl rfl (trivial)))
noncomputable def xb_295_4 : List zF := zq_k 0 :: xb_295_5
noncomputable def xf_295_4 : zE → zKn := fun E => zq_k 0 (xf_295_5 E) E
theorem xe_295_4 : xf_295_4 = zEx xb_295_4 := by
  unfold xf_295_4 xb_295_4
  rw [xe_295_5]
  rfl
theorem xc_295_4 : zCd 295 [0, 4, 16, 51, 55, 56, 64, 74, 75, 83] 55 xb_295_4 := zc_iconst xj_295 56 0 0 rfl rfl rfl (xc_295_5)
noncomputable def xb_295_3 : List zF := [zq_k 1, zq_goto 56]
noncomputable def xf_295_3 : zE → zKn := fun E => zq_k 1 (zq_goto 56 (zNil) E) E
theorem xe_295_3 : xf_295_3 = zEx xb_295_3 := by
  unfold xf_295_3 xb_295_3
  rfl
theorem xc_295_3 : zCd 295 [0, 4, 16, 51, 55, 56, 64, 74, 75, 83] 51 xb_295_3 := zc_iconst xj_295 52 1 1 rfl rfl rfl (zc_goto xj_295 53 4 56 rfl rfl rfl (trivial))
noncomputable def xb_295_2 : List zF := zq_ildg zG5 :: zq_aldg zG0 :: zq_getfg 9 zG4 :: zq_ic_ge 64 :: zq_ildg zG4 :: zq_if_ne 51 :: zq_aldg zG0 :: zq_getfg 9 zG9 :: zq_ildg zG5 :: zq_ild_ 0 :: zq_ildg zG1 :: zq_ic_ne 55 :: zq_aldg zG0 :: zq_ildg zG5 :: zq_ildg zG3 :: zq_calli 270 2 9 3 :: zq_if_eq 55 :: xb_295_3
noncomputable def xf_295_2 : zE → zKn := fun E => zq_ildg zG5 (zq_aldg zG0 (zq_getfg 9 zG4 (zq_ic_ge 64 (zq_ildg zG4 (zq_if_ne 51 (zq_aldg zG0 (zq_getfg 9 zG9 (zq_ildg zG5 (zq_ild_ 0 (zq_ildg zG1 (zq_ic_ne 55 (zq_aldg zG0 (zq_ildg zG5 (zq_ildg zG3 (zq_calli 270 2 9 3 (zq_if_eq 55 (xf_295_3 E) E) E) E) E) E) E) E) E) E) E) E) E) E) E) E) E) E
theorem xe_295_2 : xf_295_2 = zEx xb_295_2 := by
  unfold xf_295_2 xb_295_2
  rw [xe_295_3]
  rfl
theorem xc_295_2 : zCd 295 [0, 4, 16, 51, 55, 56, 64, 74, 75, 83] 16 xb_295_2 := zc_iload xj_295 18 5 rfl rfl zf_ild_5 (zc_aload_n xj_295 19 0 rfl rfl zf_ald_0 (zc_getf xj_295 22 134 9 4 98 rfl rfl (zf_getf_4 _) (zc_ic_ge xj_295 25 42 64 rfl rfl rfl (zc_iload xj_295 27 4 rfl rfl zf_ild_4 (zc_if_ne xj_295 30 24 51 rfl rfl rfl (zc_aload_n xj_295 31 0 rfl rfl zf_ald_0 (zc_getf xj_295 34 36 9 9 103 rfl rfl (zf_getf_9 _) (zc_iload xj_295 36 5 rfl rfl zf_ild_5 (zc_iaload xj_295 37 rfl rfl (zc_iload_n xj_295 38 1 rfl rfl zf_ild_1 (zc_ic_ne xj_295 41 17 55 rfl rfl rfl (zc_aload_n xj_295 42 0 rfl rfl zf_ald_0 (zc_iload xj_295 44 5 rfl rfl zf_ild_5 (zc_iload_n xj_295 45 3 rfl rfl zf_ild_3 (zc_invokevirtual1 xj_295 48 275 270 2 351 9 3 rfl rfl rfl rfl (zc_if_eq xj_295 51 7 55 rfl rfl rfl (xc_295_3)))))))))))))))))
noncomputable def xb_295_1 : List zF := zq_ildg zG3 :: zq_k 40 :: zq_ic_ge 83 :: zq_k 0 :: zq_istg zE4 :: zq_k 0 :: zq_istg zE5 :: xb_295_2
noncomputable def xf_295_1 : zE → zKn := fun E => zq_ildg zG3 (zq_k 40 (zq_ic_ge 83 (zq_k 0 (zq_istg zE4 (zq_k 0 (zq_istg zE5 (xf_295_2 E) E) E) E) E) E) E) E
theorem xe_295_1 : xf_295_1 = zEx xb_295_1 := by
  unfold xf_295_1 xb_295_1
  rw [xe_295_2]
  rfl
theorem xc_295_1 : zCd 295 [0, 4, 16, 51, 55, 56, 64, 74, 75, 83] 4 xb_295_1 := zc_iload_n xj_295 5 3 rfl rfl zf_ild_3 (zc_bipush xj_295 7 40 40 rfl rfl rfl (zc_ic_ge xj_295 10 76 83 rfl rfl rfl (zc_iconst xj_295 11 0 0 rfl rfl rfl (zc_istore xj_295 13 4 rfl rfl zf_ist_4 (zc_iconst xj_295 14 0 0 rfl rfl rfl (zc_istore xj_295 16 5 rfl rfl zf_ist_5 (xc_295_2)))))))
noncomputable def xb_295_0 : List zF := zq_k 0 :: zq_istg zE2 :: zq_k 0 :: zq_istg zE3 :: xb_295_1
noncomputable def xf_295_0 : zE → zKn := fun E => zq_k 0 (zq_istg zE2 (zq_k 0 (zq_istg zE3 (xf_295_1 E) E) E) E) E
theorem xe_295_0 : xf_295_0 = zEx xb_295_0 := by
  unfold xf_295_0 xb_295_0
  rw [xe_295_1]
  rfl
theorem xc_295_0 : zCd 295 [0, 4, 16, 51, 55, 56, 64, 74, 75, 83] 0 xb_295_0 := zc_iconst xj_295 1 0 0 rfl rfl rfl (zc_istore_n xj_295 2 2 rfl rfl zf_ist_2 (zc_iconst xj_295 3 0 0 rfl rfl rfl (zc_istore_n xj_295 4 3 rfl rfl zf_ist_3 (xc_295_1))))
noncomputable def xm_295 : Lean.RArray (zE → zKn) := .branch 56 (.branch 16 (.branch 4 (.leaf xf_295_0) (.leaf xf_295_1)) (.branch 51 (.leaf xf_295_2) (.branch 55 (.leaf xf_295_3) (.leaf xf_295_4)))) (.branch 74 (.branch 64 (.leaf xf_295_5) (.leaf xf_295_6)) (.branch 75 (.leaf xf_295_7) (.branch 83 (.leaf xf_295_8) (.leaf xf_295_9))))
theorem xa_295 : zCdAll 295 [0, 4, 16, 51, 55, 56, 64, 74, 75, 83] xm_295 := zAll2_ok (P := fun t => ∃ c, zCd 295 [0, 4, 16, 51, 55, 56, 64, 74, 75, 83] t c ∧ xm_295.get t = zEx c) ⟨⟨_, xc_295_0, xe_295_0⟩, ⟨_, xc_295_1, xe_295_1⟩, ⟨_, xc_295_2, xe_295_2⟩, ⟨_, xc_295_3, xe_295_3⟩, ⟨_, xc_295_4, xe_295_4⟩, ⟨_, xc_295_5, xe_295_5⟩, ⟨_, xc_295_6, xe_295_6⟩, ⟨_, xc_295_7, xe_295_7⟩, ⟨_, xc_295_8, xe_295_8⟩, ⟨_, xc_295_9, xe_295_9⟩, trivial⟩
/-- SquareMeshModel.hollows -/
theorem xj_296 : ∀ pc, pI 296 pc = pJ_296 pc := fun _ => rfl
noncomputable def xb_296_4 : List zF := [zq_ildg zG2, zq_iret 0]
noncomputable def xf_296_4 : zE → zKn := fun E => zq_ildg zG2 (zq_iret 0 (zNil) E) E
theorem xe_296_4 : xf_296_4 = zEx xb_296_4 := by
  unfold xf_296_4 xb_296_4
  rfl
theorem xc_296_4 : zCd 296 [0, 9, 27, 28, 36] 36 xb_296_4 := zc_iload_n xj_296 37 2 rfl rfl zf_ild_2 (zc_ireturn0 xj_296 38 rfl rfl (trivial))
noncomputable def xb_296_3 : List zF := [zq_add, zq_istg zE2, zq_incg zG3 zE3 1, zq_goto 9]
noncomputable def xf_296_3 : zE → zKn := fun E => zq_add (zq_istg zE2 (zq_incg zG3 zE3 1 (zq_goto 9 (zNil) E) E) E) E
theorem xe_296_3 : xf_296_3 = zEx xb_296_3 := by
  unfold xf_296_3 xb_296_3
  rfl
theorem xc_296_3 : zCd 296 [0, 9, 27, 28, 36] 28 xb_296_3 := zc_iadd xj_296 29 rfl rfl (zc_istore_n xj_296 30 2 rfl rfl zf_ist_2 (zc_iinc xj_296 33 3 1 1 rfl rfl rfl (zf_inc_3 _) (zc_goto xj_296 34 (-24) 9 rfl rfl rfl (trivial))))
noncomputable def xb_296_2 : List zF := zq_k 0 :: xb_296_3
noncomputable def xf_296_2 : zE → zKn := fun E => zq_k 0 (xf_296_3 E) E
theorem xe_296_2 : xf_296_2 = zEx xb_296_2 := by
  unfold xf_296_2 xb_296_2
  rw [xe_296_3]
  rfl
theorem xc_296_2 : zCd 296 [0, 9, 27, 28, 36] 27 xb_296_2 := zc_iconst xj_296 28 0 0 rfl rfl rfl (xc_296_3)
noncomputable def xb_296_1 : List zF := [zq_ildg zG3, zq_ildg zG1, zq_ic_ge 36, zq_ildg zG2, zq_aldg zG0, zq_ildg zG3, zq_calli 294 1 9 4, zq_if_le 27, zq_k 1, zq_goto 28]
noncomputable def xf_296_1 : zE → zKn := fun E => zq_ildg zG3 (zq_ildg zG1 (zq_ic_ge 36 (zq_ildg zG2 (zq_aldg zG0 (zq_ildg zG3 (zq_calli 294 1 9 4 (zq_if_le 27 (zq_k 1 (zq_goto 28 (zNil) E) E) E) E) E) E) E) E) E) E
theorem xe_296_1 : xf_296_1 = zEx xb_296_1 := by
  unfold xf_296_1 xb_296_1
  rfl
theorem xc_296_1 : zCd 296 [0, 9, 27, 28, 36] 9 xb_296_1 := zc_iload_n xj_296 10 3 rfl rfl zf_ild_3 (zc_iload_n xj_296 11 1 rfl rfl zf_ild_1 (zc_ic_ge xj_296 14 25 36 rfl rfl rfl (zc_iload_n xj_296 15 2 rfl rfl zf_ild_2 (zc_aload_n xj_296 16 0 rfl rfl zf_ald_0 (zc_iload_n xj_296 17 3 rfl rfl zf_ild_3 (zc_invokevirtual1 xj_296 20 308 294 1 335 9 4 rfl rfl rfl rfl (zc_if_le xj_296 23 7 27 rfl rfl rfl (zc_iconst xj_296 24 1 1 rfl rfl rfl (zc_goto xj_296 25 4 28 rfl rfl rfl (trivial))))))))))
noncomputable def xb_296_0 : List zF := zq_aldg zG0 :: zq_calli 289 0 9 6 :: zq_istg zE1 :: zq_k 0 :: zq_istg zE2 :: zq_k 0 :: zq_istg zE3 :: xb_296_1
noncomputable def xf_296_0 : zE → zKn := fun E => zq_aldg zG0 (zq_calli 289 0 9 6 (zq_istg zE1 (zq_k 0 (zq_istg zE2 (zq_k 0 (zq_istg zE3 (xf_296_1 E) E) E) E) E) E) E) E
theorem xe_296_0 : xf_296_0 = zEx xb_296_0 := by
  unfold xf_296_0 xb_296_0
  rw [xe_296_1]
  rfl
theorem xc_296_0 : zCd 296 [0, 9, 27, 28, 36] 0 xb_296_0 := zc_aload_n xj_296 1 0 rfl rfl zf_ald_0 (zc_invokevirtual1 xj_296 4 246 289 0 328 9 6 rfl rfl rfl rfl (zc_istore_n xj_296 5 1 rfl rfl zf_ist_1 (zc_iconst xj_296 6 0 0 rfl rfl rfl (zc_istore_n xj_296 7 2 rfl rfl zf_ist_2 (zc_iconst xj_296 8 0 0 rfl rfl rfl (zc_istore_n xj_296 9 3 rfl rfl zf_ist_3 (xc_296_1)))))))
noncomputable def xm_296 : Lean.RArray (zE → zKn) := .branch 27 (.branch 9 (.leaf xf_296_0) (.leaf xf_296_1)) (.branch 28 (.leaf xf_296_2) (.branch 36 (.leaf xf_296_3) (.leaf xf_296_4)))
theorem xa_296 : zCdAll 296 [0, 9, 27, 28, 36] xm_296 := zAll2_ok (P := fun t => ∃ c, zCd 296 [0, 9, 27, 28, 36] t c ∧ xm_296.get t = zEx c) ⟨⟨_, xc_296_0, xe_296_0⟩, ⟨_, xc_296_1, xe_296_1⟩, ⟨_, xc_296_2, xe_296_2⟩, ⟨_, xc_296_3, xe_296_3⟩, ⟨_, xc_296_4, xe_296_4⟩, trivial⟩
/-- SquareMeshModel.firm -/
theorem xj_297 : ∀ pc, pI 297 pc = pJ_297 pc := fun _ => rfl
noncomputable def xb_297_4 : List zF := [zq_ildg zG2, zq_iret 0]
noncomputable def xf_297_4 : zE → zKn := fun E => zq_ildg zG2 (zq_iret 0 (zNil) E) E
theorem xe_297_4 : xf_297_4 = zEx xb_297_4 := by
  unfold xf_297_4 xb_297_4
  rfl
theorem xc_297_4 : zCd 297 [0, 9, 31, 32, 40] 40 xb_297_4 := zc_iload_n xj_297 41 2 rfl rfl zf_ild_2 (zc_ireturn0 xj_297 42 rfl rfl (trivial))
noncomputable def xb_297_3 : List zF := [zq_add, zq_istg zE2, zq_incg zG3 zE3 1, zq_goto 9]
noncomputable def xf_297_3 : zE → zKn := fun E => zq_add (zq_istg zE2 (zq_incg zG3 zE3 1 (zq_goto 9 (zNil) E) E) E) E
theorem xe_297_3 : xf_297_3 = zEx xb_297_3 := by
  unfold xf_297_3 xb_297_3
  rfl
theorem xc_297_3 : zCd 297 [0, 9, 31, 32, 40] 32 xb_297_3 := zc_iadd xj_297 33 rfl rfl (zc_istore_n xj_297 34 2 rfl rfl zf_ist_2 (zc_iinc xj_297 37 3 1 1 rfl rfl rfl (zf_inc_3 _) (zc_goto xj_297 38 (-28) 9 rfl rfl rfl (trivial))))
noncomputable def xb_297_2 : List zF := zq_k 0 :: xb_297_3
noncomputable def xf_297_2 : zE → zKn := fun E => zq_k 0 (xf_297_3 E) E
theorem xe_297_2 : xf_297_2 = zEx xb_297_2 := by
  unfold xf_297_2 xb_297_2
  rw [xe_297_3]
  rfl
theorem xc_297_2 : zCd 297 [0, 9, 31, 32, 40] 31 xb_297_2 := zc_iconst xj_297 32 0 0 rfl rfl rfl (xc_297_3)
noncomputable def xb_297_1 : List zF := [zq_ildg zG3, zq_ildg zG1, zq_ic_ge 40, zq_ildg zG2, zq_aldg zG0, zq_ildg zG3, zq_calli 294 1 9 4, zq_if_ne 31, zq_aldg zG0, zq_ildg zG3, zq_calli 293 1 9 4, zq_goto 32]
noncomputable def xf_297_1 : zE → zKn := fun E => zq_ildg zG3 (zq_ildg zG1 (zq_ic_ge 40 (zq_ildg zG2 (zq_aldg zG0 (zq_ildg zG3 (zq_calli 294 1 9 4 (zq_if_ne 31 (zq_aldg zG0 (zq_ildg zG3 (zq_calli 293 1 9 4 (zq_goto 32 (zNil) E) E) E) E) E) E) E) E) E) E) E) E
theorem xe_297_1 : xf_297_1 = zEx xb_297_1 := by
  unfold xf_297_1 xb_297_1
  rfl
theorem xc_297_1 : zCd 297 [0, 9, 31, 32, 40] 9 xb_297_1 := zc_iload_n xj_297 10 3 rfl rfl zf_ild_3 (zc_iload_n xj_297 11 1 rfl rfl zf_ild_1 (zc_ic_ge xj_297 14 29 40 rfl rfl rfl (zc_iload_n xj_297 15 2 rfl rfl zf_ild_2 (zc_aload_n xj_297 16 0 rfl rfl zf_ald_0 (zc_iload_n xj_297 17 3 rfl rfl zf_ild_3 (zc_invokevirtual1 xj_297 20 308 294 1 335 9 4 rfl rfl rfl rfl (zc_if_ne xj_297 23 11 31 rfl rfl rfl (zc_aload_n xj_297 24 0 rfl rfl zf_ald_0 (zc_iload_n xj_297 25 3 rfl rfl zf_ild_3 (zc_invokevirtual1 xj_297 28 305 293 1 368 9 4 rfl rfl rfl rfl (zc_goto xj_297 29 4 32 rfl rfl rfl (trivial))))))))))))
noncomputable def xb_297_0 : List zF := zq_aldg zG0 :: zq_calli 289 0 9 6 :: zq_istg zE1 :: zq_k 0 :: zq_istg zE2 :: zq_k 0 :: zq_istg zE3 :: xb_297_1
noncomputable def xf_297_0 : zE → zKn := fun E => zq_aldg zG0 (zq_calli 289 0 9 6 (zq_istg zE1 (zq_k 0 (zq_istg zE2 (zq_k 0 (zq_istg zE3 (xf_297_1 E) E) E) E) E) E) E) E
theorem xe_297_0 : xf_297_0 = zEx xb_297_0 := by
  unfold xf_297_0 xb_297_0
  rw [xe_297_1]
  rfl
theorem xc_297_0 : zCd 297 [0, 9, 31, 32, 40] 0 xb_297_0 := zc_aload_n xj_297 1 0 rfl rfl zf_ald_0 (zc_invokevirtual1 xj_297 4 246 289 0 328 9 6 rfl rfl rfl rfl (zc_istore_n xj_297 5 1 rfl rfl zf_ist_1 (zc_iconst xj_297 6 0 0 rfl rfl rfl (zc_istore_n xj_297 7 2 rfl rfl zf_ist_2 (zc_iconst xj_297 8 0 0 rfl rfl rfl (zc_istore_n xj_297 9 3 rfl rfl zf_ist_3 (xc_297_1)))))))
noncomputable def xm_297 : Lean.RArray (zE → zKn) := .branch 31 (.branch 9 (.leaf xf_297_0) (.leaf xf_297_1)) (.branch 32 (.leaf xf_297_2) (.branch 40 (.leaf xf_297_3) (.leaf xf_297_4)))
theorem xa_297 : zCdAll 297 [0, 9, 31, 32, 40] xm_297 := zAll2_ok (P := fun t => ∃ c, zCd 297 [0, 9, 31, 32, 40] t c ∧ xm_297.get t = zEx c) ⟨⟨_, xc_297_0, xe_297_0⟩, ⟨_, xc_297_1, xe_297_1⟩, ⟨_, xc_297_2, xe_297_2⟩, ⟨_, xc_297_3, xe_297_3⟩, ⟨_, xc_297_4, xe_297_4⟩, trivial⟩
/-- SquareMeshModel.corners -/
theorem xj_298 : ∀ pc, pI 298 pc = pJ_298 pc := fun _ => rfl
noncomputable def xb_298_10 : List zF := [zq_ildg zG2, zq_iret 0]
noncomputable def xf_298_10 : zE → zKn := fun E => zq_ildg zG2 (zq_iret 0 (zNil) E) E
theorem xe_298_10 : xf_298_10 = zEx xb_298_10 := by
  unfold xf_298_10 xb_298_10
  rfl
theorem xc_298_10 : zCd 298 [0, 4, 18, 72, 77, 81, 82, 90, 100, 101, 109] 109 xb_298_10 := zc_iload_n xj_298 110 2 rfl rfl zf_ild_2 (zc_ireturn0 xj_298 111 rfl rfl (trivial))
noncomputable def xb_298_9 : List zF := [zq_add, zq_istg zE2, zq_incg zG3 zE3 1, zq_goto 4]
noncomputable def xf_298_9 : zE → zKn := fun E => zq_add (zq_istg zE2 (zq_incg zG3 zE3 1 (zq_goto 4 (zNil) E) E) E) E
theorem xe_298_9 : xf_298_9 = zEx xb_298_9 := by
  unfold xf_298_9 xb_298_9
  rfl
theorem xc_298_9 : zCd 298 [0, 4, 18, 72, 77, 81, 82, 90, 100, 101, 109] 101 xb_298_9 := zc_iadd xj_298 102 rfl rfl (zc_istore_n xj_298 103 2 rfl rfl zf_ist_2 (zc_iinc xj_298 106 3 1 1 rfl rfl rfl (zf_inc_3 _) (zc_goto xj_298 107 (-102) 4 rfl rfl rfl (trivial))))
noncomputable def xb_298_8 : List zF := zq_k 0 :: xb_298_9
noncomputable def xf_298_8 : zE → zKn := fun E => zq_k 0 (xf_298_9 E) E
theorem xe_298_8 : xf_298_8 = zEx xb_298_8 := by
  unfold xf_298_8 xb_298_8
  rw [xe_298_9]
  rfl
theorem xc_298_8 : zCd 298 [0, 4, 18, 72, 77, 81, 82, 90, 100, 101, 109] 100 xb_298_8 := zc_iconst xj_298 101 0 0 rfl rfl rfl (xc_298_9)
noncomputable def xb_298_7 : List zF := [zq_ildg zG2, zq_ildg zG4, zq_if_eq 100, zq_k 1, zq_goto 101]
noncomputable def xf_298_7 : zE → zKn := fun E => zq_ildg zG2 (zq_ildg zG4 (zq_if_eq 100 (zq_k 1 (zq_goto 101 (zNil) E) E) E) E) E
theorem xe_298_7 : xf_298_7 = zEx xb_298_7 := by
  unfold xf_298_7 xb_298_7
  rfl
theorem xc_298_7 : zCd 298 [0, 4, 18, 72, 77, 81, 82, 90, 100, 101, 109] 90 xb_298_7 := zc_iload_n xj_298 91 2 rfl rfl zf_ild_2 (zc_iload xj_298 93 4 rfl rfl zf_ild_4 (zc_if_eq xj_298 96 7 100 rfl rfl rfl (zc_iconst xj_298 97 1 1 rfl rfl rfl (zc_goto xj_298 98 4 101 rfl rfl rfl (trivial)))))
noncomputable def xb_298_6 : List zF := [zq_istg zE4, zq_incg zG5 zE5 1, zq_goto 18]
noncomputable def xf_298_6 : zE → zKn := fun E => zq_istg zE4 (zq_incg zG5 zE5 1 (zq_goto 18 (zNil) E) E) E
theorem xe_298_6 : xf_298_6 = zEx xb_298_6 := by
  unfold xf_298_6 xb_298_6
  rfl
theorem xc_298_6 : zCd 298 [0, 4, 18, 72, 77, 81, 82, 90, 100, 101, 109] 82 xb_298_6 := zc_istore xj_298 84 4 rfl rfl zf_ist_4 (zc_iinc xj_298 87 5 1 1 rfl rfl rfl (zf_inc_5 _) (zc_goto xj_298 88 (-69) 18 rfl rfl rfl (trivial)))
noncomputable def xb_298_5 : List zF := zq_k 0 :: xb_298_6
noncomputable def xf_298_5 : zE → zKn := fun E => zq_k 0 (xf_298_6 E) E
theorem xe_298_5 : xf_298_5 = zEx xb_298_5 := by
  unfold xf_298_5 xb_298_5
  rw [xe_298_6]
  rfl
theorem xc_298_5 : zCd 298 [0, 4, 18, 72, 77, 81, 82, 90, 100, 101, 109] 81 xb_298_5 := zc_iconst xj_298 82 0 0 rfl rfl rfl (xc_298_6)
noncomputable def xb_298_4 : List zF := [zq_k 1, zq_goto 82]
noncomputable def xf_298_4 : zE → zKn := fun E => zq_k 1 (zq_goto 82 (zNil) E) E
theorem xe_298_4 : xf_298_4 = zEx xb_298_4 := by
  unfold xf_298_4 xb_298_4
  rfl
theorem xc_298_4 : zCd 298 [0, 4, 18, 72, 77, 81, 82, 90, 100, 101, 109] 77 xb_298_4 := zc_iconst xj_298 78 1 1 rfl rfl rfl (zc_goto xj_298 79 4 82 rfl rfl rfl (trivial))
noncomputable def xb_298_3 : List zF := zq_ildg zG6 :: zq_if_ne 81 :: xb_298_4
noncomputable def xf_298_3 : zE → zKn := fun E => zq_ildg zG6 (zq_if_ne 81 (xf_298_4 E) E) E
theorem xe_298_3 : xf_298_3 = zEx xb_298_3 := by
  unfold xf_298_3 xb_298_3
  rw [xe_298_4]
  rfl
theorem xc_298_3 : zCd 298 [0, 4, 18, 72, 77, 81, 82, 90, 100, 101, 109] 72 xb_298_3 := zc_iload xj_298 74 6 rfl rfl zf_ild_6 (zc_if_ne xj_298 77 7 81 rfl rfl rfl (xc_298_4))
noncomputable def xb_298_2 : List zF := [zq_ildg zG5, zq_k 3, zq_ic_ge 90, zq_aldg zG0, zq_aldg zG0, zq_ildg zG3, zq_ildg zG5, zq_calli 247 2 9 3, zq_aldg zG0, zq_ildg zG3, zq_ildg zG5, zq_k 1, zq_add, zq_calli 247 2 9 3, zq_aldg zG0, zq_ildg zG3, zq_ildg zG5, zq_k 2, zq_add, zq_calli 247 2 9 3, zq_calli 299 3 9 4, zq_istg zE6, zq_ildg zG4, zq_if_ne 77, zq_ildg zG1, zq_if_eq 72, zq_ildg zG6, zq_if_ge 81, zq_goto 77]
noncomputable def xf_298_2 : zE → zKn := fun E => zq_ildg zG5 (zq_k 3 (zq_ic_ge 90 (zq_aldg zG0 (zq_aldg zG0 (zq_ildg zG3 (zq_ildg zG5 (zq_calli 247 2 9 3 (zq_aldg zG0 (zq_ildg zG3 (zq_ildg zG5 (zq_k 1 (zq_add (zq_calli 247 2 9 3 (zq_aldg zG0 (zq_ildg zG3 (zq_ildg zG5 (zq_k 2 (zq_add (zq_calli 247 2 9 3 (zq_calli 299 3 9 4 (zq_istg zE6 (zq_ildg zG4 (zq_if_ne 77 (zq_ildg zG1 (zq_if_eq 72 (zq_ildg zG6 (zq_if_ge 81 (zq_goto 77 (zNil) E) E) E) E) E) E) E) E) E) E) E) E) E) E) E) E) E) E) E) E) E) E) E) E) E) E) E) E) E
theorem xe_298_2 : xf_298_2 = zEx xb_298_2 := by
  unfold xf_298_2 xb_298_2
  rfl
theorem xc_298_2 : zCd 298 [0, 4, 18, 72, 77, 81, 82, 90, 100, 101, 109] 18 xb_298_2 := zc_iload xj_298 20 5 rfl rfl zf_ild_5 (zc_iconst xj_298 21 3 3 rfl rfl rfl (zc_ic_ge xj_298 24 69 90 rfl rfl rfl (zc_aload_n xj_298 25 0 rfl rfl zf_ald_0 (zc_aload_n xj_298 26 0 rfl rfl zf_ald_0 (zc_iload_n xj_298 27 3 rfl rfl zf_ild_3 (zc_iload xj_298 29 5 rfl rfl zf_ild_5 (zc_invokevirtual1 xj_298 32 206 247 2 313 9 3 rfl rfl rfl rfl (zc_aload_n xj_298 33 0 rfl rfl zf_ald_0 (zc_iload_n xj_298 34 3 rfl rfl zf_ild_3 (zc_iload xj_298 36 5 rfl rfl zf_ild_5 (zc_iconst xj_298 37 1 1 rfl rfl rfl (zc_iadd xj_298 38 rfl rfl (zc_invokevirtual1 xj_298 41 206 247 2 313 9 3 rfl rfl rfl rfl (zc_aload_n xj_298 42 0 rfl rfl zf_ald_0 (zc_iload_n xj_298 43 3 rfl rfl zf_ild_3 (zc_iload xj_298 45 5 rfl rfl zf_ild_5 (zc_iconst xj_298 46 2 2 rfl rfl rfl (zc_iadd xj_298 47 rfl rfl (zc_invokevirtual1 xj_298 50 206 247 2 313 9 3 rfl rfl rfl rfl (zc_invokevirtual1 xj_298 53 314 299 3 339 9 4 rfl rfl rfl rfl (zc_istore xj_298 55 6 rfl rfl zf_ist_6 (zc_iload xj_298 57 4 rfl rfl zf_ild_4 (zc_if_ne xj_298 60 20 77 rfl rfl rfl (zc_iload_n xj_298 61 1 rfl rfl zf_ild_1 (zc_if_eq xj_298 64 11 72 rfl rfl rfl (zc_iload xj_298 66 6 rfl rfl zf_ild_6 (zc_if_ge xj_298 69 15 81 rfl rfl rfl (zc_goto xj_298 70 8 77 rfl rfl rfl (trivial)))))))))))))))))))))))))))))
noncomputable def xb_298_1 : List zF := zq_ildg zG3 :: zq_aldg zG0 :: zq_getfg 9 zG4 :: zq_ic_ge 109 :: zq_k 0 :: zq_istg zE4 :: zq_k 0 :: zq_istg zE5 :: xb_298_2
noncomputable def xf_298_1 : zE → zKn := fun E => zq_ildg zG3 (zq_aldg zG0 (zq_getfg 9 zG4 (zq_ic_ge 109 (zq_k 0 (zq_istg zE4 (zq_k 0 (zq_istg zE5 (xf_298_2 E) E) E) E) E) E) E) E) E
theorem xe_298_1 : xf_298_1 = zEx xb_298_1 := by
  unfold xf_298_1 xb_298_1
  rw [xe_298_2]
  rfl
theorem xc_298_1 : zCd 298 [0, 4, 18, 72, 77, 81, 82, 90, 100, 101, 109] 4 xb_298_1 := zc_iload_n xj_298 5 3 rfl rfl zf_ild_3 (zc_aload_n xj_298 6 0 rfl rfl zf_ald_0 (zc_getf xj_298 9 134 9 4 98 rfl rfl (zf_getf_4 _) (zc_ic_ge xj_298 12 100 109 rfl rfl rfl (zc_iconst xj_298 13 0 0 rfl rfl rfl (zc_istore xj_298 15 4 rfl rfl zf_ist_4 (zc_iconst xj_298 16 0 0 rfl rfl rfl (zc_istore xj_298 18 5 rfl rfl zf_ist_5 (xc_298_2))))))))
noncomputable def xb_298_0 : List zF := zq_k 0 :: zq_istg zE2 :: zq_k 0 :: zq_istg zE3 :: xb_298_1
noncomputable def xf_298_0 : zE → zKn := fun E => zq_k 0 (zq_istg zE2 (zq_k 0 (zq_istg zE3 (xf_298_1 E) E) E) E) E
theorem xe_298_0 : xf_298_0 = zEx xb_298_0 := by
  unfold xf_298_0 xb_298_0
  rw [xe_298_1]
  rfl
theorem xc_298_0 : zCd 298 [0, 4, 18, 72, 77, 81, 82, 90, 100, 101, 109] 0 xb_298_0 := zc_iconst xj_298 1 0 0 rfl rfl rfl (zc_istore_n xj_298 2 2 rfl rfl zf_ist_2 (zc_iconst xj_298 3 0 0 rfl rfl rfl (zc_istore_n xj_298 4 3 rfl rfl zf_ist_3 (xc_298_1))))
noncomputable def xm_298 : Lean.RArray (zE → zKn) := .branch 81 (.branch 18 (.branch 4 (.leaf xf_298_0) (.leaf xf_298_1)) (.branch 72 (.leaf xf_298_2) (.branch 77 (.leaf xf_298_3) (.leaf xf_298_4)))) (.branch 100 (.branch 82 (.leaf xf_298_5) (.branch 90 (.leaf xf_298_6) (.leaf xf_298_7))) (.branch 101 (.leaf xf_298_8) (.branch 109 (.leaf xf_298_9) (.leaf xf_298_10))))
theorem xa_298 : zCdAll 298 [0, 4, 18, 72, 77, 81, 82, 90, 100, 101, 109] xm_298 := zAll2_ok (P := fun t => ∃ c, zCd 298 [0, 4, 18, 72, 77, 81, 82, 90, 100, 101, 109] t c ∧ xm_298.get t = zEx c) ⟨⟨_, xc_298_0, xe_298_0⟩, ⟨_, xc_298_1, xe_298_1⟩, ⟨_, xc_298_2, xe_298_2⟩, ⟨_, xc_298_3, xe_298_3⟩, ⟨_, xc_298_4, xe_298_4⟩, ⟨_, xc_298_5, xe_298_5⟩, ⟨_, xc_298_6, xe_298_6⟩, ⟨_, xc_298_7, xe_298_7⟩, ⟨_, xc_298_8, xe_298_8⟩, ⟨_, xc_298_9, xe_298_9⟩, ⟨_, xc_298_10, xe_298_10⟩, trivial⟩
/-- SquareMeshModel.dotAt -/
theorem xj_299 : ∀ pc, pI 299 pc = pJ_299 pc := fun _ => rfl
noncomputable def xb_299_0 : List zF := [zq_aldg zG0, zq_ildg zG2, zN1 192 2 zg_192, zq_aldg zG0, zq_ildg zG1, zN1 192 2 zg_192, zq_sub, zq_aldg zG0, zq_ildg zG3, zN1 192 2 zg_192, zq_aldg zG0, zq_ildg zG1, zN1 192 2 zg_192, zq_sub, zq_mul, zq_aldg zG0, zq_ildg zG2, zN1 193 2 zg_193, zq_aldg zG0, zq_ildg zG1, zN1 193 2 zg_193, zq_sub, zq_aldg zG0, zq_ildg zG3, zN1 193 2 zg_193, zq_aldg zG0, zq_ildg zG1, zN1 193 2 zg_193, zq_sub, zq_mul, zq_add, zq_iret 0]
noncomputable def xf_299_0 : zE → zKn := fun E => zq_aldg zG0 (zq_ildg zG2 (zN1 192 2 zg_192 (zq_aldg zG0 (zq_ildg zG1 (zN1 192 2 zg_192 (zq_sub (zq_aldg zG0 (zq_ildg zG3 (zN1 192 2 zg_192 (zq_aldg zG0 (zq_ildg zG1 (zN1 192 2 zg_192 (zq_sub (zq_mul (zq_aldg zG0 (zq_ildg zG2 (zN1 193 2 zg_193 (zq_aldg zG0 (zq_ildg zG1 (zN1 193 2 zg_193 (zq_sub (zq_aldg zG0 (zq_ildg zG3 (zN1 193 2 zg_193 (zq_aldg zG0 (zq_ildg zG1 (zN1 193 2 zg_193 (zq_sub (zq_mul (zq_add (zq_iret 0 (zNil) E) E) E) E) E) E) E) E) E) E) E) E) E) E) E) E) E) E) E) E) E) E) E) E) E) E) E) E) E) E) E) E
set_option maxRecDepth 100000 in
theorem xe_299_0 : xf_299_0 = zEx xb_299_0 := by
  unfold xf_299_0 xb_299_0
  rfl
theorem xc_299_0 : zCd 299 [0] 0 xb_299_0 := zc_aload_n xj_299 1 0 rfl rfl zf_ald_0 (zc_iload_n xj_299 2 2 rfl rfl zf_ild_2 (zc_any xj_299 5 (.invokevirtual 75) [1, 192, 1, 260, 9, 2] rfl rfl (zN1 192 2 zg_192) rfl rfl (zc_aload_n xj_299 6 0 rfl rfl zf_ald_0 (zc_iload_n xj_299 7 1 rfl rfl zf_ild_1 (zc_any xj_299 10 (.invokevirtual 75) [1, 192, 1, 260, 9, 2] rfl rfl (zN1 192 2 zg_192) rfl rfl (zc_isub xj_299 11 rfl rfl (zc_aload_n xj_299 12 0 rfl rfl zf_ald_0 (zc_iload_n xj_299 13 3 rfl rfl zf_ild_3 (zc_any xj_299 16 (.invokevirtual 75) [1, 192, 1, 260, 9, 2] rfl rfl (zN1 192 2 zg_192) rfl rfl (zc_aload_n xj_299 17 0 rfl rfl zf_ald_0 (zc_iload_n xj_299 18 1 rfl rfl zf_ild_1 (zc_any xj_299 21 (.invokevirtual 75) [1, 192, 1, 260, 9, 2] rfl rfl (zN1 192 2 zg_192) rfl rfl (zc_isub xj_299 22 rfl rfl (zc_imul xj_299 23 rfl rfl (zc_aload_n xj_299 24 0 rfl rfl zf_ald_0 (zc_iload_n xj_299 25 2 rfl rfl zf_ild_2 (zc_any xj_299 28 (.invokevirtual 79) [1, 193, 1, 261, 9, 2] rfl rfl (zN1 193 2 zg_193) rfl rfl (zc_aload_n xj_299 29 0 rfl rfl zf_ald_0 (zc_iload_n xj_299 30 1 rfl rfl zf_ild_1 (zc_any xj_299 33 (.invokevirtual 79) [1, 193, 1, 261, 9, 2] rfl rfl (zN1 193 2 zg_193) rfl rfl (zc_isub xj_299 34 rfl rfl (zc_aload_n xj_299 35 0 rfl rfl zf_ald_0 (zc_iload_n xj_299 36 3 rfl rfl zf_ild_3 (zc_any xj_299 39 (.invokevirtual 79) [1, 193, 1, 261, 9, 2] rfl rfl (zN1 193 2 zg_193) rfl rfl (zc_aload_n xj_299 40 0 rfl rfl zf_ald_0 (zc_iload_n xj_299 41 1 rfl rfl zf_ild_1 (zc_any xj_299 44 (.invokevirtual 79) [1, 193, 1, 261, 9, 2] rfl rfl (zN1 193 2 zg_193) rfl rfl (zc_isub xj_299 45 rfl rfl (zc_imul xj_299 46 rfl rfl (zc_iadd xj_299 47 rfl rfl (zc_ireturn0 xj_299 48 rfl rfl (trivial))))))))))))))))))))))))))))))))
noncomputable def xm_299 : Lean.RArray (zE → zKn) := .leaf xf_299_0
theorem xa_299 : zCdAll 299 [0] xm_299 := zAll2_ok (P := fun t => ∃ c, zCd 299 [0] t c ∧ xm_299.get t = zEx c) ⟨⟨_, xc_299_0, xe_299_0⟩, trivial⟩
/-- SquareMeshModel.layColours -/
theorem xj_300 : ∀ pc, pI 300 pc = pJ_300 pc := fun _ => rfl
noncomputable def xb_300_8 : List zF := [zq_ildg zG1, zq_k 1, zq_add, zq_iret 0]
noncomputable def xf_300_8 : zE → zKn := fun E => zq_ildg zG1 (zq_k 1 (zq_add (zq_iret 0 (zNil) E) E) E) E
theorem xe_300_8 : xf_300_8 = zEx xb_300_8 := by
  unfold xf_300_8 xb_300_8
  rfl
theorem xc_300_8 : zCd 300 [0, 4, 21, 28, 55, 74, 75, 76, 82] 82 xb_300_8 := zc_iload_n xj_300 83 1 rfl rfl zf_ild_1 (zc_iconst xj_300 84 1 1 rfl rfl rfl (zc_iadd xj_300 85 rfl rfl (zc_ireturn0 xj_300 86 rfl rfl (trivial))))
noncomputable def xb_300_7 : List zF := [zq_incg zG2 zE2 1, zq_goto 4]
noncomputable def xf_300_7 : zE → zKn := fun E => zq_incg zG2 zE2 1 (zq_goto 4 (zNil) E) E
theorem xe_300_7 : xf_300_7 = zEx xb_300_7 := by
  unfold xf_300_7 xb_300_7
  rfl
theorem xc_300_7 : zCd 300 [0, 4, 21, 28, 55, 74, 75, 76, 82] 76 xb_300_7 := zc_iinc xj_300 79 2 1 1 rfl rfl rfl (zf_inc_2 _) (zc_goto xj_300 80 (-75) 4 rfl rfl rfl (trivial))
noncomputable def xb_300_6 : List zF := zq_istg zE1 :: xb_300_7
noncomputable def xf_300_6 : zE → zKn := fun E => zq_istg zE1 (xf_300_7 E) E
theorem xe_300_6 : xf_300_6 = zEx xb_300_6 := by
  unfold xf_300_6 xb_300_6
  rw [xe_300_7]
  rfl
theorem xc_300_6 : zCd 300 [0, 4, 21, 28, 55, 74, 75, 76, 82] 75 xb_300_6 := zc_istore_n xj_300 76 1 rfl rfl zf_ist_1 (xc_300_7)
noncomputable def xb_300_5 : List zF := zq_ildg zG1 :: xb_300_6
noncomputable def xf_300_5 : zE → zKn := fun E => zq_ildg zG1 (xf_300_6 E) E
theorem xe_300_5 : xf_300_5 = zEx xb_300_5 := by
  unfold xf_300_5 xb_300_5
  rw [xe_300_6]
  rfl
theorem xc_300_5 : zCd 300 [0, 4, 21, 28, 55, 74, 75, 76, 82] 74 xb_300_5 := zc_iload_n xj_300 75 1 rfl rfl zf_ild_1 (xc_300_6)
noncomputable def xb_300_4 : List zF := [zq_aldg zG0, zq_getfg 9 zG10, zq_ildg zG2, zq_ild_ 0, zq_ildg zG1, zq_ic_le 74, zq_aldg zG0, zq_getfg 9 zG10, zq_ildg zG2, zq_ild_ 0, zq_goto 75]
noncomputable def xf_300_4 : zE → zKn := fun E => zq_aldg zG0 (zq_getfg 9 zG10 (zq_ildg zG2 (zq_ild_ 0 (zq_ildg zG1 (zq_ic_le 74 (zq_aldg zG0 (zq_getfg 9 zG10 (zq_ildg zG2 (zq_ild_ 0 (zq_goto 75 (zNil) E) E) E) E) E) E) E) E) E) E) E
theorem xe_300_4 : xf_300_4 = zEx xb_300_4 := by
  unfold xf_300_4 xb_300_4
  rfl
theorem xc_300_4 : zCd 300 [0, 4, 21, 28, 55, 74, 75, 76, 82] 55 xb_300_4 := zc_aload_n xj_300 56 0 rfl rfl zf_ald_0 (zc_getf xj_300 59 39 9 10 104 rfl rfl (zf_getf_10 _) (zc_iload_n xj_300 60 2 rfl rfl zf_ild_2 (zc_iaload xj_300 61 rfl rfl (zc_iload_n xj_300 62 1 rfl rfl zf_ild_1 (zc_ic_le xj_300 65 12 74 rfl rfl rfl (zc_aload_n xj_300 66 0 rfl rfl zf_ald_0 (zc_getf xj_300 69 39 9 10 104 rfl rfl (zf_getf_10 _) (zc_iload_n xj_300 70 2 rfl rfl zf_ild_2 (zc_iaload xj_300 71 rfl rfl (zc_goto xj_300 72 4 75 rfl rfl rfl (trivial)))))))))))
noncomputable def xb_300_3 : List zF := [zq_aldg zG0, zq_ildg zG2, zq_aldg zG0, zq_getfg 9 zG10, zq_ildg zG2, zq_ild_ 0, zq_calli 301 2 9 4, zq_if_eq 55, zq_aldg zG0, zq_getfg 9 zG10, zq_ildg zG2, zq_dup2, zq_ild_ 0, zq_k 1, zq_add, zq_iast, zq_goto 28]
noncomputable def xf_300_3 : zE → zKn := fun E => zq_aldg zG0 (zq_ildg zG2 (zq_aldg zG0 (zq_getfg 9 zG10 (zq_ildg zG2 (zq_ild_ 0 (zq_calli 301 2 9 4 (zq_if_eq 55 (zq_aldg zG0 (zq_getfg 9 zG10 (zq_ildg zG2 (zq_dup2 (zq_ild_ 0 (zq_k 1 (zq_add (zq_iast (zq_goto 28 (zNil) E) E) E) E) E) E) E) E) E) E) E) E) E) E) E) E) E
theorem xe_300_3 : xf_300_3 = zEx xb_300_3 := by
  unfold xf_300_3 xb_300_3
  rfl
theorem xc_300_3 : zCd 300 [0, 4, 21, 28, 55, 74, 75, 76, 82] 28 xb_300_3 := zc_aload_n xj_300 29 0 rfl rfl zf_ald_0 (zc_iload_n xj_300 30 2 rfl rfl zf_ild_2 (zc_aload_n xj_300 31 0 rfl rfl zf_ald_0 (zc_getf xj_300 34 39 9 10 104 rfl rfl (zf_getf_10 _) (zc_iload_n xj_300 35 2 rfl rfl zf_ild_2 (zc_iaload xj_300 36 rfl rfl (zc_invokevirtual1 xj_300 39 317 301 2 341 9 4 rfl rfl rfl rfl (zc_if_eq xj_300 42 16 55 rfl rfl rfl (zc_aload_n xj_300 43 0 rfl rfl zf_ald_0 (zc_getf xj_300 46 39 9 10 104 rfl rfl (zf_getf_10 _) (zc_iload_n xj_300 47 2 rfl rfl zf_ild_2 (zc_dup2 xj_300 48 rfl rfl (zc_iaload xj_300 49 rfl rfl (zc_iconst xj_300 50 1 1 rfl rfl rfl (zc_iadd xj_300 51 rfl rfl (zc_iastore xj_300 52 rfl rfl (zc_goto xj_300 53 (-24) 28 rfl rfl rfl (trivial)))))))))))))))))
noncomputable def xb_300_2 : List zF := zq_aldg zG0 :: zq_getfg 9 zG10 :: zq_ildg zG2 :: zq_k 0 :: zq_iast :: xb_300_3
noncomputable def xf_300_2 : zE → zKn := fun E => zq_aldg zG0 (zq_getfg 9 zG10 (zq_ildg zG2 (zq_k 0 (zq_iast (xf_300_3 E) E) E) E) E) E
theorem xe_300_2 : xf_300_2 = zEx xb_300_2 := by
  unfold xf_300_2 xb_300_2
  rw [xe_300_3]
  rfl
theorem xc_300_2 : zCd 300 [0, 4, 21, 28, 55, 74, 75, 76, 82] 21 xb_300_2 := zc_aload_n xj_300 22 0 rfl rfl zf_ald_0 (zc_getf xj_300 25 39 9 10 104 rfl rfl (zf_getf_10 _) (zc_iload_n xj_300 26 2 rfl rfl zf_ild_2 (zc_iconst xj_300 27 0 0 rfl rfl rfl (zc_iastore xj_300 28 rfl rfl (xc_300_3)))))
noncomputable def xb_300_1 : List zF := [zq_ildg zG2, zq_k 40, zq_ic_ge 82, zq_aldg zG0, zq_ildg zG2, zN1 191 2 zg_191, zq_if_ne 21, zq_goto 76]
noncomputable def xf_300_1 : zE → zKn := fun E => zq_ildg zG2 (zq_k 40 (zq_ic_ge 82 (zq_aldg zG0 (zq_ildg zG2 (zN1 191 2 zg_191 (zq_if_ne 21 (zq_goto 76 (zNil) E) E) E) E) E) E) E) E
theorem xe_300_1 : xf_300_1 = zEx xb_300_1 := by
  unfold xf_300_1 xb_300_1
  rfl
theorem xc_300_1 : zCd 300 [0, 4, 21, 28, 55, 74, 75, 76, 82] 4 xb_300_1 := zc_iload_n xj_300 5 2 rfl rfl zf_ild_2 (zc_bipush xj_300 7 40 40 rfl rfl rfl (zc_ic_ge xj_300 10 75 82 rfl rfl rfl (zc_aload_n xj_300 11 0 rfl rfl zf_ald_0 (zc_iload_n xj_300 12 2 rfl rfl zf_ild_2 (zc_any xj_300 15 (.invokevirtual 71) [1, 191, 1, 264, 9, 2] rfl rfl (zN1 191 2 zg_191) rfl rfl (zc_if_ne xj_300 18 6 21 rfl rfl rfl (zc_goto xj_300 19 58 76 rfl rfl rfl (trivial))))))))
noncomputable def xb_300_0 : List zF := zq_k 0 :: zq_istg zE1 :: zq_k 0 :: zq_istg zE2 :: xb_300_1
noncomputable def xf_300_0 : zE → zKn := fun E => zq_k 0 (zq_istg zE1 (zq_k 0 (zq_istg zE2 (xf_300_1 E) E) E) E) E
theorem xe_300_0 : xf_300_0 = zEx xb_300_0 := by
  unfold xf_300_0 xb_300_0
  rw [xe_300_1]
  rfl
theorem xc_300_0 : zCd 300 [0, 4, 21, 28, 55, 74, 75, 76, 82] 0 xb_300_0 := zc_iconst xj_300 1 0 0 rfl rfl rfl (zc_istore_n xj_300 2 1 rfl rfl zf_ist_1 (zc_iconst xj_300 3 0 0 rfl rfl rfl (zc_istore_n xj_300 4 2 rfl rfl zf_ist_2 (xc_300_1))))
noncomputable def xm_300 : Lean.RArray (zE → zKn) := .branch 55 (.branch 21 (.branch 4 (.leaf xf_300_0) (.leaf xf_300_1)) (.branch 28 (.leaf xf_300_2) (.leaf xf_300_3))) (.branch 75 (.branch 74 (.leaf xf_300_4) (.leaf xf_300_5)) (.branch 76 (.leaf xf_300_6) (.branch 82 (.leaf xf_300_7) (.leaf xf_300_8))))
theorem xa_300 : zCdAll 300 [0, 4, 21, 28, 55, 74, 75, 76, 82] xm_300 := zAll2_ok (P := fun t => ∃ c, zCd 300 [0, 4, 21, 28, 55, 74, 75, 76, 82] t c ∧ xm_300.get t = zEx c) ⟨⟨_, xc_300_0, xe_300_0⟩, ⟨_, xc_300_1, xe_300_1⟩, ⟨_, xc_300_2, xe_300_2⟩, ⟨_, xc_300_3, xe_300_3⟩, ⟨_, xc_300_4, xe_300_4⟩, ⟨_, xc_300_5, xe_300_5⟩, ⟨_, xc_300_6, xe_300_6⟩, ⟨_, xc_300_7, xe_300_7⟩, ⟨_, xc_300_8, xe_300_8⟩, trivial⟩
/-- SquareMeshModel.isTaken -/
theorem xj_301 : ∀ pc, pI 301 pc = pJ_301 pc := fun _ => rfl
noncomputable def xb_301_3 : List zF := [zq_k 0, zq_iret 1]
noncomputable def xf_301_3 : zE → zKn := fun E => zq_k 0 (zq_iret 1 (zNil) E) E
theorem xe_301_3 : xf_301_3 = zEx xb_301_3 := by
  unfold xf_301_3 xb_301_3
  rfl
theorem xc_301_3 : zCd 301 [0, 2, 36, 42] 42 xb_301_3 := zc_iconst xj_301 43 0 0 rfl rfl rfl (zc_ireturn1 xj_301 44 rfl rfl (trivial))
noncomputable def xb_301_2 : List zF := [zq_incg zG3 zE3 1, zq_goto 2]
noncomputable def xf_301_2 : zE → zKn := fun E => zq_incg zG3 zE3 1 (zq_goto 2 (zNil) E) E
theorem xe_301_2 : xf_301_2 = zEx xb_301_2 := by
  unfold xf_301_2 xb_301_2
  rfl
theorem xc_301_2 : zCd 301 [0, 2, 36, 42] 36 xb_301_2 := zc_iinc xj_301 39 3 1 1 rfl rfl rfl (zf_inc_3 _) (zc_goto xj_301 40 (-37) 2 rfl rfl rfl (trivial))
noncomputable def xb_301_1 : List zF := [zq_ildg zG3, zq_ildg zG1, zq_ic_ge 42, zq_aldg zG0, zq_ildg zG3, zN1 191 2 zg_191, zq_if_eq 36, zq_aldg zG0, zq_ildg zG1, zq_ildg zG3, zN2 213 3 zg_213, zq_if_eq 36, zq_aldg zG0, zq_getfg 9 zG10, zq_ildg zG3, zq_ild_ 0, zq_ildg zG2, zq_ic_ne 36, zq_k 1, zq_iret 1]
noncomputable def xf_301_1 : zE → zKn := fun E => zq_ildg zG3 (zq_ildg zG1 (zq_ic_ge 42 (zq_aldg zG0 (zq_ildg zG3 (zN1 191 2 zg_191 (zq_if_eq 36 (zq_aldg zG0 (zq_ildg zG1 (zq_ildg zG3 (zN2 213 3 zg_213 (zq_if_eq 36 (zq_aldg zG0 (zq_getfg 9 zG10 (zq_ildg zG3 (zq_ild_ 0 (zq_ildg zG2 (zq_ic_ne 36 (zq_k 1 (zq_iret 1 (zNil) E) E) E) E) E) E) E) E) E) E) E) E) E) E) E) E) E) E) E) E
theorem xe_301_1 : xf_301_1 = zEx xb_301_1 := by
  unfold xf_301_1 xb_301_1
  rfl
theorem xc_301_1 : zCd 301 [0, 2, 36, 42] 2 xb_301_1 := zc_iload_n xj_301 3 3 rfl rfl zf_ild_3 (zc_iload_n xj_301 4 1 rfl rfl zf_ild_1 (zc_ic_ge xj_301 7 38 42 rfl rfl rfl (zc_aload_n xj_301 8 0 rfl rfl zf_ald_0 (zc_iload_n xj_301 9 3 rfl rfl zf_ild_3 (zc_any xj_301 12 (.invokevirtual 71) [1, 191, 1, 264, 9, 2] rfl rfl (zN1 191 2 zg_191) rfl rfl (zc_if_eq xj_301 15 24 36 rfl rfl rfl (zc_aload_n xj_301 16 0 rfl rfl zf_ald_0 (zc_iload_n xj_301 17 1 rfl rfl zf_ild_1 (zc_iload_n xj_301 18 3 rfl rfl zf_ild_3 (zc_any xj_301 21 (.invokevirtual 234) [1, 213, 2, 321, 9, 3] rfl rfl (zN2 213 3 zg_213) rfl rfl (zc_if_eq xj_301 24 15 36 rfl rfl rfl (zc_aload_n xj_301 25 0 rfl rfl zf_ald_0 (zc_getf xj_301 28 39 9 10 104 rfl rfl (zf_getf_10 _) (zc_iload_n xj_301 29 3 rfl rfl zf_ild_3 (zc_iaload xj_301 30 rfl rfl (zc_iload_n xj_301 31 2 rfl rfl zf_ild_2 (zc_ic_ne xj_301 34 5 36 rfl rfl rfl (zc_iconst xj_301 35 1 1 rfl rfl rfl (zc_ireturn1 xj_301 36 rfl rfl (trivial))))))))))))))))))))
noncomputable def xb_301_0 : List zF := zq_k 0 :: zq_istg zE3 :: xb_301_1
noncomputable def xf_301_0 : zE → zKn := fun E => zq_k 0 (zq_istg zE3 (xf_301_1 E) E) E
theorem xe_301_0 : xf_301_0 = zEx xb_301_0 := by
  unfold xf_301_0 xb_301_0
  rw [xe_301_1]
  rfl
theorem xc_301_0 : zCd 301 [0, 2, 36, 42] 0 xb_301_0 := zc_iconst xj_301 1 0 0 rfl rfl rfl (zc_istore_n xj_301 2 3 rfl rfl zf_ist_3 (xc_301_1))
noncomputable def xm_301 : Lean.RArray (zE → zKn) := .branch 36 (.branch 2 (.leaf xf_301_0) (.leaf xf_301_1)) (.branch 42 (.leaf xf_301_2) (.leaf xf_301_3))
theorem xa_301 : zCdAll 301 [0, 2, 36, 42] xm_301 := zAll2_ok (P := fun t => ∃ c, zCd 301 [0, 2, 36, 42] t c ∧ xm_301.get t = zEx c) ⟨⟨_, xc_301_0, xe_301_0⟩, ⟨_, xc_301_1, xe_301_1⟩, ⟨_, xc_301_2, xe_301_2⟩, ⟨_, xc_301_3, xe_301_3⟩, trivial⟩
/-- SquareMeshModel.colour -/
theorem xj_302 : ∀ pc, pI 302 pc = pJ_302 pc := fun _ => rfl
noncomputable def xb_302_1 : List zF := [zq_aldg zG0, zq_calli 300 0 9 3, zq_istg zE2, zq_aldg zG0, zq_getfg 9 zG10, zq_ildg zG1, zq_ild_ 0, zq_iret 0]
noncomputable def xf_302_1 : zE → zKn := fun E => zq_aldg zG0 (zq_calli 300 0 9 3 (zq_istg zE2 (zq_aldg zG0 (zq_getfg 9 zG10 (zq_ildg zG1 (zq_ild_ 0 (zq_iret 0 (zNil) E) E) E) E) E) E) E) E
theorem xe_302_1 : xf_302_1 = zEx xb_302_1 := by
  unfold xf_302_1 xb_302_1
  rfl
theorem xc_302_1 : zCd 302 [0, 10] 10 xb_302_1 := zc_aload_n xj_302 11 0 rfl rfl zf_ald_0 (zc_invokevirtual1 xj_302 14 259 300 0 340 9 3 rfl rfl rfl rfl (zc_istore_n xj_302 15 2 rfl rfl zf_ist_2 (zc_aload_n xj_302 16 0 rfl rfl zf_ald_0 (zc_getf xj_302 19 39 9 10 104 rfl rfl (zf_getf_10 _) (zc_iload_n xj_302 20 1 rfl rfl zf_ild_1 (zc_iaload xj_302 21 rfl rfl (zc_ireturn0 xj_302 22 rfl rfl (trivial))))))))
noncomputable def xb_302_0 : List zF := [zq_aldg zG0, zq_ildg zG1, zN1 191 2 zg_191, zq_if_ne 10, zq_k 4294967295, zq_iret 0]
noncomputable def xf_302_0 : zE → zKn := fun E => zq_aldg zG0 (zq_ildg zG1 (zN1 191 2 zg_191 (zq_if_ne 10 (zq_k 4294967295 (zq_iret 0 (zNil) E) E) E) E) E) E
theorem xe_302_0 : xf_302_0 = zEx xb_302_0 := by
  unfold xf_302_0 xb_302_0
  rfl
theorem xc_302_0 : zCd 302 [0, 10] 0 xb_302_0 := zc_aload_n xj_302 1 0 rfl rfl zf_ald_0 (zc_iload_n xj_302 2 1 rfl rfl zf_ild_1 (zc_any xj_302 5 (.invokevirtual 71) [1, 191, 1, 264, 9, 2] rfl rfl (zN1 191 2 zg_191) rfl rfl (zc_if_ne xj_302 8 5 10 rfl rfl rfl (zc_iconst xj_302 9 (-1) 4294967295 rfl rfl rfl (zc_ireturn0 xj_302 10 rfl rfl (trivial))))))
noncomputable def xm_302 : Lean.RArray (zE → zKn) := .branch 10 (.leaf xf_302_0) (.leaf xf_302_1)
theorem xa_302 : zCdAll 302 [0, 10] xm_302 := zAll2_ok (P := fun t => ∃ c, zCd 302 [0, 10] t c ∧ xm_302.get t = zEx c) ⟨⟨_, xc_302_0, xe_302_0⟩, ⟨_, xc_302_1, xe_302_1⟩, trivial⟩
/-- SquareMeshModel.widthOf -/
theorem xj_303 : ∀ pc, pI 303 pc = pJ_303 pc := fun _ => rfl
noncomputable def xb_303_4 : List zF := [zq_ildg zG2, zq_iret 0]
noncomputable def xf_303_4 : zE → zKn := fun E => zq_ildg zG2 (zq_iret 0 (zNil) E) E
theorem xe_303_4 : xf_303_4 = zEx xb_303_4 := by
  unfold xf_303_4 xb_303_4
  rfl
theorem xc_303_4 : zCd 303 [0, 9, 34, 35, 42] 42 xb_303_4 := zc_iload_n xj_303 43 2 rfl rfl zf_ild_2 (zc_ireturn0 xj_303 44 rfl rfl (trivial))
noncomputable def xb_303_3 : List zF := [zq_istg zE2, zq_incg zG3 zE3 1, zq_goto 9]
noncomputable def xf_303_3 : zE → zKn := fun E => zq_istg zE2 (zq_incg zG3 zE3 1 (zq_goto 9 (zNil) E) E) E
theorem xe_303_3 : xf_303_3 = zEx xb_303_3 := by
  unfold xf_303_3 xb_303_3
  rfl
theorem xc_303_3 : zCd 303 [0, 9, 34, 35, 42] 35 xb_303_3 := zc_istore_n xj_303 36 2 rfl rfl zf_ist_2 (zc_iinc xj_303 39 3 1 1 rfl rfl rfl (zf_inc_3 _) (zc_goto xj_303 40 (-30) 9 rfl rfl rfl (trivial)))
noncomputable def xb_303_2 : List zF := zq_ildg zG2 :: xb_303_3
noncomputable def xf_303_2 : zE → zKn := fun E => zq_ildg zG2 (xf_303_3 E) E
theorem xe_303_2 : xf_303_2 = zEx xb_303_2 := by
  unfold xf_303_2 xb_303_2
  rw [xe_303_3]
  rfl
theorem xc_303_2 : zCd 303 [0, 9, 34, 35, 42] 34 xb_303_2 := zc_iload_n xj_303 35 2 rfl rfl zf_ild_2 (xc_303_3)
noncomputable def xb_303_1 : List zF := [zq_ildg zG3, zq_k 40, zq_ic_ge 42, zq_aldg zG0, zq_getfg 9 zG8, zq_ildg zG3, zq_ild_ 0, zq_ildg zG2, zq_ic_le 34, zq_aldg zG0, zq_getfg 9 zG8, zq_ildg zG3, zq_ild_ 0, zq_goto 35]
noncomputable def xf_303_1 : zE → zKn := fun E => zq_ildg zG3 (zq_k 40 (zq_ic_ge 42 (zq_aldg zG0 (zq_getfg 9 zG8 (zq_ildg zG3 (zq_ild_ 0 (zq_ildg zG2 (zq_ic_le 34 (zq_aldg zG0 (zq_getfg 9 zG8 (zq_ildg zG3 (zq_ild_ 0 (zq_goto 35 (zNil) E) E) E) E) E) E) E) E) E) E) E) E) E) E
theorem xe_303_1 : xf_303_1 = zEx xb_303_1 := by
  unfold xf_303_1 xb_303_1
  rfl
theorem xc_303_1 : zCd 303 [0, 9, 34, 35, 42] 9 xb_303_1 := zc_iload_n xj_303 10 3 rfl rfl zf_ild_3 (zc_bipush xj_303 12 40 40 rfl rfl rfl (zc_ic_ge xj_303 15 30 42 rfl rfl rfl (zc_aload_n xj_303 16 0 rfl rfl zf_ald_0 (zc_getf xj_303 19 33 9 8 102 rfl rfl (zf_getf_8 _) (zc_iload_n xj_303 20 3 rfl rfl zf_ild_3 (zc_iaload xj_303 21 rfl rfl (zc_iload_n xj_303 22 2 rfl rfl zf_ild_2 (zc_ic_le xj_303 25 12 34 rfl rfl rfl (zc_aload_n xj_303 26 0 rfl rfl zf_ald_0 (zc_getf xj_303 29 33 9 8 102 rfl rfl (zf_getf_8 _) (zc_iload_n xj_303 30 3 rfl rfl zf_ild_3 (zc_iaload xj_303 31 rfl rfl (zc_goto xj_303 32 4 35 rfl rfl rfl (trivial))))))))))))))
noncomputable def xb_303_0 : List zF := zq_aldg zG0 :: zq_ildg zG1 :: zq_calli 283 1 9 6 :: zq_k 0 :: zq_istg zE2 :: zq_k 0 :: zq_istg zE3 :: xb_303_1
noncomputable def xf_303_0 : zE → zKn := fun E => zq_aldg zG0 (zq_ildg zG1 (zq_calli 283 1 9 6 (zq_k 0 (zq_istg zE2 (zq_k 0 (zq_istg zE3 (xf_303_1 E) E) E) E) E) E) E) E
theorem xe_303_0 : xf_303_0 = zEx xb_303_0 := by
  unfold xf_303_0 xb_303_0
  rw [xe_303_1]
  rfl
theorem xc_303_0 : zCd 303 [0, 9, 34, 35, 42] 0 xb_303_0 := zc_aload_n xj_303 1 0 rfl rfl zf_ald_0 (zc_iload_n xj_303 2 1 rfl rfl zf_ild_1 (zc_invokevirtual1 xj_303 5 293 283 1 360 9 6 rfl rfl rfl rfl (zc_iconst xj_303 6 0 0 rfl rfl rfl (zc_istore_n xj_303 7 2 rfl rfl zf_ist_2 (zc_iconst xj_303 8 0 0 rfl rfl rfl (zc_istore_n xj_303 9 3 rfl rfl zf_ist_3 (xc_303_1)))))))
noncomputable def xm_303 : Lean.RArray (zE → zKn) := .branch 34 (.branch 9 (.leaf xf_303_0) (.leaf xf_303_1)) (.branch 35 (.leaf xf_303_2) (.branch 42 (.leaf xf_303_3) (.leaf xf_303_4)))
theorem xa_303 : zCdAll 303 [0, 9, 34, 35, 42] xm_303 := zAll2_ok (P := fun t => ∃ c, zCd 303 [0, 9, 34, 35, 42] t c ∧ xm_303.get t = zEx c) ⟨⟨_, xc_303_0, xe_303_0⟩, ⟨_, xc_303_1, xe_303_1⟩, ⟨_, xc_303_2, xe_303_2⟩, ⟨_, xc_303_3, xe_303_3⟩, ⟨_, xc_303_4, xe_303_4⟩, trivial⟩
/-- SquareMeshModel.centre -/
theorem xj_304 : ∀ pc, pI 304 pc = pJ_304 pc := fun _ => rfl
noncomputable def xb_304_7 : List zF := [zq_iret 0]
noncomputable def xf_304_7 : zE → zKn := fun E => zq_iret 0 (zNil) E
theorem xe_304_7 : xf_304_7 = zEx xb_304_7 := by
  unfold xf_304_7 xb_304_7
  rfl
theorem xc_304_7 : zCd 304 [0, 11, 18, 52, 62, 68, 76, 77] 77 xb_304_7 := zc_ireturn0 xj_304 78 rfl rfl (trivial)
noncomputable def xb_304_6 : List zF := zq_ildg zG3 :: xb_304_7
noncomputable def xf_304_6 : zE → zKn := fun E => zq_ildg zG3 (xf_304_7 E) E
theorem xe_304_6 : xf_304_6 = zEx xb_304_6 := by
  unfold xf_304_6 xb_304_6
  rw [xe_304_7]
  rfl
theorem xc_304_6 : zCd 304 [0, 11, 18, 52, 62, 68, 76, 77] 76 xb_304_6 := zc_iload_n xj_304 77 3 rfl rfl zf_ild_3 (xc_304_7)
noncomputable def xb_304_5 : List zF := [zq_ildg zG1, zq_if_ne 76, zq_ildg zG2, zq_goto 77]
noncomputable def xf_304_5 : zE → zKn := fun E => zq_ildg zG1 (zq_if_ne 76 (zq_ildg zG2 (zq_goto 77 (zNil) E) E) E) E
theorem xe_304_5 : xf_304_5 = zEx xb_304_5 := by
  unfold xf_304_5 xb_304_5
  rfl
theorem xc_304_5 : zCd 304 [0, 11, 18, 52, 62, 68, 76, 77] 68 xb_304_5 := zc_iload_n xj_304 69 1 rfl rfl zf_ild_1 (zc_if_ne xj_304 72 7 76 rfl rfl rfl (zc_iload_n xj_304 73 2 rfl rfl zf_ild_2 (zc_goto xj_304 74 4 77 rfl rfl rfl (trivial))))
noncomputable def xb_304_4 : List zF := [zq_incg zG4 zE4 1, zq_goto 18]
noncomputable def xf_304_4 : zE → zKn := fun E => zq_incg zG4 zE4 1 (zq_goto 18 (zNil) E) E
theorem xe_304_4 : xf_304_4 = zEx xb_304_4 := by
  unfold xf_304_4 xb_304_4
  rfl
theorem xc_304_4 : zCd 304 [0, 11, 18, 52, 62, 68, 76, 77] 62 xb_304_4 := zc_iinc xj_304 65 4 1 1 rfl rfl rfl (zf_inc_4 _) (zc_goto xj_304 66 (-47) 18 rfl rfl rfl (trivial))
noncomputable def xb_304_3 : List zF := zq_ildg zG4 :: zq_istg zE2 :: zq_aldg zG0 :: zq_ildg zG4 :: zq_calli 303 1 9 4 :: zq_istg zE3 :: xb_304_4
noncomputable def xf_304_3 : zE → zKn := fun E => zq_ildg zG4 (zq_istg zE2 (zq_aldg zG0 (zq_ildg zG4 (zq_calli 303 1 9 4 (zq_istg zE3 (xf_304_4 E) E) E) E) E) E) E
theorem xe_304_3 : xf_304_3 = zEx xb_304_3 := by
  unfold xf_304_3 xb_304_3
  rw [xe_304_4]
  rfl
theorem xc_304_3 : zCd 304 [0, 11, 18, 52, 62, 68, 76, 77] 52 xb_304_3 := zc_iload xj_304 54 4 rfl rfl zf_ild_4 (zc_istore_n xj_304 55 2 rfl rfl zf_ist_2 (zc_aload_n xj_304 56 0 rfl rfl zf_ald_0 (zc_iload xj_304 58 4 rfl rfl zf_ild_4 (zc_invokevirtual1 xj_304 61 320 303 1 373 9 4 rfl rfl rfl rfl (zc_istore_n xj_304 62 3 rfl rfl zf_ist_3 (xc_304_4))))))
noncomputable def xb_304_2 : List zF := [zq_ildg zG4, zq_k 40, zq_ic_ge 68, zq_aldg zG0, zq_ildg zG4, zN1 191 2 zg_191, zq_if_eq 62, zq_ildg zG2, zq_k 4294967295, zq_ic_eq 52, zq_aldg zG0, zq_ildg zG4, zq_calli 303 1 9 4, zq_ildg zG3, zq_ic_lt 52, zq_goto 62]
noncomputable def xf_304_2 : zE → zKn := fun E => zq_ildg zG4 (zq_k 40 (zq_ic_ge 68 (zq_aldg zG0 (zq_ildg zG4 (zN1 191 2 zg_191 (zq_if_eq 62 (zq_ildg zG2 (zq_k 4294967295 (zq_ic_eq 52 (zq_aldg zG0 (zq_ildg zG4 (zq_calli 303 1 9 4 (zq_ildg zG3 (zq_ic_lt 52 (zq_goto 62 (zNil) E) E) E) E) E) E) E) E) E) E) E) E) E) E) E) E
theorem xe_304_2 : xf_304_2 = zEx xb_304_2 := by
  unfold xf_304_2 xb_304_2
  rfl
theorem xc_304_2 : zCd 304 [0, 11, 18, 52, 62, 68, 76, 77] 18 xb_304_2 := zc_iload xj_304 20 4 rfl rfl zf_ild_4 (zc_bipush xj_304 22 40 40 rfl rfl rfl (zc_ic_ge xj_304 25 46 68 rfl rfl rfl (zc_aload_n xj_304 26 0 rfl rfl zf_ald_0 (zc_iload xj_304 28 4 rfl rfl zf_ild_4 (zc_any xj_304 31 (.invokevirtual 71) [1, 191, 1, 264, 9, 2] rfl rfl (zN1 191 2 zg_191) rfl rfl (zc_if_eq xj_304 34 31 62 rfl rfl rfl (zc_iload_n xj_304 35 2 rfl rfl zf_ild_2 (zc_iconst xj_304 36 (-1) 4294967295 rfl rfl rfl (zc_ic_eq xj_304 39 16 52 rfl rfl rfl (zc_aload_n xj_304 40 0 rfl rfl zf_ald_0 (zc_iload xj_304 42 4 rfl rfl zf_ild_4 (zc_invokevirtual1 xj_304 45 320 303 1 373 9 4 rfl rfl rfl rfl (zc_iload_n xj_304 46 3 rfl rfl zf_ild_3 (zc_ic_lt xj_304 49 6 52 rfl rfl rfl (zc_goto xj_304 50 13 62 rfl rfl rfl (trivial))))))))))))))))
noncomputable def xb_304_1 : List zF := zq_k 4294967295 :: zq_istg zE2 :: zq_k 0 :: zq_istg zE3 :: zq_k 0 :: zq_istg zE4 :: xb_304_2
noncomputable def xf_304_1 : zE → zKn := fun E => zq_k 4294967295 (zq_istg zE2 (zq_k 0 (zq_istg zE3 (zq_k 0 (zq_istg zE4 (xf_304_2 E) E) E) E) E) E) E
theorem xe_304_1 : xf_304_1 = zEx xb_304_1 := by
  unfold xf_304_1 xb_304_1
  rw [xe_304_2]
  rfl
theorem xc_304_1 : zCd 304 [0, 11, 18, 52, 62, 68, 76, 77] 11 xb_304_1 := zc_iconst xj_304 12 (-1) 4294967295 rfl rfl rfl (zc_istore_n xj_304 13 2 rfl rfl zf_ist_2 (zc_iconst xj_304 14 0 0 rfl rfl rfl (zc_istore_n xj_304 15 3 rfl rfl zf_ist_3 (zc_iconst xj_304 16 0 0 rfl rfl rfl (zc_istore xj_304 18 4 rfl rfl zf_ist_4 (xc_304_2))))))
noncomputable def xb_304_0 : List zF := [zq_ildg zG1, zq_k 0, zq_k 1, zq_calls 188 3 3, zq_if_ne 11, zq_k 4294967295, zq_iret 0]
noncomputable def xf_304_0 : zE → zKn := fun E => zq_ildg zG1 (zq_k 0 (zq_k 1 (zq_calls 188 3 3 (zq_if_ne 11 (zq_k 4294967295 (zq_iret 0 (zNil) E) E) E) E) E) E) E
theorem xe_304_0 : xf_304_0 = zEx xb_304_0 := by
  unfold xf_304_0 xb_304_0
  rfl
theorem xc_304_0 : zCd 304 [0, 11, 18, 52, 62, 68, 76, 77] 0 xb_304_0 := zc_iload_n xj_304 1 1 rfl rfl zf_ild_1 (zc_iconst xj_304 2 0 0 rfl rfl rfl (zc_iconst xj_304 3 1 1 rfl rfl rfl (zc_invokestatic2 xj_304 6 67 188 3 265 0 3 rfl rfl rfl rfl (zc_if_ne xj_304 9 5 11 rfl rfl rfl (zc_iconst xj_304 10 (-1) 4294967295 rfl rfl rfl (zc_ireturn0 xj_304 11 rfl rfl (trivial)))))))
noncomputable def xm_304 : Lean.RArray (zE → zKn) := .branch 62 (.branch 18 (.branch 11 (.leaf xf_304_0) (.leaf xf_304_1)) (.branch 52 (.leaf xf_304_2) (.leaf xf_304_3))) (.branch 76 (.branch 68 (.leaf xf_304_4) (.leaf xf_304_5)) (.branch 77 (.leaf xf_304_6) (.leaf xf_304_7)))
theorem xa_304 : zCdAll 304 [0, 11, 18, 52, 62, 68, 76, 77] xm_304 := zAll2_ok (P := fun t => ∃ c, zCd 304 [0, 11, 18, 52, 62, 68, 76, 77] t c ∧ xm_304.get t = zEx c) ⟨⟨_, xc_304_0, xe_304_0⟩, ⟨_, xc_304_1, xe_304_1⟩, ⟨_, xc_304_2, xe_304_2⟩, ⟨_, xc_304_3, xe_304_3⟩, ⟨_, xc_304_4, xe_304_4⟩, ⟨_, xc_304_5, xe_304_5⟩, ⟨_, xc_304_6, xe_304_6⟩, ⟨_, xc_304_7, xe_304_7⟩, trivial⟩
/-- SquareMeshModel.lengthOf -/
theorem xj_305 : ∀ pc, pI 305 pc = pJ_305 pc := fun _ => rfl
noncomputable def xb_305_4 : List zF := [zq_ildg zG4, zq_iret 0]
noncomputable def xf_305_4 : zE → zKn := fun E => zq_ildg zG4 (zq_iret 0 (zNil) E) E
theorem xe_305_4 : xf_305_4 = zEx xb_305_4 := by
  unfold xf_305_4 xb_305_4
  rfl
theorem xc_305_4 : zCd 305 [0, 15, 49, 55, 58] 58 xb_305_4 := zc_iload xj_305 60 4 rfl rfl zf_ild_4 (zc_ireturn0 xj_305 61 rfl rfl (trivial))
noncomputable def xb_305_3 : List zF := [zq_goto 15]
noncomputable def xf_305_3 : zE → zKn := fun E => zq_goto 15 (zNil) E
theorem xe_305_3 : xf_305_3 = zEx xb_305_3 := by
  unfold xf_305_3 xb_305_3
  rfl
theorem xc_305_3 : zCd 305 [0, 15, 49, 55, 58] 55 xb_305_3 := zc_goto xj_305 56 (-40) 15 rfl rfl rfl (trivial)
noncomputable def xb_305_2 : List zF := zq_ildg zG6 :: zq_k 1 :: zq_sub :: zq_istg zE5 :: xb_305_3
noncomputable def xf_305_2 : zE → zKn := fun E => zq_ildg zG6 (zq_k 1 (zq_sub (zq_istg zE5 (xf_305_3 E) E) E) E) E
theorem xe_305_2 : xf_305_2 = zEx xb_305_2 := by
  unfold xf_305_2 xb_305_2
  rw [xe_305_3]
  rfl
theorem xc_305_2 : zCd 305 [0, 15, 49, 55, 58] 49 xb_305_2 := zc_iload xj_305 51 6 rfl rfl zf_ild_6 (zc_iconst xj_305 52 1 1 rfl rfl rfl (zc_isub xj_305 53 rfl rfl (zc_istore xj_305 55 5 rfl rfl zf_ist_5 (xc_305_3))))
noncomputable def xb_305_1 : List zF := [zq_ildg zG4, zq_ildg zG5, zq_ic_ge 58, zq_ildg zG4, zq_ildg zG5, zq_add, zq_k 1, zq_add, zq_k 2, zq_div, zq_istg zE6, zq_ildg zG6, zq_ildg zG6, zq_mul, zq_ildg zG3, zq_ic_gt 49, zq_ildg zG6, zq_istg zE4, zq_goto 55]
noncomputable def xf_305_1 : zE → zKn := fun E => zq_ildg zG4 (zq_ildg zG5 (zq_ic_ge 58 (zq_ildg zG4 (zq_ildg zG5 (zq_add (zq_k 1 (zq_add (zq_k 2 (zq_div (zq_istg zE6 (zq_ildg zG6 (zq_ildg zG6 (zq_mul (zq_ildg zG3 (zq_ic_gt 49 (zq_ildg zG6 (zq_istg zE4 (zq_goto 55 (zNil) E) E) E) E) E) E) E) E) E) E) E) E) E) E) E) E) E) E) E
theorem xe_305_1 : xf_305_1 = zEx xb_305_1 := by
  unfold xf_305_1 xb_305_1
  rfl
theorem xc_305_1 : zCd 305 [0, 15, 49, 55, 58] 15 xb_305_1 := zc_iload xj_305 17 4 rfl rfl zf_ild_4 (zc_iload xj_305 19 5 rfl rfl zf_ild_5 (zc_ic_ge xj_305 22 39 58 rfl rfl rfl (zc_iload xj_305 24 4 rfl rfl zf_ild_4 (zc_iload xj_305 26 5 rfl rfl zf_ild_5 (zc_iadd xj_305 27 rfl rfl (zc_iconst xj_305 28 1 1 rfl rfl rfl (zc_iadd xj_305 29 rfl rfl (zc_iconst xj_305 30 2 2 rfl rfl rfl (zc_idiv xj_305 31 rfl rfl (zc_istore xj_305 33 6 rfl rfl zf_ist_6 (zc_iload xj_305 35 6 rfl rfl zf_ild_6 (zc_iload xj_305 37 6 rfl rfl zf_ild_6 (zc_imul xj_305 38 rfl rfl (zc_iload_n xj_305 39 3 rfl rfl zf_ild_3 (zc_ic_gt xj_305 42 10 49 rfl rfl rfl (zc_iload xj_305 44 6 rfl rfl zf_ild_6 (zc_istore xj_305 46 4 rfl rfl zf_ist_4 (zc_goto xj_305 47 9 55 rfl rfl rfl (trivial)))))))))))))))))))
noncomputable def xb_305_0 : List zF := zq_aldg zG0 :: zq_ildg zG1 :: zq_ildg zG2 :: zq_calli 204 2 9 3 :: zq_istg zE3 :: zq_k 0 :: zq_istg zE4 :: zq_k 3000 :: zq_istg zE5 :: xb_305_1
noncomputable def xf_305_0 : zE → zKn := fun E => zq_aldg zG0 (zq_ildg zG1 (zq_ildg zG2 (zq_calli 204 2 9 3 (zq_istg zE3 (zq_k 0 (zq_istg zE4 (zq_k 3000 (zq_istg zE5 (xf_305_1 E) E) E) E) E) E) E) E) E) E
theorem xe_305_0 : xf_305_0 = zEx xb_305_0 := by
  unfold xf_305_0 xb_305_0
  rw [xe_305_1]
  rfl
theorem xc_305_0 : zCd 305 [0, 15, 49, 55, 58] 0 xb_305_0 := zc_aload_n xj_305 1 0 rfl rfl zf_ald_0 (zc_iload_n xj_305 2 1 rfl rfl zf_ild_1 (zc_iload_n xj_305 3 2 rfl rfl zf_ild_2 (zc_invokevirtual1 xj_305 6 86 204 2 270 9 3 rfl rfl rfl rfl (zc_istore_n xj_305 7 3 rfl rfl zf_ist_3 (zc_iconst xj_305 8 0 0 rfl rfl rfl (zc_istore xj_305 10 4 rfl rfl zf_ist_4 (zc_sipush xj_305 13 3000 3000 rfl rfl rfl (zc_istore xj_305 15 5 rfl rfl zf_ist_5 (xc_305_1)))))))))
noncomputable def xm_305 : Lean.RArray (zE → zKn) := .branch 49 (.branch 15 (.leaf xf_305_0) (.leaf xf_305_1)) (.branch 55 (.leaf xf_305_2) (.branch 58 (.leaf xf_305_3) (.leaf xf_305_4)))
theorem xa_305 : zCdAll 305 [0, 15, 49, 55, 58] xm_305 := zAll2_ok (P := fun t => ∃ c, zCd 305 [0, 15, 49, 55, 58] t c ∧ xm_305.get t = zEx c) ⟨⟨_, xc_305_0, xe_305_0⟩, ⟨_, xc_305_1, xe_305_1⟩, ⟨_, xc_305_2, xe_305_2⟩, ⟨_, xc_305_3, xe_305_3⟩, ⟨_, xc_305_4, xe_305_4⟩, trivial⟩
/-- SquareMeshModel.layLengths -/
theorem xj_306 : ∀ pc, pI 306 pc = pJ_306 pc := fun _ => rfl
noncomputable def xb_306_10 : List zF := [zq_vret]
noncomputable def xf_306_10 : zE → zKn := fun E => zq_vret (zNil) E
theorem xe_306_10 : xf_306_10 = zEx xb_306_10 := by
  unfold xf_306_10 xb_306_10
  rfl
theorem xc_306_10 : zCd 306 [0, 2, 21, 30, 38, 47, 112, 135, 141, 147, 150] 150 xb_306_10 := zc_return_ xj_306 151 rfl rfl (trivial)
noncomputable def xb_306_9 : List zF := [zq_goto 30]
noncomputable def xf_306_9 : zE → zKn := fun E => zq_goto 30 (zNil) E
theorem xe_306_9 : xf_306_9 = zEx xb_306_9 := by
  unfold xf_306_9 xb_306_9
  rfl
theorem xc_306_9 : zCd 306 [0, 2, 21, 30, 38, 47, 112, 135, 141, 147, 150] 147 xb_306_9 := zc_goto xj_306 148 (-117) 30 rfl rfl rfl (trivial)
noncomputable def xb_306_8 : List zF := [zq_incg zG3 zE3 1, zq_goto 38]
noncomputable def xf_306_8 : zE → zKn := fun E => zq_incg zG3 zE3 1 (zq_goto 38 (zNil) E) E
theorem xe_306_8 : xf_306_8 = zEx xb_306_8 := by
  unfold xf_306_8 xb_306_8
  rfl
theorem xc_306_8 : zCd 306 [0, 2, 21, 30, 38, 47, 112, 135, 141, 147, 150] 141 xb_306_8 := zc_iinc xj_306 144 3 1 1 rfl rfl rfl (zf_inc_3 _) (zc_goto xj_306 145 (-106) 38 rfl rfl rfl (trivial))
noncomputable def xb_306_7 : List zF := [zq_incg zG4 zE4 1, zq_goto 47]
noncomputable def xf_306_7 : zE → zKn := fun E => zq_incg zG4 zE4 1 (zq_goto 47 (zNil) E) E
theorem xe_306_7 : xf_306_7 = zEx xb_306_7 := by
  unfold xf_306_7 xb_306_7
  rfl
theorem xc_306_7 : zCd 306 [0, 2, 21, 30, 38, 47, 112, 135, 141, 147, 150] 135 xb_306_7 := zc_iinc xj_306 138 4 1 1 rfl rfl rfl (zf_inc_4 _) (zc_goto xj_306 139 (-91) 47 rfl rfl rfl (trivial))
noncomputable def xb_306_6 : List zF := zq_aldg zG0 :: zq_getfg 9 zG11 :: zq_ildg zG4 :: zq_aldg zG0 :: zq_getfg 9 zG11 :: zq_ildg zG3 :: zq_ild_ 0 :: zq_aldg zG0 :: zq_ildg zG3 :: zq_ildg zG4 :: zq_calli 305 2 9 7 :: zq_add :: zq_iast :: zq_k 1 :: zq_istg zE2 :: xb_306_7
noncomputable def xf_306_6 : zE → zKn := fun E => zq_aldg zG0 (zq_getfg 9 zG11 (zq_ildg zG4 (zq_aldg zG0 (zq_getfg 9 zG11 (zq_ildg zG3 (zq_ild_ 0 (zq_aldg zG0 (zq_ildg zG3 (zq_ildg zG4 (zq_calli 305 2 9 7 (zq_add (zq_iast (zq_k 1 (zq_istg zE2 (xf_306_7 E) E) E) E) E) E) E) E) E) E) E) E) E) E) E) E
theorem xe_306_6 : xf_306_6 = zEx xb_306_6 := by
  unfold xf_306_6 xb_306_6
  rw [xe_306_7]
  rfl
theorem xc_306_6 : zCd 306 [0, 2, 21, 30, 38, 47, 112, 135, 141, 147, 150] 112 xb_306_6 := zc_aload_n xj_306 113 0 rfl rfl zf_ald_0 (zc_getf xj_306 116 42 9 11 105 rfl rfl (zf_getf_11 _) (zc_iload xj_306 118 4 rfl rfl zf_ild_4 (zc_aload_n xj_306 119 0 rfl rfl zf_ald_0 (zc_getf xj_306 122 42 9 11 105 rfl rfl (zf_getf_11 _) (zc_iload_n xj_306 123 3 rfl rfl zf_ild_3 (zc_iaload xj_306 124 rfl rfl (zc_aload_n xj_306 125 0 rfl rfl zf_ald_0 (zc_iload_n xj_306 126 3 rfl rfl zf_ild_3 (zc_iload xj_306 128 4 rfl rfl zf_ild_4 (zc_invokevirtual1 xj_306 131 323 305 2 376 9 7 rfl rfl rfl rfl (zc_iadd xj_306 132 rfl rfl (zc_iastore xj_306 133 rfl rfl (zc_iconst xj_306 134 1 1 rfl rfl rfl (zc_istore_n xj_306 135 2 rfl rfl zf_ist_2 (xc_306_7)))))))))))))))
noncomputable def xb_306_5 : List zF := [zq_ildg zG4, zq_k 40, zq_ic_ge 141, zq_aldg zG0, zq_getfg 9 zG11, zq_ildg zG3, zq_ild_ 0, zq_k 4294967295, zq_ic_eq 141, zq_aldg zG0, zq_ildg zG3, zq_ildg zG4, zN2 213 3 zg_213, zq_if_eq 135, zq_aldg zG0, zq_getfg 9 zG11, zq_ildg zG4, zq_ild_ 0, zq_k 4294967295, zq_ic_eq 112, zq_aldg zG0, zq_getfg 9 zG11, zq_ildg zG4, zq_ild_ 0, zq_aldg zG0, zq_getfg 9 zG11, zq_ildg zG3, zq_ild_ 0, zq_aldg zG0, zq_ildg zG3, zq_ildg zG4, zq_calli 305 2 9 7, zq_add, zq_ic_gt 112, zq_goto 135]
noncomputable def xf_306_5 : zE → zKn := fun E => zq_ildg zG4 (zq_k 40 (zq_ic_ge 141 (zq_aldg zG0 (zq_getfg 9 zG11 (zq_ildg zG3 (zq_ild_ 0 (zq_k 4294967295 (zq_ic_eq 141 (zq_aldg zG0 (zq_ildg zG3 (zq_ildg zG4 (zN2 213 3 zg_213 (zq_if_eq 135 (zq_aldg zG0 (zq_getfg 9 zG11 (zq_ildg zG4 (zq_ild_ 0 (zq_k 4294967295 (zq_ic_eq 112 (zq_aldg zG0 (zq_getfg 9 zG11 (zq_ildg zG4 (zq_ild_ 0 (zq_aldg zG0 (zq_getfg 9 zG11 (zq_ildg zG3 (zq_ild_ 0 (zq_aldg zG0 (zq_ildg zG3 (zq_ildg zG4 (zq_calli 305 2 9 7 (zq_add (zq_ic_gt 112 (zq_goto 135 (zNil) E) E) E) E) E) E) E) E) E) E) E) E) E) E) E) E) E) E) E) E) E) E) E) E) E) E) E) E) E) E) E) E) E) E) E
set_option maxRecDepth 100000 in
theorem xe_306_5 : xf_306_5 = zEx xb_306_5 := by
  unfold xf_306_5 xb_306_5
  rfl
theorem xc_306_5 : zCd 306 [0, 2, 21, 30, 38, 47, 112, 135, 141, 147, 150] 47 xb_306_5 := zc_iload xj_306 49 4 rfl rfl zf_ild_4 (zc_bipush xj_306 51 40 40 rfl rfl rfl (zc_ic_ge xj_306 54 90 141 rfl rfl rfl (zc_aload_n xj_306 55 0 rfl rfl zf_ald_0 (zc_getf xj_306 58 42 9 11 105 rfl rfl (zf_getf_11 _) (zc_iload_n xj_306 59 3 rfl rfl zf_ild_3 (zc_iaload xj_306 60 rfl rfl (zc_iconst xj_306 61 (-1) 4294967295 rfl rfl rfl (zc_ic_eq xj_306 64 80 141 rfl rfl rfl (zc_aload_n xj_306 65 0 rfl rfl zf_ald_0 (zc_iload_n xj_306 66 3 rfl rfl zf_ild_3 (zc_iload xj_306 68 4 rfl rfl zf_ild_4 (zc_any xj_306 71 (.invokevirtual 234) [1, 213, 2, 321, 9, 3] rfl rfl (zN2 213 3 zg_213) rfl rfl (zc_if_eq xj_306 74 64 135 rfl rfl rfl (zc_aload_n xj_306 75 0 rfl rfl zf_ald_0 (zc_getf xj_306 78 42 9 11 105 rfl rfl (zf_getf_11 _) (zc_iload xj_306 80 4 rfl rfl zf_ild_4 (zc_iaload xj_306 81 rfl rfl (zc_iconst xj_306 82 (-1) 4294967295 rfl rfl rfl (zc_ic_eq xj_306 85 30 112 rfl rfl rfl (zc_aload_n xj_306 86 0 rfl rfl zf_ald_0 (zc_getf xj_306 89 42 9 11 105 rfl rfl (zf_getf_11 _) (zc_iload xj_306 91 4 rfl rfl zf_ild_4 (zc_iaload xj_306 92 rfl rfl (zc_aload_n xj_306 93 0 rfl rfl zf_ald_0 (zc_getf xj_306 96 42 9 11 105 rfl rfl (zf_getf_11 _) (zc_iload_n xj_306 97 3 rfl rfl zf_ild_3 (zc_iaload xj_306 98 rfl rfl (zc_aload_n xj_306 99 0 rfl rfl zf_ald_0 (zc_iload_n xj_306 100 3 rfl rfl zf_ild_3 (zc_iload xj_306 102 4 rfl rfl zf_ild_4 (zc_invokevirtual1 xj_306 105 323 305 2 376 9 7 rfl rfl rfl rfl (zc_iadd xj_306 106 rfl rfl (zc_ic_gt xj_306 109 6 112 rfl rfl rfl (zc_goto xj_306 110 26 135 rfl rfl rfl (trivial)))))))))))))))))))))))))))))))))))
noncomputable def xb_306_4 : List zF := zq_ildg zG3 :: zq_k 40 :: zq_ic_ge 147 :: zq_k 0 :: zq_istg zE4 :: xb_306_5
noncomputable def xf_306_4 : zE → zKn := fun E => zq_ildg zG3 (zq_k 40 (zq_ic_ge 147 (zq_k 0 (zq_istg zE4 (xf_306_5 E) E) E) E) E) E
theorem xe_306_4 : xf_306_4 = zEx xb_306_4 := by
  unfold xf_306_4 xb_306_4
  rw [xe_306_5]
  rfl
theorem xc_306_4 : zCd 306 [0, 2, 21, 30, 38, 47, 112, 135, 141, 147, 150] 38 xb_306_4 := zc_iload_n xj_306 39 3 rfl rfl zf_ild_3 (zc_bipush xj_306 41 40 40 rfl rfl rfl (zc_ic_ge xj_306 44 106 147 rfl rfl rfl (zc_iconst xj_306 45 0 0 rfl rfl rfl (zc_istore xj_306 47 4 rfl rfl zf_ist_4 (xc_306_5)))))
noncomputable def xb_306_3 : List zF := zq_ildg zG2 :: zq_if_eq 150 :: zq_k 0 :: zq_istg zE2 :: zq_k 0 :: zq_istg zE3 :: xb_306_4
noncomputable def xf_306_3 : zE → zKn := fun E => zq_ildg zG2 (zq_if_eq 150 (zq_k 0 (zq_istg zE2 (zq_k 0 (zq_istg zE3 (xf_306_4 E) E) E) E) E) E) E
theorem xe_306_3 : xf_306_3 = zEx xb_306_3 := by
  unfold xf_306_3 xb_306_3
  rw [xe_306_4]
  rfl
theorem xc_306_3 : zCd 306 [0, 2, 21, 30, 38, 47, 112, 135, 141, 147, 150] 30 xb_306_3 := zc_iload_n xj_306 31 2 rfl rfl zf_ild_2 (zc_if_eq xj_306 34 119 150 rfl rfl rfl (zc_iconst xj_306 35 0 0 rfl rfl rfl (zc_istore_n xj_306 36 2 rfl rfl zf_ist_2 (zc_iconst xj_306 37 0 0 rfl rfl rfl (zc_istore_n xj_306 38 3 rfl rfl zf_ist_3 (xc_306_4))))))
noncomputable def xb_306_2 : List zF := zq_aldg zG0 :: zq_getfg 9 zG11 :: zq_ildg zG1 :: zq_k 0 :: zq_iast :: zq_k 1 :: zq_istg zE2 :: xb_306_3
noncomputable def xf_306_2 : zE → zKn := fun E => zq_aldg zG0 (zq_getfg 9 zG11 (zq_ildg zG1 (zq_k 0 (zq_iast (zq_k 1 (zq_istg zE2 (xf_306_3 E) E) E) E) E) E) E) E
theorem xe_306_2 : xf_306_2 = zEx xb_306_2 := by
  unfold xf_306_2 xb_306_2
  rw [xe_306_3]
  rfl
theorem xc_306_2 : zCd 306 [0, 2, 21, 30, 38, 47, 112, 135, 141, 147, 150] 21 xb_306_2 := zc_aload_n xj_306 22 0 rfl rfl zf_ald_0 (zc_getf xj_306 25 42 9 11 105 rfl rfl (zf_getf_11 _) (zc_iload_n xj_306 26 1 rfl rfl zf_ild_1 (zc_iconst xj_306 27 0 0 rfl rfl rfl (zc_iastore xj_306 28 rfl rfl (zc_iconst xj_306 29 1 1 rfl rfl rfl (zc_istore_n xj_306 30 2 rfl rfl zf_ist_2 (xc_306_3)))))))
noncomputable def xb_306_1 : List zF := [zq_ildg zG2, zq_k 40, zq_ic_ge 21, zq_aldg zG0, zq_getfg 9 zG11, zq_ildg zG2, zq_k 4294967295, zq_iast, zq_incg zG2 zE2 1, zq_goto 2]
noncomputable def xf_306_1 : zE → zKn := fun E => zq_ildg zG2 (zq_k 40 (zq_ic_ge 21 (zq_aldg zG0 (zq_getfg 9 zG11 (zq_ildg zG2 (zq_k 4294967295 (zq_iast (zq_incg zG2 zE2 1 (zq_goto 2 (zNil) E) E) E) E) E) E) E) E) E) E
theorem xe_306_1 : xf_306_1 = zEx xb_306_1 := by
  unfold xf_306_1 xb_306_1
  rfl
theorem xc_306_1 : zCd 306 [0, 2, 21, 30, 38, 47, 112, 135, 141, 147, 150] 2 xb_306_1 := zc_iload_n xj_306 3 2 rfl rfl zf_ild_2 (zc_bipush xj_306 5 40 40 rfl rfl rfl (zc_ic_ge xj_306 8 16 21 rfl rfl rfl (zc_aload_n xj_306 9 0 rfl rfl zf_ald_0 (zc_getf xj_306 12 42 9 11 105 rfl rfl (zf_getf_11 _) (zc_iload_n xj_306 13 2 rfl rfl zf_ild_2 (zc_iconst xj_306 14 (-1) 4294967295 rfl rfl rfl (zc_iastore xj_306 15 rfl rfl (zc_iinc xj_306 18 2 1 1 rfl rfl rfl (zf_inc_2 _) (zc_goto xj_306 19 (-16) 2 rfl rfl rfl (trivial))))))))))
noncomputable def xb_306_0 : List zF := zq_k 0 :: zq_istg zE2 :: xb_306_1
noncomputable def xf_306_0 : zE → zKn := fun E => zq_k 0 (zq_istg zE2 (xf_306_1 E) E) E
theorem xe_306_0 : xf_306_0 = zEx xb_306_0 := by
  unfold xf_306_0 xb_306_0
  rw [xe_306_1]
  rfl
theorem xc_306_0 : zCd 306 [0, 2, 21, 30, 38, 47, 112, 135, 141, 147, 150] 0 xb_306_0 := zc_iconst xj_306 1 0 0 rfl rfl rfl (zc_istore_n xj_306 2 2 rfl rfl zf_ist_2 (xc_306_1))
noncomputable def xm_306 : Lean.RArray (zE → zKn) := .branch 47 (.branch 21 (.branch 2 (.leaf xf_306_0) (.leaf xf_306_1)) (.branch 30 (.leaf xf_306_2) (.branch 38 (.leaf xf_306_3) (.leaf xf_306_4)))) (.branch 141 (.branch 112 (.leaf xf_306_5) (.branch 135 (.leaf xf_306_6) (.leaf xf_306_7))) (.branch 147 (.leaf xf_306_8) (.branch 150 (.leaf xf_306_9) (.leaf xf_306_10))))
theorem xa_306 : zCdAll 306 [0, 2, 21, 30, 38, 47, 112, 135, 141, 147, 150] xm_306 := zAll2_ok (P := fun t => ∃ c, zCd 306 [0, 2, 21, 30, 38, 47, 112, 135, 141, 147, 150] t c ∧ xm_306.get t = zEx c) ⟨⟨_, xc_306_0, xe_306_0⟩, ⟨_, xc_306_1, xe_306_1⟩, ⟨_, xc_306_2, xe_306_2⟩, ⟨_, xc_306_3, xe_306_3⟩, ⟨_, xc_306_4, xe_306_4⟩, ⟨_, xc_306_5, xe_306_5⟩, ⟨_, xc_306_6, xe_306_6⟩, ⟨_, xc_306_7, xe_306_7⟩, ⟨_, xc_306_8, xe_306_8⟩, ⟨_, xc_306_9, xe_306_9⟩, ⟨_, xc_306_10, xe_306_10⟩, trivial⟩
/-- SquareMeshModel.shortest -/
theorem xj_307 : ∀ pc, pI 307 pc = pJ_307 pc := fun _ => rfl
noncomputable def xb_307_9 : List zF := [zq_ildg zG4, zq_iret 0]
noncomputable def xf_307_9 : zE → zKn := fun E => zq_ildg zG4 (zq_iret 0 (zNil) E) E
theorem xe_307_9 : xf_307_9 = zEx xb_307_9 := by
  unfold xf_307_9 xb_307_9
  rfl
theorem xc_307_9 : zCd 307 [0, 21, 23, 40, 46, 60, 63, 100, 106, 116] 116 xb_307_9 := zc_iload xj_307 118 4 rfl rfl zf_ild_4 (zc_ireturn0 xj_307 119 rfl rfl (trivial))
noncomputable def xb_307_8 : List zF := [zq_ildg zG6, zq_istg zE4, zq_incg zG5 zE5 1, zq_goto 46]
noncomputable def xf_307_8 : zE → zKn := fun E => zq_ildg zG6 (zq_istg zE4 (zq_incg zG5 zE5 1 (zq_goto 46 (zNil) E) E) E) E
theorem xe_307_8 : xf_307_8 = zEx xb_307_8 := by
  unfold xf_307_8 xb_307_8
  rfl
theorem xc_307_8 : zCd 307 [0, 21, 23, 40, 46, 60, 63, 100, 106, 116] 106 xb_307_8 := zc_iload xj_307 108 6 rfl rfl zf_ild_6 (zc_istore xj_307 110 4 rfl rfl zf_ist_4 (zc_iinc xj_307 113 5 1 1 rfl rfl rfl (zf_inc_5 _) (zc_goto xj_307 114 (-67) 46 rfl rfl rfl (trivial))))
noncomputable def xb_307_7 : List zF := [zq_incg zG6 zE6 1, zq_goto 63]
noncomputable def xf_307_7 : zE → zKn := fun E => zq_incg zG6 zE6 1 (zq_goto 63 (zNil) E) E
theorem xe_307_7 : xf_307_7 = zEx xb_307_7 := by
  unfold xf_307_7 xb_307_7
  rfl
theorem xc_307_7 : zCd 307 [0, 21, 23, 40, 46, 60, 63, 100, 106, 116] 100 xb_307_7 := zc_iinc xj_307 103 6 1 1 rfl rfl rfl (zf_inc_6 _) (zc_goto xj_307 104 (-40) 63 rfl rfl rfl (trivial))
noncomputable def xb_307_6 : List zF := zq_aldg zG0 :: zq_ildg zG4 :: zq_ildg zG6 :: zN2 213 3 zg_213 :: zq_if_eq 100 :: zq_aldg zG0 :: zq_getfg 9 zG11 :: zq_ildg zG6 :: zq_ild_ 0 :: zq_aldg zG0 :: zq_ildg zG4 :: zq_ildg zG6 :: zq_calli 305 2 9 7 :: zq_add :: zq_aldg zG0 :: zq_getfg 9 zG11 :: zq_ildg zG4 :: zq_ild_ 0 :: zq_ic_eq 106 :: xb_307_7
noncomputable def xf_307_6 : zE → zKn := fun E => zq_aldg zG0 (zq_ildg zG4 (zq_ildg zG6 (zN2 213 3 zg_213 (zq_if_eq 100 (zq_aldg zG0 (zq_getfg 9 zG11 (zq_ildg zG6 (zq_ild_ 0 (zq_aldg zG0 (zq_ildg zG4 (zq_ildg zG6 (zq_calli 305 2 9 7 (zq_add (zq_aldg zG0 (zq_getfg 9 zG11 (zq_ildg zG4 (zq_ild_ 0 (zq_ic_eq 106 (xf_307_7 E) E) E) E) E) E) E) E) E) E) E) E) E) E) E) E) E) E) E) E
theorem xe_307_6 : xf_307_6 = zEx xb_307_6 := by
  unfold xf_307_6 xb_307_6
  rw [xe_307_7]
  rfl
theorem xc_307_6 : zCd 307 [0, 21, 23, 40, 46, 60, 63, 100, 106, 116] 63 xb_307_6 := zc_aload_n xj_307 64 0 rfl rfl zf_ald_0 (zc_iload xj_307 66 4 rfl rfl zf_ild_4 (zc_iload xj_307 68 6 rfl rfl zf_ild_6 (zc_any xj_307 71 (.invokevirtual 234) [1, 213, 2, 321, 9, 3] rfl rfl (zN2 213 3 zg_213) rfl rfl (zc_if_eq xj_307 74 29 100 rfl rfl rfl (zc_aload_n xj_307 75 0 rfl rfl zf_ald_0 (zc_getf xj_307 78 42 9 11 105 rfl rfl (zf_getf_11 _) (zc_iload xj_307 80 6 rfl rfl zf_ild_6 (zc_iaload xj_307 81 rfl rfl (zc_aload_n xj_307 82 0 rfl rfl zf_ald_0 (zc_iload xj_307 84 4 rfl rfl zf_ild_4 (zc_iload xj_307 86 6 rfl rfl zf_ild_6 (zc_invokevirtual1 xj_307 89 323 305 2 376 9 7 rfl rfl rfl rfl (zc_iadd xj_307 90 rfl rfl (zc_aload_n xj_307 91 0 rfl rfl zf_ald_0 (zc_getf xj_307 94 42 9 11 105 rfl rfl (zf_getf_11 _) (zc_iload xj_307 96 4 rfl rfl zf_ild_4 (zc_iaload xj_307 97 rfl rfl (zc_ic_eq xj_307 100 9 106 rfl rfl rfl (xc_307_7)))))))))))))))))))
noncomputable def xb_307_5 : List zF := zq_k 0 :: zq_istg zE6 :: xb_307_6
noncomputable def xf_307_5 : zE → zKn := fun E => zq_k 0 (zq_istg zE6 (xf_307_6 E) E) E
theorem xe_307_5 : xf_307_5 = zEx xb_307_5 := by
  unfold xf_307_5 xb_307_5
  rw [xe_307_6]
  rfl
theorem xc_307_5 : zCd 307 [0, 21, 23, 40, 46, 60, 63, 100, 106, 116] 60 xb_307_5 := zc_iconst xj_307 61 0 0 rfl rfl rfl (zc_istore xj_307 63 6 rfl rfl zf_ist_6 (xc_307_6))
noncomputable def xb_307_4 : List zF := [zq_ildg zG5, zq_ildg zG3, zq_ic_ge 116, zq_ildg zG4, zq_ildg zG2, zq_ic_ne 60, zq_k 4294967295, zq_iret 0]
noncomputable def xf_307_4 : zE → zKn := fun E => zq_ildg zG5 (zq_ildg zG3 (zq_ic_ge 116 (zq_ildg zG4 (zq_ildg zG2 (zq_ic_ne 60 (zq_k 4294967295 (zq_iret 0 (zNil) E) E) E) E) E) E) E) E
theorem xe_307_4 : xf_307_4 = zEx xb_307_4 := by
  unfold xf_307_4 xb_307_4
  rfl
theorem xc_307_4 : zCd 307 [0, 21, 23, 40, 46, 60, 63, 100, 106, 116] 46 xb_307_4 := zc_iload xj_307 48 5 rfl rfl zf_ild_5 (zc_iload_n xj_307 49 3 rfl rfl zf_ild_3 (zc_ic_ge xj_307 52 67 116 rfl rfl rfl (zc_iload xj_307 54 4 rfl rfl zf_ild_4 (zc_iload_n xj_307 55 2 rfl rfl zf_ild_2 (zc_ic_ne xj_307 58 5 60 rfl rfl rfl (zc_iconst xj_307 59 (-1) 4294967295 rfl rfl rfl (zc_ireturn0 xj_307 60 rfl rfl (trivial))))))))
noncomputable def xb_307_3 : List zF := zq_ildg zG1 :: zq_istg zE4 :: zq_k 0 :: zq_istg zE5 :: xb_307_4
noncomputable def xf_307_3 : zE → zKn := fun E => zq_ildg zG1 (zq_istg zE4 (zq_k 0 (zq_istg zE5 (xf_307_4 E) E) E) E) E
theorem xe_307_3 : xf_307_3 = zEx xb_307_3 := by
  unfold xf_307_3 xb_307_3
  rw [xe_307_4]
  rfl
theorem xc_307_3 : zCd 307 [0, 21, 23, 40, 46, 60, 63, 100, 106, 116] 40 xb_307_3 := zc_iload_n xj_307 41 1 rfl rfl zf_ild_1 (zc_istore xj_307 43 4 rfl rfl zf_ist_4 (zc_iconst xj_307 44 0 0 rfl rfl rfl (zc_istore xj_307 46 5 rfl rfl zf_ist_5 (xc_307_4))))
noncomputable def xb_307_2 : List zF := [zq_aldg zG0, zq_ildg zG2, zq_calli 306 1 9 5, zq_ildg zG3, zq_k 4294967295, zq_ic_ne 40, zq_aldg zG0, zq_getfg 9 zG11, zq_ildg zG1, zq_ild_ 0, zq_iret 0]
noncomputable def xf_307_2 : zE → zKn := fun E => zq_aldg zG0 (zq_ildg zG2 (zq_calli 306 1 9 5 (zq_ildg zG3 (zq_k 4294967295 (zq_ic_ne 40 (zq_aldg zG0 (zq_getfg 9 zG11 (zq_ildg zG1 (zq_ild_ 0 (zq_iret 0 (zNil) E) E) E) E) E) E) E) E) E) E) E
theorem xe_307_2 : xf_307_2 = zEx xb_307_2 := by
  unfold xf_307_2 xb_307_2
  rfl
theorem xc_307_2 : zCd 307 [0, 21, 23, 40, 46, 60, 63, 100, 106, 116] 23 xb_307_2 := zc_aload_n xj_307 24 0 rfl rfl zf_ald_0 (zc_iload_n xj_307 25 2 rfl rfl zf_ild_2 (zc_invokevirtual1 xj_307 28 326 306 1 375 9 5 rfl rfl rfl rfl (zc_iload_n xj_307 29 3 rfl rfl zf_ild_3 (zc_iconst xj_307 30 (-1) 4294967295 rfl rfl rfl (zc_ic_ne xj_307 33 10 40 rfl rfl rfl (zc_aload_n xj_307 34 0 rfl rfl zf_ald_0 (zc_getf xj_307 37 42 9 11 105 rfl rfl (zf_getf_11 _) (zc_iload_n xj_307 38 1 rfl rfl zf_ild_1 (zc_iaload xj_307 39 rfl rfl (zc_ireturn0 xj_307 40 rfl rfl (trivial)))))))))))
noncomputable def xb_307_1 : List zF := [zq_k 4294967295, zq_iret 0]
noncomputable def xf_307_1 : zE → zKn := fun E => zq_k 4294967295 (zq_iret 0 (zNil) E) E
theorem xe_307_1 : xf_307_1 = zEx xb_307_1 := by
  unfold xf_307_1 xb_307_1
  rfl
theorem xc_307_1 : zCd 307 [0, 21, 23, 40, 46, 60, 63, 100, 106, 116] 21 xb_307_1 := zc_iconst xj_307 22 (-1) 4294967295 rfl rfl rfl (zc_ireturn0 xj_307 23 rfl rfl (trivial))
noncomputable def xb_307_0 : List zF := zq_aldg zG0 :: zq_ildg zG1 :: zN1 191 2 zg_191 :: zq_if_eq 21 :: zq_aldg zG0 :: zq_ildg zG2 :: zN1 191 2 zg_191 :: zq_if_eq 21 :: zq_ildg zG3 :: zq_k 4294967295 :: zq_ic_ge 23 :: xb_307_1
noncomputable def xf_307_0 : zE → zKn := fun E => zq_aldg zG0 (zq_ildg zG1 (zN1 191 2 zg_191 (zq_if_eq 21 (zq_aldg zG0 (zq_ildg zG2 (zN1 191 2 zg_191 (zq_if_eq 21 (zq_ildg zG3 (zq_k 4294967295 (zq_ic_ge 23 (xf_307_1 E) E) E) E) E) E) E) E) E) E) E) E
theorem xe_307_0 : xf_307_0 = zEx xb_307_0 := by
  unfold xf_307_0 xb_307_0
  rw [xe_307_1]
  rfl
theorem xc_307_0 : zCd 307 [0, 21, 23, 40, 46, 60, 63, 100, 106, 116] 0 xb_307_0 := zc_aload_n xj_307 1 0 rfl rfl zf_ald_0 (zc_iload_n xj_307 2 1 rfl rfl zf_ild_1 (zc_any xj_307 5 (.invokevirtual 71) [1, 191, 1, 264, 9, 2] rfl rfl (zN1 191 2 zg_191) rfl rfl (zc_if_eq xj_307 8 16 21 rfl rfl rfl (zc_aload_n xj_307 9 0 rfl rfl zf_ald_0 (zc_iload_n xj_307 10 2 rfl rfl zf_ild_2 (zc_any xj_307 13 (.invokevirtual 71) [1, 191, 1, 264, 9, 2] rfl rfl (zN1 191 2 zg_191) rfl rfl (zc_if_eq xj_307 16 8 21 rfl rfl rfl (zc_iload_n xj_307 17 3 rfl rfl zf_ild_3 (zc_iconst xj_307 18 (-1) 4294967295 rfl rfl rfl (zc_ic_ge xj_307 21 5 23 rfl rfl rfl (xc_307_1)))))))))))
noncomputable def xm_307 : Lean.RArray (zE → zKn) := .branch 60 (.branch 23 (.branch 21 (.leaf xf_307_0) (.leaf xf_307_1)) (.branch 40 (.leaf xf_307_2) (.branch 46 (.leaf xf_307_3) (.leaf xf_307_4)))) (.branch 100 (.branch 63 (.leaf xf_307_5) (.leaf xf_307_6)) (.branch 106 (.leaf xf_307_7) (.branch 116 (.leaf xf_307_8) (.leaf xf_307_9))))
theorem xa_307 : zCdAll 307 [0, 21, 23, 40, 46, 60, 63, 100, 106, 116] xm_307 := zAll2_ok (P := fun t => ∃ c, zCd 307 [0, 21, 23, 40, 46, 60, 63, 100, 106, 116] t c ∧ xm_307.get t = zEx c) ⟨⟨_, xc_307_0, xe_307_0⟩, ⟨_, xc_307_1, xe_307_1⟩, ⟨_, xc_307_2, xe_307_2⟩, ⟨_, xc_307_3, xe_307_3⟩, ⟨_, xc_307_4, xe_307_4⟩, ⟨_, xc_307_5, xe_307_5⟩, ⟨_, xc_307_6, xe_307_6⟩, ⟨_, xc_307_7, xe_307_7⟩, ⟨_, xc_307_8, xe_307_8⟩, ⟨_, xc_307_9, xe_307_9⟩, trivial⟩
/-- SquareMeshModel.isCutBy -/
theorem xj_308 : ∀ pc, pI 308 pc = pJ_308 pc := fun _ => rfl
noncomputable def xb_308_2 : List zF := [zq_iret 1]
noncomputable def xf_308_2 : zE → zKn := fun E => zq_iret 1 (zNil) E
theorem xe_308_2 : xf_308_2 = zEx xb_308_2 := by
  unfold xf_308_2 xb_308_2
  rfl
theorem xc_308_2 : zCd 308 [0, 97, 98] 98 xb_308_2 := zc_ireturn1 xj_308 99 rfl rfl (trivial)
noncomputable def xb_308_1 : List zF := zq_k 0 :: xb_308_2
noncomputable def xf_308_1 : zE → zKn := fun E => zq_k 0 (xf_308_2 E) E
theorem xe_308_1 : xf_308_1 = zEx xb_308_1 := by
  unfold xf_308_1 xb_308_1
  rw [xe_308_2]
  rfl
theorem xc_308_1 : zCd 308 [0, 97, 98] 97 xb_308_1 := zc_iconst xj_308 98 0 0 rfl rfl rfl (xc_308_2)
noncomputable def xb_308_0 : List zF := [zq_ildg zG5, zq_ildg zG3, zq_sub, zq_aldg zG0, zq_ildg zG1, zN1 193 2 zg_193, zq_ildg zG4, zq_sub, zq_mul, zq_ildg zG6, zq_ildg zG4, zq_sub, zq_aldg zG0, zq_ildg zG1, zN1 192 2 zg_192, zq_ildg zG3, zq_sub, zq_mul, zq_sub, zq_istg zE7, zq_ildg zG5, zq_ildg zG3, zq_sub, zq_aldg zG0, zq_ildg zG2, zN1 193 2 zg_193, zq_ildg zG4, zq_sub, zq_mul, zq_ildg zG6, zq_ildg zG4, zq_sub, zq_aldg zG0, zq_ildg zG2, zN1 192 2 zg_192, zq_ildg zG3, zq_sub, zq_mul, zq_sub, zq_istg zE8, zq_ildg zG7, zq_ildg zG8, zq_calls 205 2 2, zq_if_eq 97, zq_aldg zG0, zq_ildg zG1, zq_ildg zG2, zq_ildg zG3, zq_ildg zG4, zq_calli 201 4 9 5, zq_aldg zG0, zq_ildg zG1, zq_ildg zG2, zq_ildg zG5, zq_ildg zG6, zq_calli 201 4 9 5, zq_calls 205 2 2, zq_if_eq 97, zq_k 1, zq_goto 98]
noncomputable def xf_308_0 : zE → zKn := fun E => zq_ildg zG5 (zq_ildg zG3 (zq_sub (zq_aldg zG0 (zq_ildg zG1 (zN1 193 2 zg_193 (zq_ildg zG4 (zq_sub (zq_mul (zq_ildg zG6 (zq_ildg zG4 (zq_sub (zq_aldg zG0 (zq_ildg zG1 (zN1 192 2 zg_192 (zq_ildg zG3 (zq_sub (zq_mul (zq_sub (zq_istg zE7 (zq_ildg zG5 (zq_ildg zG3 (zq_sub (zq_aldg zG0 (zq_ildg zG2 (zN1 193 2 zg_193 (zq_ildg zG4 (zq_sub (zq_mul (zq_ildg zG6 (zq_ildg zG4 (zq_sub (zq_aldg zG0 (zq_ildg zG2 (zN1 192 2 zg_192 (zq_ildg zG3 (zq_sub (zq_mul (zq_sub (zq_istg zE8 (zq_ildg zG7 (zq_ildg zG8 (zq_calls 205 2 2 (zq_if_eq 97 (zq_aldg zG0 (zq_ildg zG1 (zq_ildg zG2 (zq_ildg zG3 (zq_ildg zG4 (zq_calli 201 4 9 5 (zq_aldg zG0 (zq_ildg zG1 (zq_ildg zG2 (zq_ildg zG5 (zq_ildg zG6 (zq_calli 201 4 9 5 (zq_calls 205 2 2 (zq_if_eq 97 (zq_k 1 (zq_goto 98 (zNil) E) E) E) E) E) E) E) E) E) E) E) E) E) E) E) E) E) E) E) E) E) E) E) E) E) E) E) E) E) E) E) E) E) E) E) E) E) E) E) E) E) E) E) E) E) E) E) E) E) E) E) E) E) E) E) E) E) E) E) E
set_option maxRecDepth 100000 in
theorem xe_308_0 : xf_308_0 = zEx xb_308_0 := by
  unfold xf_308_0 xb_308_0
  rfl
theorem xc_308_0 : zCd 308 [0, 97, 98] 0 xb_308_0 := zc_iload xj_308 2 5 rfl rfl zf_ild_5 (zc_iload_n xj_308 3 3 rfl rfl zf_ild_3 (zc_isub xj_308 4 rfl rfl (zc_aload_n xj_308 5 0 rfl rfl zf_ald_0 (zc_iload_n xj_308 6 1 rfl rfl zf_ild_1 (zc_any xj_308 9 (.invokevirtual 79) [1, 193, 1, 261, 9, 2] rfl rfl (zN1 193 2 zg_193) rfl rfl (zc_iload xj_308 11 4 rfl rfl zf_ild_4 (zc_isub xj_308 12 rfl rfl (zc_imul xj_308 13 rfl rfl (zc_iload xj_308 15 6 rfl rfl zf_ild_6 (zc_iload xj_308 17 4 rfl rfl zf_ild_4 (zc_isub xj_308 18 rfl rfl (zc_aload_n xj_308 19 0 rfl rfl zf_ald_0 (zc_iload_n xj_308 20 1 rfl rfl zf_ild_1 (zc_any xj_308 23 (.invokevirtual 75) [1, 192, 1, 260, 9, 2] rfl rfl (zN1 192 2 zg_192) rfl rfl (zc_iload_n xj_308 24 3 rfl rfl zf_ild_3 (zc_isub xj_308 25 rfl rfl (zc_imul xj_308 26 rfl rfl (zc_isub xj_308 27 rfl rfl (zc_istore xj_308 29 7 rfl rfl zf_ist_7 (zc_iload xj_308 31 5 rfl rfl zf_ild_5 (zc_iload_n xj_308 32 3 rfl rfl zf_ild_3 (zc_isub xj_308 33 rfl rfl (zc_aload_n xj_308 34 0 rfl rfl zf_ald_0 (zc_iload_n xj_308 35 2 rfl rfl zf_ild_2 (zc_any xj_308 38 (.invokevirtual 79) [1, 193, 1, 261, 9, 2] rfl rfl (zN1 193 2 zg_193) rfl rfl (zc_iload xj_308 40 4 rfl rfl zf_ild_4 (zc_isub xj_308 41 rfl rfl (zc_imul xj_308 42 rfl rfl (zc_iload xj_308 44 6 rfl rfl zf_ild_6 (zc_iload xj_308 46 4 rfl rfl zf_ild_4 (zc_isub xj_308 47 rfl rfl (zc_aload_n xj_308 48 0 rfl rfl zf_ald_0 (zc_iload_n xj_308 49 2 rfl rfl zf_ild_2 (zc_any xj_308 52 (.invokevirtual 75) [1, 192, 1, 260, 9, 2] rfl rfl (zN1 192 2 zg_192) rfl rfl (zc_iload_n xj_308 53 3 rfl rfl zf_ild_3 (zc_isub xj_308 54 rfl rfl (zc_imul xj_308 55 rfl rfl (zc_isub xj_308 56 rfl rfl (zc_istore xj_308 58 8 rfl rfl zf_ist_8 (zc_iload xj_308 60 7 rfl rfl zf_ild_7 (zc_iload xj_308 62 8 rfl rfl zf_ild_8 (zc_invokestatic2 xj_308 65 94 205 2 273 0 2 rfl rfl rfl rfl (zc_if_eq xj_308 68 32 97 rfl rfl rfl (zc_aload_n xj_308 69 0 rfl rfl zf_ald_0 (zc_iload_n xj_308 70 1 rfl rfl zf_ild_1 (zc_iload_n xj_308 71 2 rfl rfl zf_ild_2 (zc_iload_n xj_308 72 3 rfl rfl zf_ild_3 (zc_iload xj_308 74 4 rfl rfl zf_ild_4 (zc_invokevirtual1 xj_308 77 82 201 4 259 9 5 rfl rfl rfl rfl (zc_aload_n xj_308 78 0 rfl rfl zf_ald_0 (zc_iload_n xj_308 79 1 rfl rfl zf_ild_1 (zc_iload_n xj_308 80 2 rfl rfl zf_ild_2 (zc_iload xj_308 82 5 rfl rfl zf_ild_5 (zc_iload xj_308 84 6 rfl rfl zf_ild_6 (zc_invokevirtual1 xj_308 87 82 201 4 259 9 5 rfl rfl rfl rfl (zc_invokestatic2 xj_308 90 94 205 2 273 0 2 rfl rfl rfl rfl (zc_if_eq xj_308 93 7 97 rfl rfl rfl (zc_iconst xj_308 94 1 1 rfl rfl rfl (zc_goto xj_308 95 4 98 rfl rfl rfl (trivial))))))))))))))))))))))))))))))))))))))))))))))))))))))))))))
noncomputable def xm_308 : Lean.RArray (zE → zKn) := .branch 97 (.leaf xf_308_0) (.branch 98 (.leaf xf_308_1) (.leaf xf_308_2))
theorem xa_308 : zCdAll 308 [0, 97, 98] xm_308 := zAll2_ok (P := fun t => ∃ c, zCd 308 [0, 97, 98] t c ∧ xm_308.get t = zEx c) ⟨⟨_, xc_308_0, xe_308_0⟩, ⟨_, xc_308_1, xe_308_1⟩, ⟨_, xc_308_2, xe_308_2⟩, trivial⟩
/-- SquareMeshModel.cut -/
theorem xj_309 : ∀ pc, pI 309 pc = pJ_309 pc := fun _ => rfl
noncomputable def xb_309_8 : List zF := [zq_ildg zG5, zq_iret 0]
noncomputable def xf_309_8 : zE → zKn := fun E => zq_ildg zG5 (zq_iret 0 (zNil) E) E
theorem xe_309_8 : xf_309_8 = zEx xb_309_8 := by
  unfold xf_309_8 xb_309_8
  rfl
theorem xc_309_8 : zCd 309 [0, 17, 19, 25, 35, 75, 76, 85, 91] 91 xb_309_8 := zc_iload xj_309 93 5 rfl rfl zf_ild_5 (zc_ireturn0 xj_309 94 rfl rfl (trivial))
noncomputable def xb_309_7 : List zF := [zq_incg zG6 zE6 1, zq_goto 25]
noncomputable def xf_309_7 : zE → zKn := fun E => zq_incg zG6 zE6 1 (zq_goto 25 (zNil) E) E
theorem xe_309_7 : xf_309_7 = zEx xb_309_7 := by
  unfold xf_309_7 xb_309_7
  rfl
theorem xc_309_7 : zCd 309 [0, 17, 19, 25, 35, 75, 76, 85, 91] 85 xb_309_7 := zc_iinc xj_309 88 6 1 1 rfl rfl rfl (zf_inc_6 _) (zc_goto xj_309 89 (-63) 25 rfl rfl rfl (trivial))
noncomputable def xb_309_6 : List zF := [zq_add, zq_istg zE5, zq_incg zG7 zE7 1, zq_goto 35]
noncomputable def xf_309_6 : zE → zKn := fun E => zq_add (zq_istg zE5 (zq_incg zG7 zE7 1 (zq_goto 35 (zNil) E) E) E) E
theorem xe_309_6 : xf_309_6 = zEx xb_309_6 := by
  unfold xf_309_6 xb_309_6
  rfl
theorem xc_309_6 : zCd 309 [0, 17, 19, 25, 35, 75, 76, 85, 91] 76 xb_309_6 := zc_iadd xj_309 77 rfl rfl (zc_istore xj_309 79 5 rfl rfl zf_ist_5 (zc_iinc xj_309 82 7 1 1 rfl rfl rfl (zf_inc_7 _) (zc_goto xj_309 83 (-47) 35 rfl rfl rfl (trivial))))
noncomputable def xb_309_5 : List zF := zq_k 0 :: xb_309_6
noncomputable def xf_309_5 : zE → zKn := fun E => zq_k 0 (xf_309_6 E) E
theorem xe_309_5 : xf_309_5 = zEx xb_309_5 := by
  unfold xf_309_5 xb_309_5
  rw [xe_309_6]
  rfl
theorem xc_309_5 : zCd 309 [0, 17, 19, 25, 35, 75, 76, 85, 91] 75 xb_309_5 := zc_iconst xj_309 76 0 0 rfl rfl rfl (xc_309_6)
noncomputable def xb_309_4 : List zF := [zq_ildg zG7, zq_ildg zG6, zq_ic_ge 85, zq_ildg zG5, zq_aldg zG0, zq_ildg zG6, zq_ildg zG7, zN2 213 3 zg_213, zq_if_eq 75, zq_aldg zG0, zq_ildg zG6, zq_ildg zG7, zq_ildg zG1, zq_ildg zG2, zq_ildg zG3, zq_ildg zG4, zq_calli 308 6 9 9, zq_if_eq 75, zq_k 1, zq_goto 76]
noncomputable def xf_309_4 : zE → zKn := fun E => zq_ildg zG7 (zq_ildg zG6 (zq_ic_ge 85 (zq_ildg zG5 (zq_aldg zG0 (zq_ildg zG6 (zq_ildg zG7 (zN2 213 3 zg_213 (zq_if_eq 75 (zq_aldg zG0 (zq_ildg zG6 (zq_ildg zG7 (zq_ildg zG1 (zq_ildg zG2 (zq_ildg zG3 (zq_ildg zG4 (zq_calli 308 6 9 9 (zq_if_eq 75 (zq_k 1 (zq_goto 76 (zNil) E) E) E) E) E) E) E) E) E) E) E) E) E) E) E) E) E) E) E) E
theorem xe_309_4 : xf_309_4 = zEx xb_309_4 := by
  unfold xf_309_4 xb_309_4
  rfl
theorem xc_309_4 : zCd 309 [0, 17, 19, 25, 35, 75, 76, 85, 91] 35 xb_309_4 := zc_iload xj_309 37 7 rfl rfl zf_ild_7 (zc_iload xj_309 39 6 rfl rfl zf_ild_6 (zc_ic_ge xj_309 42 46 85 rfl rfl rfl (zc_iload xj_309 44 5 rfl rfl zf_ild_5 (zc_aload_n xj_309 45 0 rfl rfl zf_ald_0 (zc_iload xj_309 47 6 rfl rfl zf_ild_6 (zc_iload xj_309 49 7 rfl rfl zf_ild_7 (zc_any xj_309 52 (.invokevirtual 234) [1, 213, 2, 321, 9, 3] rfl rfl (zN2 213 3 zg_213) rfl rfl (zc_if_eq xj_309 55 23 75 rfl rfl rfl (zc_aload_n xj_309 56 0 rfl rfl zf_ald_0 (zc_iload xj_309 58 6 rfl rfl zf_ild_6 (zc_iload xj_309 60 7 rfl rfl zf_ild_7 (zc_iload_n xj_309 61 1 rfl rfl zf_ild_1 (zc_iload_n xj_309 62 2 rfl rfl zf_ild_2 (zc_iload_n xj_309 63 3 rfl rfl zf_ild_3 (zc_iload xj_309 65 4 rfl rfl zf_ild_4 (zc_invokevirtual1 xj_309 68 329 308 6 378 9 9 rfl rfl rfl rfl (zc_if_eq xj_309 71 7 75 rfl rfl rfl (zc_iconst xj_309 72 1 1 rfl rfl rfl (zc_goto xj_309 73 4 76 rfl rfl rfl (trivial))))))))))))))))))))
noncomputable def xb_309_3 : List zF := zq_ildg zG6 :: zq_k 40 :: zq_ic_ge 91 :: zq_k 0 :: zq_istg zE7 :: xb_309_4
noncomputable def xf_309_3 : zE → zKn := fun E => zq_ildg zG6 (zq_k 40 (zq_ic_ge 91 (zq_k 0 (zq_istg zE7 (xf_309_4 E) E) E) E) E) E
theorem xe_309_3 : xf_309_3 = zEx xb_309_3 := by
  unfold xf_309_3 xb_309_3
  rw [xe_309_4]
  rfl
theorem xc_309_3 : zCd 309 [0, 17, 19, 25, 35, 75, 76, 85, 91] 25 xb_309_3 := zc_iload xj_309 27 6 rfl rfl zf_ild_6 (zc_bipush xj_309 29 40 40 rfl rfl rfl (zc_ic_ge xj_309 32 62 91 rfl rfl rfl (zc_iconst xj_309 33 0 0 rfl rfl rfl (zc_istore xj_309 35 7 rfl rfl zf_ist_7 (xc_309_4)))))
noncomputable def xb_309_2 : List zF := zq_k 0 :: zq_istg zE5 :: zq_k 0 :: zq_istg zE6 :: xb_309_3
noncomputable def xf_309_2 : zE → zKn := fun E => zq_k 0 (zq_istg zE5 (zq_k 0 (zq_istg zE6 (xf_309_3 E) E) E) E) E
theorem xe_309_2 : xf_309_2 = zEx xb_309_2 := by
  unfold xf_309_2 xb_309_2
  rw [xe_309_3]
  rfl
theorem xc_309_2 : zCd 309 [0, 17, 19, 25, 35, 75, 76, 85, 91] 19 xb_309_2 := zc_iconst xj_309 20 0 0 rfl rfl rfl (zc_istore xj_309 22 5 rfl rfl zf_ist_5 (zc_iconst xj_309 23 0 0 rfl rfl rfl (zc_istore xj_309 25 6 rfl rfl zf_ist_6 (xc_309_3))))
noncomputable def xb_309_1 : List zF := [zq_k 4294967295, zq_iret 0]
noncomputable def xf_309_1 : zE → zKn := fun E => zq_k 4294967295 (zq_iret 0 (zNil) E) E
theorem xe_309_1 : xf_309_1 = zEx xb_309_1 := by
  unfold xf_309_1 xb_309_1
  rfl
theorem xc_309_1 : zCd 309 [0, 17, 19, 25, 35, 75, 76, 85, 91] 17 xb_309_1 := zc_iconst xj_309 18 (-1) 4294967295 rfl rfl rfl (zc_ireturn0 xj_309 19 rfl rfl (trivial))
noncomputable def xb_309_0 : List zF := zq_ildg zG1 :: zq_ildg zG2 :: zq_calls 189 2 2 :: zq_if_eq 17 :: zq_ildg zG3 :: zq_ildg zG4 :: zq_calls 189 2 2 :: zq_if_ne 19 :: xb_309_1
noncomputable def xf_309_0 : zE → zKn := fun E => zq_ildg zG1 (zq_ildg zG2 (zq_calls 189 2 2 (zq_if_eq 17 (zq_ildg zG3 (zq_ildg zG4 (zq_calls 189 2 2 (zq_if_ne 19 (xf_309_1 E) E) E) E) E) E) E) E) E
theorem xe_309_0 : xf_309_0 = zEx xb_309_0 := by
  unfold xf_309_0 xb_309_0
  rw [xe_309_1]
  rfl
theorem xc_309_0 : zCd 309 [0, 17, 19, 25, 35, 75, 76, 85, 91] 0 xb_309_0 := zc_iload_n xj_309 1 1 rfl rfl zf_ild_1 (zc_iload_n xj_309 2 2 rfl rfl zf_ild_2 (zc_invokestatic2 xj_309 5 159 189 2 284 0 2 rfl rfl rfl rfl (zc_if_eq xj_309 8 12 17 rfl rfl rfl (zc_iload_n xj_309 9 3 rfl rfl zf_ild_3 (zc_iload xj_309 11 4 rfl rfl zf_ild_4 (zc_invokestatic2 xj_309 14 159 189 2 284 0 2 rfl rfl rfl rfl (zc_if_ne xj_309 17 5 19 rfl rfl rfl (xc_309_1))))))))
noncomputable def xm_309 : Lean.RArray (zE → zKn) := .branch 35 (.branch 19 (.branch 17 (.leaf xf_309_0) (.leaf xf_309_1)) (.branch 25 (.leaf xf_309_2) (.leaf xf_309_3))) (.branch 76 (.branch 75 (.leaf xf_309_4) (.leaf xf_309_5)) (.branch 85 (.leaf xf_309_6) (.branch 91 (.leaf xf_309_7) (.leaf xf_309_8))))
theorem xa_309 : zCdAll 309 [0, 17, 19, 25, 35, 75, 76, 85, 91] xm_309 := zAll2_ok (P := fun t => ∃ c, zCd 309 [0, 17, 19, 25, 35, 75, 76, 85, 91] t c ∧ xm_309.get t = zEx c) ⟨⟨_, xc_309_0, xe_309_0⟩, ⟨_, xc_309_1, xe_309_1⟩, ⟨_, xc_309_2, xe_309_2⟩, ⟨_, xc_309_3, xe_309_3⟩, ⟨_, xc_309_4, xe_309_4⟩, ⟨_, xc_309_5, xe_309_5⟩, ⟨_, xc_309_6, xe_309_6⟩, ⟨_, xc_309_7, xe_309_7⟩, ⟨_, xc_309_8, xe_309_8⟩, trivial⟩
/-- SquareMeshModel.nearest -/
theorem xj_310 : ∀ pc, pI 310 pc = pJ_310 pc := fun _ => rfl
noncomputable def xb_310_4 : List zF := [zq_ildg zG3, zq_iret 0]
noncomputable def xf_310_4 : zE → zKn := fun E => zq_ildg zG3 (zq_iret 0 (zNil) E) E
theorem xe_310_4 : xf_310_4 = zEx xb_310_4 := by
  unfold xf_310_4 xb_310_4
  rfl
theorem xc_310_4 : zCd 310 [0, 10, 15, 52, 58] 58 xb_310_4 := zc_iload_n xj_310 59 3 rfl rfl zf_ild_3 (zc_ireturn0 xj_310 60 rfl rfl (trivial))
noncomputable def xb_310_3 : List zF := [zq_incg zG4 zE4 1, zq_goto 15]
noncomputable def xf_310_3 : zE → zKn := fun E => zq_incg zG4 zE4 1 (zq_goto 15 (zNil) E) E
theorem xe_310_3 : xf_310_3 = zEx xb_310_3 := by
  unfold xf_310_3 xb_310_3
  rfl
theorem xc_310_3 : zCd 310 [0, 10, 15, 52, 58] 52 xb_310_3 := zc_iinc xj_310 55 4 1 1 rfl rfl rfl (zf_inc_4 _) (zc_goto xj_310 56 (-40) 15 rfl rfl rfl (trivial))
noncomputable def xb_310_2 : List zF := zq_ildg zG4 :: zq_k 40 :: zq_ic_ge 58 :: zq_aldg zG0 :: zq_ildg zG4 :: zN1 191 2 zg_191 :: zq_if_eq 52 :: zq_aldg zG0 :: zq_ildg zG4 :: zq_ildg zG1 :: zq_ildg zG2 :: zq_calli 311 3 9 4 :: zq_aldg zG0 :: zq_ildg zG3 :: zq_ildg zG1 :: zq_ildg zG2 :: zq_calli 311 3 9 4 :: zq_ic_ge 52 :: zq_ildg zG4 :: zq_istg zE3 :: xb_310_3
noncomputable def xf_310_2 : zE → zKn := fun E => zq_ildg zG4 (zq_k 40 (zq_ic_ge 58 (zq_aldg zG0 (zq_ildg zG4 (zN1 191 2 zg_191 (zq_if_eq 52 (zq_aldg zG0 (zq_ildg zG4 (zq_ildg zG1 (zq_ildg zG2 (zq_calli 311 3 9 4 (zq_aldg zG0 (zq_ildg zG3 (zq_ildg zG1 (zq_ildg zG2 (zq_calli 311 3 9 4 (zq_ic_ge 52 (zq_ildg zG4 (zq_istg zE3 (xf_310_3 E) E) E) E) E) E) E) E) E) E) E) E) E) E) E) E) E) E) E) E) E
theorem xe_310_2 : xf_310_2 = zEx xb_310_2 := by
  unfold xf_310_2 xb_310_2
  rw [xe_310_3]
  rfl
theorem xc_310_2 : zCd 310 [0, 10, 15, 52, 58] 15 xb_310_2 := zc_iload xj_310 17 4 rfl rfl zf_ild_4 (zc_bipush xj_310 19 40 40 rfl rfl rfl (zc_ic_ge xj_310 22 39 58 rfl rfl rfl (zc_aload_n xj_310 23 0 rfl rfl zf_ald_0 (zc_iload xj_310 25 4 rfl rfl zf_ild_4 (zc_any xj_310 28 (.invokevirtual 71) [1, 191, 1, 264, 9, 2] rfl rfl (zN1 191 2 zg_191) rfl rfl (zc_if_eq xj_310 31 24 52 rfl rfl rfl (zc_aload_n xj_310 32 0 rfl rfl zf_ald_0 (zc_iload xj_310 34 4 rfl rfl zf_ild_4 (zc_iload_n xj_310 35 1 rfl rfl zf_ild_1 (zc_iload_n xj_310 36 2 rfl rfl zf_ild_2 (zc_invokevirtual1 xj_310 39 333 311 3 380 9 4 rfl rfl rfl rfl (zc_aload_n xj_310 40 0 rfl rfl zf_ald_0 (zc_iload_n xj_310 41 3 rfl rfl zf_ild_3 (zc_iload_n xj_310 42 1 rfl rfl zf_ild_1 (zc_iload_n xj_310 43 2 rfl rfl zf_ild_2 (zc_invokevirtual1 xj_310 46 333 311 3 380 9 4 rfl rfl rfl rfl (zc_ic_ge xj_310 49 6 52 rfl rfl rfl (zc_iload xj_310 51 4 rfl rfl zf_ild_4 (zc_istore_n xj_310 52 3 rfl rfl zf_ist_3 (xc_310_3))))))))))))))))))))
noncomputable def xb_310_1 : List zF := zq_k 0 :: zq_istg zE3 :: zq_k 1 :: zq_istg zE4 :: xb_310_2
noncomputable def xf_310_1 : zE → zKn := fun E => zq_k 0 (zq_istg zE3 (zq_k 1 (zq_istg zE4 (xf_310_2 E) E) E) E) E
theorem xe_310_1 : xf_310_1 = zEx xb_310_1 := by
  unfold xf_310_1 xb_310_1
  rw [xe_310_2]
  rfl
theorem xc_310_1 : zCd 310 [0, 10, 15, 52, 58] 10 xb_310_1 := zc_iconst xj_310 11 0 0 rfl rfl rfl (zc_istore_n xj_310 12 3 rfl rfl zf_ist_3 (zc_iconst xj_310 13 1 1 rfl rfl rfl (zc_istore xj_310 15 4 rfl rfl zf_ist_4 (xc_310_2))))
noncomputable def xb_310_0 : List zF := [zq_ildg zG1, zq_ildg zG2, zq_calls 189 2 2, zq_if_ne 10, zq_k 4294967295, zq_iret 0]
noncomputable def xf_310_0 : zE → zKn := fun E => zq_ildg zG1 (zq_ildg zG2 (zq_calls 189 2 2 (zq_if_ne 10 (zq_k 4294967295 (zq_iret 0 (zNil) E) E) E) E) E) E
theorem xe_310_0 : xf_310_0 = zEx xb_310_0 := by
  unfold xf_310_0 xb_310_0
  rfl
theorem xc_310_0 : zCd 310 [0, 10, 15, 52, 58] 0 xb_310_0 := zc_iload_n xj_310 1 1 rfl rfl zf_ild_1 (zc_iload_n xj_310 2 2 rfl rfl zf_ild_2 (zc_invokestatic2 xj_310 5 159 189 2 284 0 2 rfl rfl rfl rfl (zc_if_ne xj_310 8 5 10 rfl rfl rfl (zc_iconst xj_310 9 (-1) 4294967295 rfl rfl rfl (zc_ireturn0 xj_310 10 rfl rfl (trivial))))))
noncomputable def xm_310 : Lean.RArray (zE → zKn) := .branch 15 (.branch 10 (.leaf xf_310_0) (.leaf xf_310_1)) (.branch 52 (.leaf xf_310_2) (.branch 58 (.leaf xf_310_3) (.leaf xf_310_4)))
theorem xa_310 : zCdAll 310 [0, 10, 15, 52, 58] xm_310 := zAll2_ok (P := fun t => ∃ c, zCd 310 [0, 10, 15, 52, 58] t c ∧ xm_310.get t = zEx c) ⟨⟨_, xc_310_0, xe_310_0⟩, ⟨_, xc_310_1, xe_310_1⟩, ⟨_, xc_310_2, xe_310_2⟩, ⟨_, xc_310_3, xe_310_3⟩, ⟨_, xc_310_4, xe_310_4⟩, trivial⟩
/-- SquareMeshModel.wayTo -/
theorem xj_311 : ∀ pc, pI 311 pc = pJ_311 pc := fun _ => rfl
noncomputable def xb_311_0 : List zF := [zq_aldg zG0, zq_ildg zG1, zN1 192 2 zg_192, zq_ildg zG2, zq_sub, zq_aldg zG0, zq_ildg zG1, zN1 192 2 zg_192, zq_ildg zG2, zq_sub, zq_mul, zq_aldg zG0, zq_ildg zG1, zN1 193 2 zg_193, zq_ildg zG3, zq_sub, zq_aldg zG0, zq_ildg zG1, zN1 193 2 zg_193, zq_ildg zG3, zq_sub, zq_mul, zq_add, zq_iret 0]
noncomputable def xf_311_0 : zE → zKn := fun E => zq_aldg zG0 (zq_ildg zG1 (zN1 192 2 zg_192 (zq_ildg zG2 (zq_sub (zq_aldg zG0 (zq_ildg zG1 (zN1 192 2 zg_192 (zq_ildg zG2 (zq_sub (zq_mul (zq_aldg zG0 (zq_ildg zG1 (zN1 193 2 zg_193 (zq_ildg zG3 (zq_sub (zq_aldg zG0 (zq_ildg zG1 (zN1 193 2 zg_193 (zq_ildg zG3 (zq_sub (zq_mul (zq_add (zq_iret 0 (zNil) E) E) E) E) E) E) E) E) E) E) E) E) E) E) E) E) E) E) E) E) E) E) E) E
theorem xe_311_0 : xf_311_0 = zEx xb_311_0 := by
  unfold xf_311_0 xb_311_0
  rfl
theorem xc_311_0 : zCd 311 [0] 0 xb_311_0 := zc_aload_n xj_311 1 0 rfl rfl zf_ald_0 (zc_iload_n xj_311 2 1 rfl rfl zf_ild_1 (zc_any xj_311 5 (.invokevirtual 75) [1, 192, 1, 260, 9, 2] rfl rfl (zN1 192 2 zg_192) rfl rfl (zc_iload_n xj_311 6 2 rfl rfl zf_ild_2 (zc_isub xj_311 7 rfl rfl (zc_aload_n xj_311 8 0 rfl rfl zf_ald_0 (zc_iload_n xj_311 9 1 rfl rfl zf_ild_1 (zc_any xj_311 12 (.invokevirtual 75) [1, 192, 1, 260, 9, 2] rfl rfl (zN1 192 2 zg_192) rfl rfl (zc_iload_n xj_311 13 2 rfl rfl zf_ild_2 (zc_isub xj_311 14 rfl rfl (zc_imul xj_311 15 rfl rfl (zc_aload_n xj_311 16 0 rfl rfl zf_ald_0 (zc_iload_n xj_311 17 1 rfl rfl zf_ild_1 (zc_any xj_311 20 (.invokevirtual 79) [1, 193, 1, 261, 9, 2] rfl rfl (zN1 193 2 zg_193) rfl rfl (zc_iload_n xj_311 21 3 rfl rfl zf_ild_3 (zc_isub xj_311 22 rfl rfl (zc_aload_n xj_311 23 0 rfl rfl zf_ald_0 (zc_iload_n xj_311 24 1 rfl rfl zf_ild_1 (zc_any xj_311 27 (.invokevirtual 79) [1, 193, 1, 261, 9, 2] rfl rfl (zN1 193 2 zg_193) rfl rfl (zc_iload_n xj_311 28 3 rfl rfl zf_ild_3 (zc_isub xj_311 29 rfl rfl (zc_imul xj_311 30 rfl rfl (zc_iadd xj_311 31 rfl rfl (zc_ireturn0 xj_311 32 rfl rfl (trivial))))))))))))))))))))))))
noncomputable def xm_311 : Lean.RArray (zE → zKn) := .leaf xf_311_0
theorem xa_311 : zCdAll 311 [0] xm_311 := zAll2_ok (P := fun t => ∃ c, zCd 311 [0] t c ∧ xm_311.get t = zEx c) ⟨⟨_, xc_311_0, xe_311_0⟩, trivial⟩
/-- SquareMeshModel.length -/
theorem xj_312 : ∀ pc, pI 312 pc = pJ_312 pc := fun _ => rfl
noncomputable def xb_312_9 : List zF := [zq_ildg zG2, zq_iret 0]
noncomputable def xf_312_9 : zE → zKn := fun E => zq_ildg zG2 (zq_iret 0 (zNil) E) E
theorem xe_312_9 : xf_312_9 = zEx xb_312_9 := by
  unfold xf_312_9 xb_312_9
  rfl
theorem xc_312_9 : zCd 312 [0, 11, 15, 24, 43, 70, 76, 79, 85, 91] 91 xb_312_9 := zc_iload_n xj_312 92 2 rfl rfl zf_ild_2 (zc_ireturn0 xj_312 93 rfl rfl (trivial))
noncomputable def xb_312_8 : List zF := [zq_incg zG3 zE3 1, zq_goto 15]
noncomputable def xf_312_8 : zE → zKn := fun E => zq_incg zG3 zE3 1 (zq_goto 15 (zNil) E) E
theorem xe_312_8 : xf_312_8 = zEx xb_312_8 := by
  unfold xf_312_8 xb_312_8
  rfl
theorem xc_312_8 : zCd 312 [0, 11, 15, 24, 43, 70, 76, 79, 85, 91] 85 xb_312_8 := zc_iinc xj_312 88 3 1 1 rfl rfl rfl (zf_inc_3 _) (zc_goto xj_312 89 (-73) 15 rfl rfl rfl (trivial))
noncomputable def xb_312_7 : List zF := [zq_incg zG4 zE4 1, zq_goto 24]
noncomputable def xf_312_7 : zE → zKn := fun E => zq_incg zG4 zE4 1 (zq_goto 24 (zNil) E) E
theorem xe_312_7 : xf_312_7 = zEx xb_312_7 := by
  unfold xf_312_7 xb_312_7
  rfl
theorem xc_312_7 : zCd 312 [0, 11, 15, 24, 43, 70, 76, 79, 85, 91] 79 xb_312_7 := zc_iinc xj_312 82 4 1 1 rfl rfl rfl (zf_inc_4 _) (zc_goto xj_312 83 (-58) 24 rfl rfl rfl (trivial))
noncomputable def xb_312_6 : List zF := zq_ildg zG5 :: zq_istg zE2 :: xb_312_7
noncomputable def xf_312_6 : zE → zKn := fun E => zq_ildg zG5 (zq_istg zE2 (xf_312_7 E) E) E
theorem xe_312_6 : xf_312_6 = zEx xb_312_6 := by
  unfold xf_312_6 xb_312_6
  rw [xe_312_7]
  rfl
theorem xc_312_6 : zCd 312 [0, 11, 15, 24, 43, 70, 76, 79, 85, 91] 76 xb_312_6 := zc_iload xj_312 78 5 rfl rfl zf_ild_5 (zc_istore_n xj_312 79 2 rfl rfl zf_ist_2 (xc_312_7))
noncomputable def xb_312_5 : List zF := zq_ildg zG5 :: zq_ildg zG2 :: zq_ic_le 79 :: xb_312_6
noncomputable def xf_312_5 : zE → zKn := fun E => zq_ildg zG5 (zq_ildg zG2 (zq_ic_le 79 (xf_312_6 E) E) E) E
theorem xe_312_5 : xf_312_5 = zEx xb_312_5 := by
  unfold xf_312_5 xb_312_5
  rw [xe_312_6]
  rfl
theorem xc_312_5 : zCd 312 [0, 11, 15, 24, 43, 70, 76, 79, 85, 91] 70 xb_312_5 := zc_iload xj_312 72 5 rfl rfl zf_ild_5 (zc_iload_n xj_312 73 2 rfl rfl zf_ild_2 (zc_ic_le xj_312 76 6 79 rfl rfl rfl (xc_312_6)))
noncomputable def xb_312_4 : List zF := [zq_aldg zG0, zq_ildg zG3, zq_ildg zG4, zq_calli 204 2 9 3, zq_istg zE5, zq_ildg zG2, zq_k 4294967295, zq_ic_eq 76, zq_ildg zG1, zq_if_ne 70, zq_ildg zG5, zq_ildg zG2, zq_ic_ge 79, zq_goto 76]
noncomputable def xf_312_4 : zE → zKn := fun E => zq_aldg zG0 (zq_ildg zG3 (zq_ildg zG4 (zq_calli 204 2 9 3 (zq_istg zE5 (zq_ildg zG2 (zq_k 4294967295 (zq_ic_eq 76 (zq_ildg zG1 (zq_if_ne 70 (zq_ildg zG5 (zq_ildg zG2 (zq_ic_ge 79 (zq_goto 76 (zNil) E) E) E) E) E) E) E) E) E) E) E) E) E) E
theorem xe_312_4 : xf_312_4 = zEx xb_312_4 := by
  unfold xf_312_4 xb_312_4
  rfl
theorem xc_312_4 : zCd 312 [0, 11, 15, 24, 43, 70, 76, 79, 85, 91] 43 xb_312_4 := zc_aload_n xj_312 44 0 rfl rfl zf_ald_0 (zc_iload_n xj_312 45 3 rfl rfl zf_ild_3 (zc_iload xj_312 47 4 rfl rfl zf_ild_4 (zc_invokevirtual1 xj_312 50 86 204 2 270 9 3 rfl rfl rfl rfl (zc_istore xj_312 52 5 rfl rfl zf_ist_5 (zc_iload_n xj_312 53 2 rfl rfl zf_ild_2 (zc_iconst xj_312 54 (-1) 4294967295 rfl rfl rfl (zc_ic_eq xj_312 57 22 76 rfl rfl rfl (zc_iload_n xj_312 58 1 rfl rfl zf_ild_1 (zc_if_ne xj_312 61 12 70 rfl rfl rfl (zc_iload xj_312 63 5 rfl rfl zf_ild_5 (zc_iload_n xj_312 64 2 rfl rfl zf_ild_2 (zc_ic_ge xj_312 67 15 79 rfl rfl rfl (zc_goto xj_312 68 9 76 rfl rfl rfl (trivial))))))))))))))
noncomputable def xb_312_3 : List zF := [zq_ildg zG4, zq_ildg zG3, zq_ic_ge 85, zq_aldg zG0, zq_ildg zG3, zq_ildg zG4, zN2 213 3 zg_213, zq_if_ne 43, zq_goto 79]
noncomputable def xf_312_3 : zE → zKn := fun E => zq_ildg zG4 (zq_ildg zG3 (zq_ic_ge 85 (zq_aldg zG0 (zq_ildg zG3 (zq_ildg zG4 (zN2 213 3 zg_213 (zq_if_ne 43 (zq_goto 79 (zNil) E) E) E) E) E) E) E) E) E
theorem xe_312_3 : xf_312_3 = zEx xb_312_3 := by
  unfold xf_312_3 xb_312_3
  rfl
theorem xc_312_3 : zCd 312 [0, 11, 15, 24, 43, 70, 76, 79, 85, 91] 24 xb_312_3 := zc_iload xj_312 26 4 rfl rfl zf_ild_4 (zc_iload_n xj_312 27 3 rfl rfl zf_ild_3 (zc_ic_ge xj_312 30 58 85 rfl rfl rfl (zc_aload_n xj_312 31 0 rfl rfl zf_ald_0 (zc_iload_n xj_312 32 3 rfl rfl zf_ild_3 (zc_iload xj_312 34 4 rfl rfl zf_ild_4 (zc_any xj_312 37 (.invokevirtual 234) [1, 213, 2, 321, 9, 3] rfl rfl (zN2 213 3 zg_213) rfl rfl (zc_if_ne xj_312 40 6 43 rfl rfl rfl (zc_goto xj_312 41 39 79 rfl rfl rfl (trivial)))))))))
noncomputable def xb_312_2 : List zF := zq_ildg zG3 :: zq_k 40 :: zq_ic_ge 91 :: zq_k 0 :: zq_istg zE4 :: xb_312_3
noncomputable def xf_312_2 : zE → zKn := fun E => zq_ildg zG3 (zq_k 40 (zq_ic_ge 91 (zq_k 0 (zq_istg zE4 (xf_312_3 E) E) E) E) E) E
theorem xe_312_2 : xf_312_2 = zEx xb_312_2 := by
  unfold xf_312_2 xb_312_2
  rw [xe_312_3]
  rfl
theorem xc_312_2 : zCd 312 [0, 11, 15, 24, 43, 70, 76, 79, 85, 91] 15 xb_312_2 := zc_iload_n xj_312 16 3 rfl rfl zf_ild_3 (zc_bipush xj_312 18 40 40 rfl rfl rfl (zc_ic_ge xj_312 21 73 91 rfl rfl rfl (zc_iconst xj_312 22 0 0 rfl rfl rfl (zc_istore xj_312 24 4 rfl rfl zf_ist_4 (xc_312_3)))))
noncomputable def xb_312_1 : List zF := zq_k 4294967295 :: zq_istg zE2 :: zq_k 0 :: zq_istg zE3 :: xb_312_2
noncomputable def xf_312_1 : zE → zKn := fun E => zq_k 4294967295 (zq_istg zE2 (zq_k 0 (zq_istg zE3 (xf_312_2 E) E) E) E) E
theorem xe_312_1 : xf_312_1 = zEx xb_312_1 := by
  unfold xf_312_1 xb_312_1
  rw [xe_312_2]
  rfl
theorem xc_312_1 : zCd 312 [0, 11, 15, 24, 43, 70, 76, 79, 85, 91] 11 xb_312_1 := zc_iconst xj_312 12 (-1) 4294967295 rfl rfl rfl (zc_istore_n xj_312 13 2 rfl rfl zf_ist_2 (zc_iconst xj_312 14 0 0 rfl rfl rfl (zc_istore_n xj_312 15 3 rfl rfl zf_ist_3 (xc_312_2))))
noncomputable def xb_312_0 : List zF := [zq_ildg zG1, zq_k 0, zq_k 1, zq_calls 188 3 3, zq_if_ne 11, zq_k 4294967295, zq_iret 0]
noncomputable def xf_312_0 : zE → zKn := fun E => zq_ildg zG1 (zq_k 0 (zq_k 1 (zq_calls 188 3 3 (zq_if_ne 11 (zq_k 4294967295 (zq_iret 0 (zNil) E) E) E) E) E) E) E
theorem xe_312_0 : xf_312_0 = zEx xb_312_0 := by
  unfold xf_312_0 xb_312_0
  rfl
theorem xc_312_0 : zCd 312 [0, 11, 15, 24, 43, 70, 76, 79, 85, 91] 0 xb_312_0 := zc_iload_n xj_312 1 1 rfl rfl zf_ild_1 (zc_iconst xj_312 2 0 0 rfl rfl rfl (zc_iconst xj_312 3 1 1 rfl rfl rfl (zc_invokestatic2 xj_312 6 67 188 3 265 0 3 rfl rfl rfl rfl (zc_if_ne xj_312 9 5 11 rfl rfl rfl (zc_iconst xj_312 10 (-1) 4294967295 rfl rfl rfl (zc_ireturn0 xj_312 11 rfl rfl (trivial)))))))
noncomputable def xm_312 : Lean.RArray (zE → zKn) := .branch 70 (.branch 15 (.branch 11 (.leaf xf_312_0) (.leaf xf_312_1)) (.branch 24 (.leaf xf_312_2) (.branch 43 (.leaf xf_312_3) (.leaf xf_312_4)))) (.branch 79 (.branch 76 (.leaf xf_312_5) (.leaf xf_312_6)) (.branch 85 (.leaf xf_312_7) (.branch 91 (.leaf xf_312_8) (.leaf xf_312_9))))
theorem xa_312 : zCdAll 312 [0, 11, 15, 24, 43, 70, 76, 79, 85, 91] xm_312 := zAll2_ok (P := fun t => ∃ c, zCd 312 [0, 11, 15, 24, 43, 70, 76, 79, 85, 91] t c ∧ xm_312.get t = zEx c) ⟨⟨_, xc_312_0, xe_312_0⟩, ⟨_, xc_312_1, xe_312_1⟩, ⟨_, xc_312_2, xe_312_2⟩, ⟨_, xc_312_3, xe_312_3⟩, ⟨_, xc_312_4, xe_312_4⟩, ⟨_, xc_312_5, xe_312_5⟩, ⟨_, xc_312_6, xe_312_6⟩, ⟨_, xc_312_7, xe_312_7⟩, ⟨_, xc_312_8, xe_312_8⟩, ⟨_, xc_312_9, xe_312_9⟩, trivial⟩
/-- SquareMeshModel.busiest -/
theorem xj_313 : ∀ pc, pI 313 pc = pJ_313 pc := fun _ => rfl
noncomputable def xb_313_6 : List zF := [zq_ildg zG2, zq_iret 0]
noncomputable def xf_313_6 : zE → zKn := fun E => zq_ildg zG2 (zq_iret 0 (zNil) E) E
theorem xe_313_6 : xf_313_6 = zEx xb_313_6 := by
  unfold xf_313_6 xb_313_6
  rfl
theorem xc_313_6 : zCd 313 [0, 11, 15, 49, 62, 64, 70] 70 xb_313_6 := zc_iload_n xj_313 71 2 rfl rfl zf_ild_2 (zc_ireturn0 xj_313 72 rfl rfl (trivial))
noncomputable def xb_313_5 : List zF := [zq_incg zG3 zE3 1, zq_goto 15]
noncomputable def xf_313_5 : zE → zKn := fun E => zq_incg zG3 zE3 1 (zq_goto 15 (zNil) E) E
theorem xe_313_5 : xf_313_5 = zEx xb_313_5 := by
  unfold xf_313_5 xb_313_5
  rfl
theorem xc_313_5 : zCd 313 [0, 11, 15, 49, 62, 64, 70] 64 xb_313_5 := zc_iinc xj_313 67 3 1 1 rfl rfl rfl (zf_inc_3 _) (zc_goto xj_313 68 (-52) 15 rfl rfl rfl (trivial))
noncomputable def xb_313_4 : List zF := zq_ildg zG3 :: zq_istg zE2 :: xb_313_5
noncomputable def xf_313_4 : zE → zKn := fun E => zq_ildg zG3 (zq_istg zE2 (xf_313_5 E) E) E
theorem xe_313_4 : xf_313_4 = zEx xb_313_4 := by
  unfold xf_313_4 xb_313_4
  rw [xe_313_5]
  rfl
theorem xc_313_4 : zCd 313 [0, 11, 15, 49, 62, 64, 70] 62 xb_313_4 := zc_iload_n xj_313 63 3 rfl rfl zf_ild_3 (zc_istore_n xj_313 64 2 rfl rfl zf_ist_2 (xc_313_5))
noncomputable def xb_313_3 : List zF := zq_aldg zG0 :: zq_ildg zG3 :: zq_calli 281 1 9 5 :: zq_aldg zG0 :: zq_ildg zG2 :: zq_calli 281 1 9 5 :: zq_ic_ge 64 :: xb_313_4
noncomputable def xf_313_3 : zE → zKn := fun E => zq_aldg zG0 (zq_ildg zG3 (zq_calli 281 1 9 5 (zq_aldg zG0 (zq_ildg zG2 (zq_calli 281 1 9 5 (zq_ic_ge 64 (xf_313_4 E) E) E) E) E) E) E) E
theorem xe_313_3 : xf_313_3 = zEx xb_313_3 := by
  unfold xf_313_3 xb_313_3
  rw [xe_313_4]
  rfl
theorem xc_313_3 : zCd 313 [0, 11, 15, 49, 62, 64, 70] 49 xb_313_3 := zc_aload_n xj_313 50 0 rfl rfl zf_ald_0 (zc_iload_n xj_313 51 3 rfl rfl zf_ild_3 (zc_invokevirtual1 xj_313 54 228 281 1 319 9 5 rfl rfl rfl rfl (zc_aload_n xj_313 55 0 rfl rfl zf_ald_0 (zc_iload_n xj_313 56 2 rfl rfl zf_ild_2 (zc_invokevirtual1 xj_313 59 228 281 1 319 9 5 rfl rfl rfl rfl (zc_ic_ge xj_313 62 5 64 rfl rfl rfl (xc_313_4)))))))
noncomputable def xb_313_2 : List zF := [zq_ildg zG3, zq_k 40, zq_ic_ge 70, zq_aldg zG0, zq_ildg zG3, zN1 191 2 zg_191, zq_if_eq 64, zq_ildg zG1, zq_if_ne 49, zq_aldg zG0, zq_ildg zG3, zq_calli 281 1 9 5, zq_aldg zG0, zq_ildg zG2, zq_calli 281 1 9 5, zq_ic_le 64, zq_goto 62]
noncomputable def xf_313_2 : zE → zKn := fun E => zq_ildg zG3 (zq_k 40 (zq_ic_ge 70 (zq_aldg zG0 (zq_ildg zG3 (zN1 191 2 zg_191 (zq_if_eq 64 (zq_ildg zG1 (zq_if_ne 49 (zq_aldg zG0 (zq_ildg zG3 (zq_calli 281 1 9 5 (zq_aldg zG0 (zq_ildg zG2 (zq_calli 281 1 9 5 (zq_ic_le 64 (zq_goto 62 (zNil) E) E) E) E) E) E) E) E) E) E) E) E) E) E) E) E) E
theorem xe_313_2 : xf_313_2 = zEx xb_313_2 := by
  unfold xf_313_2 xb_313_2
  rfl
theorem xc_313_2 : zCd 313 [0, 11, 15, 49, 62, 64, 70] 15 xb_313_2 := zc_iload_n xj_313 16 3 rfl rfl zf_ild_3 (zc_bipush xj_313 18 40 40 rfl rfl rfl (zc_ic_ge xj_313 21 52 70 rfl rfl rfl (zc_aload_n xj_313 22 0 rfl rfl zf_ald_0 (zc_iload_n xj_313 23 3 rfl rfl zf_ild_3 (zc_any xj_313 26 (.invokevirtual 71) [1, 191, 1, 264, 9, 2] rfl rfl (zN1 191 2 zg_191) rfl rfl (zc_if_eq xj_313 29 38 64 rfl rfl rfl (zc_iload_n xj_313 30 1 rfl rfl zf_ild_1 (zc_if_ne xj_313 33 19 49 rfl rfl rfl (zc_aload_n xj_313 34 0 rfl rfl zf_ald_0 (zc_iload_n xj_313 35 3 rfl rfl zf_ild_3 (zc_invokevirtual1 xj_313 38 228 281 1 319 9 5 rfl rfl rfl rfl (zc_aload_n xj_313 39 0 rfl rfl zf_ald_0 (zc_iload_n xj_313 40 2 rfl rfl zf_ild_2 (zc_invokevirtual1 xj_313 43 228 281 1 319 9 5 rfl rfl rfl rfl (zc_ic_le xj_313 46 21 64 rfl rfl rfl (zc_goto xj_313 47 16 62 rfl rfl rfl (trivial)))))))))))))))))
noncomputable def xb_313_1 : List zF := zq_k 0 :: zq_istg zE2 :: zq_k 1 :: zq_istg zE3 :: xb_313_2
noncomputable def xf_313_1 : zE → zKn := fun E => zq_k 0 (zq_istg zE2 (zq_k 1 (zq_istg zE3 (xf_313_2 E) E) E) E) E
theorem xe_313_1 : xf_313_1 = zEx xb_313_1 := by
  unfold xf_313_1 xb_313_1
  rw [xe_313_2]
  rfl
theorem xc_313_1 : zCd 313 [0, 11, 15, 49, 62, 64, 70] 11 xb_313_1 := zc_iconst xj_313 12 0 0 rfl rfl rfl (zc_istore_n xj_313 13 2 rfl rfl zf_ist_2 (zc_iconst xj_313 14 1 1 rfl rfl rfl (zc_istore_n xj_313 15 3 rfl rfl zf_ist_3 (xc_313_2))))
noncomputable def xb_313_0 : List zF := [zq_ildg zG1, zq_k 0, zq_k 1, zq_calls 188 3 3, zq_if_ne 11, zq_k 4294967295, zq_iret 0]
noncomputable def xf_313_0 : zE → zKn := fun E => zq_ildg zG1 (zq_k 0 (zq_k 1 (zq_calls 188 3 3 (zq_if_ne 11 (zq_k 4294967295 (zq_iret 0 (zNil) E) E) E) E) E) E) E
theorem xe_313_0 : xf_313_0 = zEx xb_313_0 := by
  unfold xf_313_0 xb_313_0
  rfl
theorem xc_313_0 : zCd 313 [0, 11, 15, 49, 62, 64, 70] 0 xb_313_0 := zc_iload_n xj_313 1 1 rfl rfl zf_ild_1 (zc_iconst xj_313 2 0 0 rfl rfl rfl (zc_iconst xj_313 3 1 1 rfl rfl rfl (zc_invokestatic2 xj_313 6 67 188 3 265 0 3 rfl rfl rfl rfl (zc_if_ne xj_313 9 5 11 rfl rfl rfl (zc_iconst xj_313 10 (-1) 4294967295 rfl rfl rfl (zc_ireturn0 xj_313 11 rfl rfl (trivial)))))))
noncomputable def xm_313 : Lean.RArray (zE → zKn) := .branch 49 (.branch 11 (.leaf xf_313_0) (.branch 15 (.leaf xf_313_1) (.leaf xf_313_2))) (.branch 64 (.branch 62 (.leaf xf_313_3) (.leaf xf_313_4)) (.branch 70 (.leaf xf_313_5) (.leaf xf_313_6)))
theorem xa_313 : zCdAll 313 [0, 11, 15, 49, 62, 64, 70] xm_313 := zAll2_ok (P := fun t => ∃ c, zCd 313 [0, 11, 15, 49, 62, 64, 70] t c ∧ xm_313.get t = zEx c) ⟨⟨_, xc_313_0, xe_313_0⟩, ⟨_, xc_313_1, xe_313_1⟩, ⟨_, xc_313_2, xe_313_2⟩, ⟨_, xc_313_3, xe_313_3⟩, ⟨_, xc_313_4, xe_313_4⟩, ⟨_, xc_313_5, xe_313_5⟩, ⟨_, xc_313_6, xe_313_6⟩, trivial⟩
/-- SquareMeshModel.takeEdge -/
theorem xj_314 : ∀ pc, pI 314 pc = pJ_314 pc := fun _ => rfl
noncomputable def xb_314_10 : List zF := [zq_k 1, zq_iret 1]
noncomputable def xf_314_10 : zE → zKn := fun E => zq_k 1 (zq_iret 1 (zNil) E) E
theorem xe_314_10 : xf_314_10 = zEx xb_314_10 := by
  unfold xf_314_10 xb_314_10
  rfl
theorem xc_314_10 : zCd 314 [0, 7, 17, 79, 89, 95, 101, 111, 123, 154, 160] 160 xb_314_10 := zc_iconst xj_314 161 1 1 rfl rfl rfl (zc_ireturn1 xj_314 162 rfl rfl (trivial))
noncomputable def xb_314_9 : List zF := [zq_incg zG2 zE2 1, zq_goto 123]
noncomputable def xf_314_9 : zE → zKn := fun E => zq_incg zG2 zE2 1 (zq_goto 123 (zNil) E) E
theorem xe_314_9 : xf_314_9 = zEx xb_314_9 := by
  unfold xf_314_9 xb_314_9
  rfl
theorem xc_314_9 : zCd 314 [0, 7, 17, 79, 89, 95, 101, 111, 123, 154, 160] 154 xb_314_9 := zc_iinc xj_314 157 2 1 1 rfl rfl rfl (zf_inc_2 _) (zc_goto xj_314 158 (-34) 123 rfl rfl rfl (trivial))
noncomputable def xb_314_8 : List zF := zq_ildg zG2 :: zq_k 40 :: zq_ic_ge 160 :: zq_aldg zG0 :: zq_getfg 9 zG12 :: zq_ildg zG2 :: zq_ild_ 0 :: zq_ildg zG1 :: zq_ic_ne 154 :: zq_aldg zG0 :: zq_getfg 9 zG12 :: zq_ildg zG2 :: zq_aldg zG0 :: zq_getfg 9 zG12 :: zq_aldg zG0 :: zq_getfg 9 zG13 :: zq_ild_ 0 :: zq_iast :: xb_314_9
noncomputable def xf_314_8 : zE → zKn := fun E => zq_ildg zG2 (zq_k 40 (zq_ic_ge 160 (zq_aldg zG0 (zq_getfg 9 zG12 (zq_ildg zG2 (zq_ild_ 0 (zq_ildg zG1 (zq_ic_ne 154 (zq_aldg zG0 (zq_getfg 9 zG12 (zq_ildg zG2 (zq_aldg zG0 (zq_getfg 9 zG12 (zq_aldg zG0 (zq_getfg 9 zG13 (zq_ild_ 0 (zq_iast (xf_314_9 E) E) E) E) E) E) E) E) E) E) E) E) E) E) E) E) E) E) E
theorem xe_314_8 : xf_314_8 = zEx xb_314_8 := by
  unfold xf_314_8 xb_314_8
  rw [xe_314_9]
  rfl
theorem xc_314_8 : zCd 314 [0, 7, 17, 79, 89, 95, 101, 111, 123, 154, 160] 123 xb_314_8 := zc_iload_n xj_314 124 2 rfl rfl zf_ild_2 (zc_bipush xj_314 126 40 40 rfl rfl rfl (zc_ic_ge xj_314 129 34 160 rfl rfl rfl (zc_aload_n xj_314 130 0 rfl rfl zf_ald_0 (zc_getf xj_314 133 45 9 12 106 rfl rfl (zf_getf_12 _) (zc_iload_n xj_314 134 2 rfl rfl zf_ild_2 (zc_iaload xj_314 135 rfl rfl (zc_iload_n xj_314 136 1 rfl rfl zf_ild_1 (zc_ic_ne xj_314 139 18 154 rfl rfl rfl (zc_aload_n xj_314 140 0 rfl rfl zf_ald_0 (zc_getf xj_314 143 45 9 12 106 rfl rfl (zf_getf_12 _) (zc_iload_n xj_314 144 2 rfl rfl zf_ild_2 (zc_aload_n xj_314 145 0 rfl rfl zf_ald_0 (zc_getf xj_314 148 45 9 12 106 rfl rfl (zf_getf_12 _) (zc_aload_n xj_314 149 0 rfl rfl zf_ald_0 (zc_getf xj_314 152 336 9 13 107 rfl rfl (zf_getf_13 _) (zc_iaload xj_314 153 rfl rfl (zc_iastore xj_314 154 rfl rfl (xc_314_9))))))))))))))))))
noncomputable def xb_314_7 : List zF := zq_aldg zG0 :: zq_getfg 9 zG12 :: zq_aldg zG0 :: zq_getfg 9 zG14 :: zq_ild_ 0 :: zq_istg zE1 :: zq_k 0 :: zq_istg zE2 :: xb_314_8
noncomputable def xf_314_7 : zE → zKn := fun E => zq_aldg zG0 (zq_getfg 9 zG12 (zq_aldg zG0 (zq_getfg 9 zG14 (zq_ild_ 0 (zq_istg zE1 (zq_k 0 (zq_istg zE2 (xf_314_8 E) E) E) E) E) E) E) E) E
theorem xe_314_7 : xf_314_7 = zEx xb_314_7 := by
  unfold xf_314_7 xb_314_7
  rw [xe_314_8]
  rfl
theorem xc_314_7 : zCd 314 [0, 7, 17, 79, 89, 95, 101, 111, 123, 154, 160] 111 xb_314_7 := zc_aload_n xj_314 112 0 rfl rfl zf_ald_0 (zc_getf xj_314 115 45 9 12 106 rfl rfl (zf_getf_12 _) (zc_aload_n xj_314 116 0 rfl rfl zf_ald_0 (zc_getf xj_314 119 339 9 14 108 rfl rfl (zf_getf_14 _) (zc_iaload xj_314 120 rfl rfl (zc_istore_n xj_314 121 1 rfl rfl zf_ist_1 (zc_iconst xj_314 122 0 0 rfl rfl rfl (zc_istore_n xj_314 123 2 rfl rfl zf_ist_2 (xc_314_8))))))))
noncomputable def xb_314_6 : List zF := [zq_aldg zG0, zq_getfg 9 zG13, zq_k 4294967295, zq_ic_ne 111, zq_k 0, zq_iret 1]
noncomputable def xf_314_6 : zE → zKn := fun E => zq_aldg zG0 (zq_getfg 9 zG13 (zq_k 4294967295 (zq_ic_ne 111 (zq_k 0 (zq_iret 1 (zNil) E) E) E) E) E) E
theorem xe_314_6 : xf_314_6 = zEx xb_314_6 := by
  unfold xf_314_6 xb_314_6
  rfl
theorem xc_314_6 : zCd 314 [0, 7, 17, 79, 89, 95, 101, 111, 123, 154, 160] 101 xb_314_6 := zc_aload_n xj_314 102 0 rfl rfl zf_ald_0 (zc_getf xj_314 105 336 9 13 107 rfl rfl (zf_getf_13 _) (zc_iconst xj_314 106 (-1) 4294967295 rfl rfl rfl (zc_ic_ne xj_314 109 5 111 rfl rfl rfl (zc_iconst xj_314 110 0 0 rfl rfl rfl (zc_ireturn1 xj_314 111 rfl rfl (trivial))))))
noncomputable def xb_314_5 : List zF := [zq_incg zG1 zE1 1, zq_goto 7]
noncomputable def xf_314_5 : zE → zKn := fun E => zq_incg zG1 zE1 1 (zq_goto 7 (zNil) E) E
theorem xe_314_5 : xf_314_5 = zEx xb_314_5 := by
  unfold xf_314_5 xb_314_5
  rfl
theorem xc_314_5 : zCd 314 [0, 7, 17, 79, 89, 95, 101, 111, 123, 154, 160] 95 xb_314_5 := zc_iinc xj_314 98 1 1 1 rfl rfl rfl (zf_inc_1 _) (zc_goto xj_314 99 (-91) 7 rfl rfl rfl (trivial))
noncomputable def xb_314_4 : List zF := [zq_incg zG2 zE2 1, zq_goto 17]
noncomputable def xf_314_4 : zE → zKn := fun E => zq_incg zG2 zE2 1 (zq_goto 17 (zNil) E) E
theorem xe_314_4 : xf_314_4 = zEx xb_314_4 := by
  unfold xf_314_4 xb_314_4
  rfl
theorem xc_314_4 : zCd 314 [0, 7, 17, 79, 89, 95, 101, 111, 123, 154, 160] 89 xb_314_4 := zc_iinc xj_314 92 2 1 1 rfl rfl rfl (zf_inc_2 _) (zc_goto xj_314 93 (-75) 17 rfl rfl rfl (trivial))
noncomputable def xb_314_3 : List zF := zq_aldg zG0 :: zq_ildg zG1 :: zq_putf 9 13 0 :: zq_aldg zG0 :: zq_ildg zG2 :: zq_putf 9 14 0 :: xb_314_4
noncomputable def xf_314_3 : zE → zKn := fun E => zq_aldg zG0 (zq_ildg zG1 (zq_putf 9 13 0 (zq_aldg zG0 (zq_ildg zG2 (zq_putf 9 14 0 (xf_314_4 E) E) E) E) E) E) E
theorem xe_314_3 : xf_314_3 = zEx xb_314_3 := by
  unfold xf_314_3 xb_314_3
  rw [xe_314_4]
  rfl
theorem xc_314_3 : zCd 314 [0, 7, 17, 79, 89, 95, 101, 111, 123, 154, 160] 79 xb_314_3 := zc_aload_n xj_314 80 0 rfl rfl zf_ald_0 (zc_iload_n xj_314 81 1 rfl rfl zf_ild_1 (zc_putf xj_314 84 336 9 13 107 0 rfl rfl rfl (zc_aload_n xj_314 85 0 rfl rfl zf_ald_0 (zc_iload_n xj_314 86 2 rfl rfl zf_ild_2 (zc_putf xj_314 89 339 9 14 108 0 rfl rfl rfl (xc_314_4))))))
noncomputable def xb_314_2 : List zF := [zq_ildg zG2, zq_k 40, zq_ic_ge 95, zq_aldg zG0, zq_ildg zG1, zq_ildg zG2, zN2 213 3 zg_213, zq_if_eq 89, zq_aldg zG0, zq_getfg 9 zG12, zq_ildg zG1, zq_ild_ 0, zq_aldg zG0, zq_getfg 9 zG12, zq_ildg zG2, zq_ild_ 0, zq_ic_eq 89, zq_aldg zG0, zq_getfg 9 zG13, zq_k 4294967295, zq_ic_eq 79, zq_aldg zG0, zq_ildg zG1, zq_ildg zG2, zq_calli 204 2 9 3, zq_aldg zG0, zq_aldg zG0, zq_getfg 9 zG13, zq_aldg zG0, zq_getfg 9 zG14, zq_calli 204 2 9 3, zq_ic_lt 79, zq_goto 89]
noncomputable def xf_314_2 : zE → zKn := fun E => zq_ildg zG2 (zq_k 40 (zq_ic_ge 95 (zq_aldg zG0 (zq_ildg zG1 (zq_ildg zG2 (zN2 213 3 zg_213 (zq_if_eq 89 (zq_aldg zG0 (zq_getfg 9 zG12 (zq_ildg zG1 (zq_ild_ 0 (zq_aldg zG0 (zq_getfg 9 zG12 (zq_ildg zG2 (zq_ild_ 0 (zq_ic_eq 89 (zq_aldg zG0 (zq_getfg 9 zG13 (zq_k 4294967295 (zq_ic_eq 79 (zq_aldg zG0 (zq_ildg zG1 (zq_ildg zG2 (zq_calli 204 2 9 3 (zq_aldg zG0 (zq_aldg zG0 (zq_getfg 9 zG13 (zq_aldg zG0 (zq_getfg 9 zG14 (zq_calli 204 2 9 3 (zq_ic_lt 79 (zq_goto 89 (zNil) E) E) E) E) E) E) E) E) E) E) E) E) E) E) E) E) E) E) E) E) E) E) E) E) E) E) E) E) E) E) E) E) E
set_option maxRecDepth 100000 in
theorem xe_314_2 : xf_314_2 = zEx xb_314_2 := by
  unfold xf_314_2 xb_314_2
  rfl
theorem xc_314_2 : zCd 314 [0, 7, 17, 79, 89, 95, 101, 111, 123, 154, 160] 17 xb_314_2 := zc_iload_n xj_314 18 2 rfl rfl zf_ild_2 (zc_bipush xj_314 20 40 40 rfl rfl rfl (zc_ic_ge xj_314 23 75 95 rfl rfl rfl (zc_aload_n xj_314 24 0 rfl rfl zf_ald_0 (zc_iload_n xj_314 25 1 rfl rfl zf_ild_1 (zc_iload_n xj_314 26 2 rfl rfl zf_ild_2 (zc_any xj_314 29 (.invokevirtual 234) [1, 213, 2, 321, 9, 3] rfl rfl (zN2 213 3 zg_213) rfl rfl (zc_if_eq xj_314 32 60 89 rfl rfl rfl (zc_aload_n xj_314 33 0 rfl rfl zf_ald_0 (zc_getf xj_314 36 45 9 12 106 rfl rfl (zf_getf_12 _) (zc_iload_n xj_314 37 1 rfl rfl zf_ild_1 (zc_iaload xj_314 38 rfl rfl (zc_aload_n xj_314 39 0 rfl rfl zf_ald_0 (zc_getf xj_314 42 45 9 12 106 rfl rfl (zf_getf_12 _) (zc_iload_n xj_314 43 2 rfl rfl zf_ild_2 (zc_iaload xj_314 44 rfl rfl (zc_ic_eq xj_314 47 45 89 rfl rfl rfl (zc_aload_n xj_314 48 0 rfl rfl zf_ald_0 (zc_getf xj_314 51 336 9 13 107 rfl rfl (zf_getf_13 _) (zc_iconst xj_314 52 (-1) 4294967295 rfl rfl rfl (zc_ic_eq xj_314 55 27 79 rfl rfl rfl (zc_aload_n xj_314 56 0 rfl rfl zf_ald_0 (zc_iload_n xj_314 57 1 rfl rfl zf_ild_1 (zc_iload_n xj_314 58 2 rfl rfl zf_ild_2 (zc_invokevirtual1 xj_314 61 86 204 2 270 9 3 rfl rfl rfl rfl (zc_aload_n xj_314 62 0 rfl rfl zf_ald_0 (zc_aload_n xj_314 63 0 rfl rfl zf_ald_0 (zc_getf xj_314 66 336 9 13 107 rfl rfl (zf_getf_13 _) (zc_aload_n xj_314 67 0 rfl rfl zf_ald_0 (zc_getf xj_314 70 339 9 14 108 rfl rfl (zf_getf_14 _) (zc_invokevirtual1 xj_314 73 86 204 2 270 9 3 rfl rfl rfl rfl (zc_ic_lt xj_314 76 6 79 rfl rfl rfl (zc_goto xj_314 77 13 89 rfl rfl rfl (trivial)))))))))))))))))))))))))))))))))
noncomputable def xb_314_1 : List zF := zq_ildg zG1 :: zq_k 40 :: zq_ic_ge 101 :: zq_ildg zG1 :: zq_k 1 :: zq_add :: zq_istg zE2 :: xb_314_2
noncomputable def xf_314_1 : zE → zKn := fun E => zq_ildg zG1 (zq_k 40 (zq_ic_ge 101 (zq_ildg zG1 (zq_k 1 (zq_add (zq_istg zE2 (xf_314_2 E) E) E) E) E) E) E) E
theorem xe_314_1 : xf_314_1 = zEx xb_314_1 := by
  unfold xf_314_1 xb_314_1
  rw [xe_314_2]
  rfl
theorem xc_314_1 : zCd 314 [0, 7, 17, 79, 89, 95, 101, 111, 123, 154, 160] 7 xb_314_1 := zc_iload_n xj_314 8 1 rfl rfl zf_ild_1 (zc_bipush xj_314 10 40 40 rfl rfl rfl (zc_ic_ge xj_314 13 91 101 rfl rfl rfl (zc_iload_n xj_314 14 1 rfl rfl zf_ild_1 (zc_iconst xj_314 15 1 1 rfl rfl rfl (zc_iadd xj_314 16 rfl rfl (zc_istore_n xj_314 17 2 rfl rfl zf_ist_2 (xc_314_2)))))))
noncomputable def xb_314_0 : List zF := zq_aldg zG0 :: zq_k 4294967295 :: zq_putf 9 13 0 :: zq_k 0 :: zq_istg zE1 :: xb_314_1
noncomputable def xf_314_0 : zE → zKn := fun E => zq_aldg zG0 (zq_k 4294967295 (zq_putf 9 13 0 (zq_k 0 (zq_istg zE1 (xf_314_1 E) E) E) E) E) E
theorem xe_314_0 : xf_314_0 = zEx xb_314_0 := by
  unfold xf_314_0 xb_314_0
  rw [xe_314_1]
  rfl
theorem xc_314_0 : zCd 314 [0, 7, 17, 79, 89, 95, 101, 111, 123, 154, 160] 0 xb_314_0 := zc_aload_n xj_314 1 0 rfl rfl zf_ald_0 (zc_iconst xj_314 2 (-1) 4294967295 rfl rfl rfl (zc_putf xj_314 5 336 9 13 107 0 rfl rfl rfl (zc_iconst xj_314 6 0 0 rfl rfl rfl (zc_istore_n xj_314 7 1 rfl rfl zf_ist_1 (xc_314_1)))))
noncomputable def xm_314 : Lean.RArray (zE → zKn) := .branch 95 (.branch 17 (.branch 7 (.leaf xf_314_0) (.leaf xf_314_1)) (.branch 79 (.leaf xf_314_2) (.branch 89 (.leaf xf_314_3) (.leaf xf_314_4)))) (.branch 123 (.branch 101 (.leaf xf_314_5) (.branch 111 (.leaf xf_314_6) (.leaf xf_314_7))) (.branch 154 (.leaf xf_314_8) (.branch 160 (.leaf xf_314_9) (.leaf xf_314_10))))
theorem xa_314 : zCdAll 314 [0, 7, 17, 79, 89, 95, 101, 111, 123, 154, 160] xm_314 := zAll2_ok (P := fun t => ∃ c, zCd 314 [0, 7, 17, 79, 89, 95, 101, 111, 123, 154, 160] t c ∧ xm_314.get t = zEx c) ⟨⟨_, xc_314_0, xe_314_0⟩, ⟨_, xc_314_1, xe_314_1⟩, ⟨_, xc_314_2, xe_314_2⟩, ⟨_, xc_314_3, xe_314_3⟩, ⟨_, xc_314_4, xe_314_4⟩, ⟨_, xc_314_5, xe_314_5⟩, ⟨_, xc_314_6, xe_314_6⟩, ⟨_, xc_314_7, xe_314_7⟩, ⟨_, xc_314_8, xe_314_8⟩, ⟨_, xc_314_9, xe_314_9⟩, ⟨_, xc_314_10, xe_314_10⟩, trivial⟩
/-- SquareMeshModel.tree -/
theorem xj_315 : ∀ pc, pI 315 pc = pJ_315 pc := fun _ => rfl
noncomputable def xb_315_14 : List zF := [zq_iret 0]
noncomputable def xf_315_14 : zE → zKn := fun E => zq_iret 0 (zNil) E
theorem xe_315_14 : xf_315_14 = zEx xb_315_14 := by
  unfold xf_315_14 xb_315_14
  rfl
theorem xc_315_14 : zCd 315 [0, 16, 17, 23, 25, 27, 46, 48, 71, 83, 95, 96, 102, 111, 112] 112 xb_315_14 := zc_ireturn0 xj_315 113 rfl rfl (trivial)
noncomputable def xb_315_13 : List zF := zq_k 4294967295 :: xb_315_14
noncomputable def xf_315_13 : zE → zKn := fun E => zq_k 4294967295 (xf_315_14 E) E
theorem xe_315_13 : xf_315_13 = zEx xb_315_13 := by
  unfold xf_315_13 xb_315_13
  rw [xe_315_14]
  rfl
theorem xc_315_13 : zCd 315 [0, 16, 17, 23, 25, 27, 46, 48, 71, 83, 95, 96, 102, 111, 112] 111 xb_315_13 := zc_iconst xj_315 112 (-1) 4294967295 rfl rfl rfl (xc_315_14)
noncomputable def xb_315_12 : List zF := [zq_ildg zG1, zq_k 4294967295, zq_ic_ne 111, zq_ildg zG3, zq_goto 112]
noncomputable def xf_315_12 : zE → zKn := fun E => zq_ildg zG1 (zq_k 4294967295 (zq_ic_ne 111 (zq_ildg zG3 (zq_goto 112 (zNil) E) E) E) E) E
theorem xe_315_12 : xf_315_12 = zEx xb_315_12 := by
  unfold xf_315_12 xb_315_12
  rfl
theorem xc_315_12 : zCd 315 [0, 16, 17, 23, 25, 27, 46, 48, 71, 83, 95, 96, 102, 111, 112] 102 xb_315_12 := zc_iload_n xj_315 103 1 rfl rfl zf_ild_1 (zc_iconst xj_315 104 (-1) 4294967295 rfl rfl rfl (zc_ic_ne xj_315 107 7 111 rfl rfl rfl (zc_iload_n xj_315 108 3 rfl rfl zf_ild_3 (zc_goto xj_315 109 4 112 rfl rfl rfl (trivial)))))
noncomputable def xb_315_11 : List zF := [zq_incg zG3 zE3 1, zq_goto 48]
noncomputable def xf_315_11 : zE → zKn := fun E => zq_incg zG3 zE3 1 (zq_goto 48 (zNil) E) E
theorem xe_315_11 : xf_315_11 = zEx xb_315_11 := by
  unfold xf_315_11 xb_315_11
  rfl
theorem xc_315_11 : zCd 315 [0, 16, 17, 23, 25, 27, 46, 48, 71, 83, 95, 96, 102, 111, 112] 96 xb_315_11 := zc_iinc xj_315 99 3 1 1 rfl rfl rfl (zf_inc_3 _) (zc_goto xj_315 100 (-51) 48 rfl rfl rfl (trivial))
noncomputable def xb_315_10 : List zF := [zq_iret 0]
noncomputable def xf_315_10 : zE → zKn := fun E => zq_iret 0 (zNil) E
theorem xe_315_10 : xf_315_10 = zEx xb_315_10 := by
  unfold xf_315_10 xb_315_10
  rfl
theorem xc_315_10 : zCd 315 [0, 16, 17, 23, 25, 27, 46, 48, 71, 83, 95, 96, 102, 111, 112] 95 xb_315_10 := zc_ireturn0 xj_315 96 rfl rfl (trivial)
noncomputable def xb_315_9 : List zF := zq_aldg zG0 :: zq_aldg zG0 :: zq_getfg 9 zG13 :: zq_aldg zG0 :: zq_getfg 9 zG14 :: zq_calli 204 2 9 3 :: xb_315_10
noncomputable def xf_315_9 : zE → zKn := fun E => zq_aldg zG0 (zq_aldg zG0 (zq_getfg 9 zG13 (zq_aldg zG0 (zq_getfg 9 zG14 (zq_calli 204 2 9 3 (xf_315_10 E) E) E) E) E) E) E
theorem xe_315_9 : xf_315_9 = zEx xb_315_9 := by
  unfold xf_315_9 xb_315_9
  rw [xe_315_10]
  rfl
theorem xc_315_9 : zCd 315 [0, 16, 17, 23, 25, 27, 46, 48, 71, 83, 95, 96, 102, 111, 112] 83 xb_315_9 := zc_aload_n xj_315 84 0 rfl rfl zf_ald_0 (zc_aload_n xj_315 85 0 rfl rfl zf_ald_0 (zc_getf xj_315 88 336 9 13 107 rfl rfl (zf_getf_13 _) (zc_aload_n xj_315 89 0 rfl rfl zf_ald_0 (zc_getf xj_315 92 339 9 14 108 rfl rfl (zf_getf_14 _) (zc_invokevirtual1 xj_315 95 86 204 2 270 9 3 rfl rfl rfl rfl (xc_315_10))))))
noncomputable def xb_315_8 : List zF := [zq_ildg zG2, zq_k 1, zq_ic_ne 83, zq_aldg zG0, zq_getfg 9 zG14, zq_goto 95]
noncomputable def xf_315_8 : zE → zKn := fun E => zq_ildg zG2 (zq_k 1 (zq_ic_ne 83 (zq_aldg zG0 (zq_getfg 9 zG14 (zq_goto 95 (zNil) E) E) E) E) E) E
theorem xe_315_8 : xf_315_8 = zEx xb_315_8 := by
  unfold xf_315_8 xb_315_8
  rfl
theorem xc_315_8 : zCd 315 [0, 16, 17, 23, 25, 27, 46, 48, 71, 83, 95, 96, 102, 111, 112] 71 xb_315_8 := zc_iload_n xj_315 72 2 rfl rfl zf_ild_2 (zc_iconst xj_315 73 1 1 rfl rfl rfl (zc_ic_ne xj_315 76 10 83 rfl rfl rfl (zc_aload_n xj_315 77 0 rfl rfl zf_ald_0 (zc_getf xj_315 80 339 9 14 108 rfl rfl (zf_getf_14 _) (zc_goto xj_315 81 15 95 rfl rfl rfl (trivial))))))
noncomputable def xb_315_7 : List zF := [zq_aldg zG0, zq_calli 314 0 9 3, zq_if_eq 102, zq_ildg zG3, zq_ildg zG1, zq_ic_ne 96, zq_ildg zG2, zq_if_ne 71, zq_aldg zG0, zq_getfg 9 zG13, zq_goto 95]
noncomputable def xf_315_7 : zE → zKn := fun E => zq_aldg zG0 (zq_calli 314 0 9 3 (zq_if_eq 102 (zq_ildg zG3 (zq_ildg zG1 (zq_ic_ne 96 (zq_ildg zG2 (zq_if_ne 71 (zq_aldg zG0 (zq_getfg 9 zG13 (zq_goto 95 (zNil) E) E) E) E) E) E) E) E) E) E) E
theorem xe_315_7 : xf_315_7 = zEx xb_315_7 := by
  unfold xf_315_7 xb_315_7
  rfl
theorem xc_315_7 : zCd 315 [0, 16, 17, 23, 25, 27, 46, 48, 71, 83, 95, 96, 102, 111, 112] 48 xb_315_7 := zc_aload_n xj_315 49 0 rfl rfl zf_ald_0 (zc_invokevirtual1 xj_315 52 342 314 0 384 9 3 rfl rfl rfl rfl (zc_if_eq xj_315 55 50 102 rfl rfl rfl (zc_iload_n xj_315 56 3 rfl rfl zf_ild_3 (zc_iload_n xj_315 57 1 rfl rfl zf_ild_1 (zc_ic_ne xj_315 60 39 96 rfl rfl rfl (zc_iload_n xj_315 61 2 rfl rfl zf_ild_2 (zc_if_ne xj_315 64 10 71 rfl rfl rfl (zc_aload_n xj_315 65 0 rfl rfl zf_ald_0 (zc_getf xj_315 68 336 9 13 107 rfl rfl (zf_getf_13 _) (zc_goto xj_315 69 27 95 rfl rfl rfl (trivial)))))))))))
noncomputable def xb_315_6 : List zF := zq_k 0 :: zq_istg zE3 :: xb_315_7
noncomputable def xf_315_6 : zE → zKn := fun E => zq_k 0 (zq_istg zE3 (xf_315_7 E) E) E
theorem xe_315_6 : xf_315_6 = zEx xb_315_6 := by
  unfold xf_315_6 xb_315_6
  rw [xe_315_7]
  rfl
theorem xc_315_6 : zCd 315 [0, 16, 17, 23, 25, 27, 46, 48, 71, 83, 95, 96, 102, 111, 112] 46 xb_315_6 := zc_iconst xj_315 47 0 0 rfl rfl rfl (zc_istore_n xj_315 48 3 rfl rfl zf_ist_3 (xc_315_7))
noncomputable def xb_315_5 : List zF := [zq_ildg zG3, zq_k 40, zq_ic_ge 46, zq_aldg zG0, zq_getfg 9 zG12, zq_ildg zG3, zq_ildg zG3, zq_iast, zq_incg zG3 zE3 1, zq_goto 27]
noncomputable def xf_315_5 : zE → zKn := fun E => zq_ildg zG3 (zq_k 40 (zq_ic_ge 46 (zq_aldg zG0 (zq_getfg 9 zG12 (zq_ildg zG3 (zq_ildg zG3 (zq_iast (zq_incg zG3 zE3 1 (zq_goto 27 (zNil) E) E) E) E) E) E) E) E) E) E
theorem xe_315_5 : xf_315_5 = zEx xb_315_5 := by
  unfold xf_315_5 xb_315_5
  rfl
theorem xc_315_5 : zCd 315 [0, 16, 17, 23, 25, 27, 46, 48, 71, 83, 95, 96, 102, 111, 112] 27 xb_315_5 := zc_iload_n xj_315 28 3 rfl rfl zf_ild_3 (zc_bipush xj_315 30 40 40 rfl rfl rfl (zc_ic_ge xj_315 33 16 46 rfl rfl rfl (zc_aload_n xj_315 34 0 rfl rfl zf_ald_0 (zc_getf xj_315 37 45 9 12 106 rfl rfl (zf_getf_12 _) (zc_iload_n xj_315 38 3 rfl rfl zf_ild_3 (zc_iload_n xj_315 39 3 rfl rfl zf_ild_3 (zc_iastore xj_315 40 rfl rfl (zc_iinc xj_315 43 3 1 1 rfl rfl rfl (zf_inc_3 _) (zc_goto xj_315 44 (-16) 27 rfl rfl rfl (trivial))))))))))
noncomputable def xb_315_4 : List zF := zq_k 0 :: zq_istg zE3 :: xb_315_5
noncomputable def xf_315_4 : zE → zKn := fun E => zq_k 0 (zq_istg zE3 (xf_315_5 E) E) E
theorem xe_315_4 : xf_315_4 = zEx xb_315_4 := by
  unfold xf_315_4 xb_315_4
  rw [xe_315_5]
  rfl
theorem xc_315_4 : zCd 315 [0, 16, 17, 23, 25, 27, 46, 48, 71, 83, 95, 96, 102, 111, 112] 25 xb_315_4 := zc_iconst xj_315 26 0 0 rfl rfl rfl (zc_istore_n xj_315 27 3 rfl rfl zf_ist_3 (xc_315_5))
noncomputable def xb_315_3 : List zF := [zq_k 4294967295, zq_iret 0]
noncomputable def xf_315_3 : zE → zKn := fun E => zq_k 4294967295 (zq_iret 0 (zNil) E) E
theorem xe_315_3 : xf_315_3 = zEx xb_315_3 := by
  unfold xf_315_3 xb_315_3
  rfl
theorem xc_315_3 : zCd 315 [0, 16, 17, 23, 25, 27, 46, 48, 71, 83, 95, 96, 102, 111, 112] 23 xb_315_3 := zc_iconst xj_315 24 (-1) 4294967295 rfl rfl rfl (zc_ireturn0 xj_315 25 rfl rfl (trivial))
noncomputable def xb_315_2 : List zF := zq_calls 188 3 3 :: zq_if_ne 25 :: xb_315_3
noncomputable def xf_315_2 : zE → zKn := fun E => zq_calls 188 3 3 (zq_if_ne 25 (xf_315_3 E) E) E
theorem xe_315_2 : xf_315_2 = zEx xb_315_2 := by
  unfold xf_315_2 xb_315_2
  rw [xe_315_3]
  rfl
theorem xc_315_2 : zCd 315 [0, 16, 17, 23, 25, 27, 46, 48, 71, 83, 95, 96, 102, 111, 112] 17 xb_315_2 := zc_invokestatic2 xj_315 20 67 188 3 265 0 3 rfl rfl rfl rfl (zc_if_ne xj_315 23 5 25 rfl rfl rfl (xc_315_3))
noncomputable def xb_315_1 : List zF := zq_k 2 :: xb_315_2
noncomputable def xf_315_1 : zE → zKn := fun E => zq_k 2 (xf_315_2 E) E
theorem xe_315_1 : xf_315_1 = zEx xb_315_1 := by
  unfold xf_315_1 xb_315_1
  rw [xe_315_2]
  rfl
theorem xc_315_1 : zCd 315 [0, 16, 17, 23, 25, 27, 46, 48, 71, 83, 95, 96, 102, 111, 112] 16 xb_315_1 := zc_iconst xj_315 17 2 2 rfl rfl rfl (xc_315_2)
noncomputable def xb_315_0 : List zF := [zq_ildg zG1, zq_k 4294967295, zq_ic_lt 23, zq_ildg zG2, zq_k 0, zq_ildg zG1, zq_k 4294967295, zq_ic_ne 16, zq_k 0, zq_goto 17]
noncomputable def xf_315_0 : zE → zKn := fun E => zq_ildg zG1 (zq_k 4294967295 (zq_ic_lt 23 (zq_ildg zG2 (zq_k 0 (zq_ildg zG1 (zq_k 4294967295 (zq_ic_ne 16 (zq_k 0 (zq_goto 17 (zNil) E) E) E) E) E) E) E) E) E) E
theorem xe_315_0 : xf_315_0 = zEx xb_315_0 := by
  unfold xf_315_0 xb_315_0
  rfl
theorem xc_315_0 : zCd 315 [0, 16, 17, 23, 25, 27, 46, 48, 71, 83, 95, 96, 102, 111, 112] 0 xb_315_0 := zc_iload_n xj_315 1 1 rfl rfl zf_ild_1 (zc_iconst xj_315 2 (-1) 4294967295 rfl rfl rfl (zc_ic_lt xj_315 5 21 23 rfl rfl rfl (zc_iload_n xj_315 6 2 rfl rfl zf_ild_2 (zc_iconst xj_315 7 0 0 rfl rfl rfl (zc_iload_n xj_315 8 1 rfl rfl zf_ild_1 (zc_iconst xj_315 9 (-1) 4294967295 rfl rfl rfl (zc_ic_ne xj_315 12 7 16 rfl rfl rfl (zc_iconst xj_315 13 0 0 rfl rfl rfl (zc_goto xj_315 14 4 17 rfl rfl rfl (trivial))))))))))
noncomputable def xm_315 : Lean.RArray (zE → zKn) := .branch 48 (.branch 23 (.branch 16 (.leaf xf_315_0) (.branch 17 (.leaf xf_315_1) (.leaf xf_315_2))) (.branch 27 (.branch 25 (.leaf xf_315_3) (.leaf xf_315_4)) (.branch 46 (.leaf xf_315_5) (.leaf xf_315_6)))) (.branch 96 (.branch 83 (.branch 71 (.leaf xf_315_7) (.leaf xf_315_8)) (.branch 95 (.leaf xf_315_9) (.leaf xf_315_10))) (.branch 111 (.branch 102 (.leaf xf_315_11) (.leaf xf_315_12)) (.branch 112 (.leaf xf_315_13) (.leaf xf_315_14))))
theorem xa_315 : zCdAll 315 [0, 16, 17, 23, 25, 27, 46, 48, 71, 83, 95, 96, 102, 111, 112] xm_315 := zAll2_ok (P := fun t => ∃ c, zCd 315 [0, 16, 17, 23, 25, 27, 46, 48, 71, 83, 95, 96, 102, 111, 112] t c ∧ xm_315.get t = zEx c) ⟨⟨_, xc_315_0, xe_315_0⟩, ⟨_, xc_315_1, xe_315_1⟩, ⟨_, xc_315_2, xe_315_2⟩, ⟨_, xc_315_3, xe_315_3⟩, ⟨_, xc_315_4, xe_315_4⟩, ⟨_, xc_315_5, xe_315_5⟩, ⟨_, xc_315_6, xe_315_6⟩, ⟨_, xc_315_7, xe_315_7⟩, ⟨_, xc_315_8, xe_315_8⟩, ⟨_, xc_315_9, xe_315_9⟩, ⟨_, xc_315_10, xe_315_10⟩, ⟨_, xc_315_11, xe_315_11⟩, ⟨_, xc_315_12, xe_315_12⟩, ⟨_, xc_315_13, xe_315_13⟩, ⟨_, xc_315_14, xe_315_14⟩, trivial⟩
/-- SquareMeshModel.way -/
theorem xj_316 : ∀ pc, pI 316 pc = pJ_316 pc := fun _ => rfl
noncomputable def xb_316_9 : List zF := [zq_ildg zG4, zq_iret 0]
noncomputable def xf_316_9 : zE → zKn := fun E => zq_ildg zG4 (zq_iret 0 (zNil) E) E
theorem xe_316_9 : xf_316_9 = zEx xb_316_9 := by
  unfold xf_316_9 xb_316_9
  rfl
theorem xc_316_9 : zCd 316 [0, 16, 18, 35, 51, 57, 66, 96, 102, 112] 112 xb_316_9 := zc_iload xj_316 114 4 rfl rfl zf_ild_4 (zc_ireturn0 xj_316 115 rfl rfl (trivial))
noncomputable def xb_316_8 : List zF := [zq_ildg zG6, zq_istg zE4, zq_incg zG5 zE5 1, zq_goto 57]
noncomputable def xf_316_8 : zE → zKn := fun E => zq_ildg zG6 (zq_istg zE4 (zq_incg zG5 zE5 1 (zq_goto 57 (zNil) E) E) E) E
theorem xe_316_8 : xf_316_8 = zEx xb_316_8 := by
  unfold xf_316_8 xb_316_8
  rfl
theorem xc_316_8 : zCd 316 [0, 16, 18, 35, 51, 57, 66, 96, 102, 112] 102 xb_316_8 := zc_iload xj_316 104 6 rfl rfl zf_ild_6 (zc_istore xj_316 106 4 rfl rfl zf_ist_4 (zc_iinc xj_316 109 5 1 1 rfl rfl rfl (zf_inc_5 _) (zc_goto xj_316 110 (-52) 57 rfl rfl rfl (trivial))))
noncomputable def xb_316_7 : List zF := [zq_incg zG6 zE6 1, zq_goto 66]
noncomputable def xf_316_7 : zE → zKn := fun E => zq_incg zG6 zE6 1 (zq_goto 66 (zNil) E) E
theorem xe_316_7 : xf_316_7 = zEx xb_316_7 := by
  unfold xf_316_7 xb_316_7
  rfl
theorem xc_316_7 : zCd 316 [0, 16, 18, 35, 51, 57, 66, 96, 102, 112] 96 xb_316_7 := zc_iinc xj_316 99 6 1 1 rfl rfl rfl (zf_inc_6 _) (zc_goto xj_316 100 (-33) 66 rfl rfl rfl (trivial))
noncomputable def xb_316_6 : List zF := zq_aldg zG0 :: zq_ildg zG4 :: zq_ildg zG6 :: zN2 213 3 zg_213 :: zq_if_eq 96 :: zq_aldg zG0 :: zq_getfg 9 zG8 :: zq_ildg zG6 :: zq_ild_ 0 :: zq_aldg zG0 :: zq_getfg 9 zG8 :: zq_ildg zG4 :: zq_ild_ 0 :: zq_k 1 :: zq_sub :: zq_ic_eq 102 :: xb_316_7
noncomputable def xf_316_6 : zE → zKn := fun E => zq_aldg zG0 (zq_ildg zG4 (zq_ildg zG6 (zN2 213 3 zg_213 (zq_if_eq 96 (zq_aldg zG0 (zq_getfg 9 zG8 (zq_ildg zG6 (zq_ild_ 0 (zq_aldg zG0 (zq_getfg 9 zG8 (zq_ildg zG4 (zq_ild_ 0 (zq_k 1 (zq_sub (zq_ic_eq 102 (xf_316_7 E) E) E) E) E) E) E) E) E) E) E) E) E) E) E) E) E
theorem xe_316_6 : xf_316_6 = zEx xb_316_6 := by
  unfold xf_316_6 xb_316_6
  rw [xe_316_7]
  rfl
theorem xc_316_6 : zCd 316 [0, 16, 18, 35, 51, 57, 66, 96, 102, 112] 66 xb_316_6 := zc_aload_n xj_316 67 0 rfl rfl zf_ald_0 (zc_iload xj_316 69 4 rfl rfl zf_ild_4 (zc_iload xj_316 71 6 rfl rfl zf_ild_6 (zc_any xj_316 74 (.invokevirtual 234) [1, 213, 2, 321, 9, 3] rfl rfl (zN2 213 3 zg_213) rfl rfl (zc_if_eq xj_316 77 22 96 rfl rfl rfl (zc_aload_n xj_316 78 0 rfl rfl zf_ald_0 (zc_getf xj_316 81 33 9 8 102 rfl rfl (zf_getf_8 _) (zc_iload xj_316 83 6 rfl rfl zf_ild_6 (zc_iaload xj_316 84 rfl rfl (zc_aload_n xj_316 85 0 rfl rfl zf_ald_0 (zc_getf xj_316 88 33 9 8 102 rfl rfl (zf_getf_8 _) (zc_iload xj_316 90 4 rfl rfl zf_ild_4 (zc_iaload xj_316 91 rfl rfl (zc_iconst xj_316 92 1 1 rfl rfl rfl (zc_isub xj_316 93 rfl rfl (zc_ic_eq xj_316 96 9 102 rfl rfl rfl (xc_316_7))))))))))))))))
noncomputable def xb_316_5 : List zF := zq_ildg zG5 :: zq_ildg zG3 :: zq_ic_ge 112 :: zq_k 0 :: zq_istg zE6 :: xb_316_6
noncomputable def xf_316_5 : zE → zKn := fun E => zq_ildg zG5 (zq_ildg zG3 (zq_ic_ge 112 (zq_k 0 (zq_istg zE6 (xf_316_6 E) E) E) E) E) E
theorem xe_316_5 : xf_316_5 = zEx xb_316_5 := by
  unfold xf_316_5 xb_316_5
  rw [xe_316_6]
  rfl
theorem xc_316_5 : zCd 316 [0, 16, 18, 35, 51, 57, 66, 96, 102, 112] 57 xb_316_5 := zc_iload xj_316 59 5 rfl rfl zf_ild_5 (zc_iload_n xj_316 60 3 rfl rfl zf_ild_3 (zc_ic_ge xj_316 63 52 112 rfl rfl rfl (zc_iconst xj_316 64 0 0 rfl rfl rfl (zc_istore xj_316 66 6 rfl rfl zf_ist_6 (xc_316_6)))))
noncomputable def xb_316_4 : List zF := zq_ildg zG1 :: zq_istg zE4 :: zq_k 0 :: zq_istg zE5 :: xb_316_5
noncomputable def xf_316_4 : zE → zKn := fun E => zq_ildg zG1 (zq_istg zE4 (zq_k 0 (zq_istg zE5 (xf_316_5 E) E) E) E) E
theorem xe_316_4 : xf_316_4 = zEx xb_316_4 := by
  unfold xf_316_4 xb_316_4
  rw [xe_316_5]
  rfl
theorem xc_316_4 : zCd 316 [0, 16, 18, 35, 51, 57, 66, 96, 102, 112] 51 xb_316_4 := zc_iload_n xj_316 52 1 rfl rfl zf_ild_1 (zc_istore xj_316 54 4 rfl rfl zf_ist_4 (zc_iconst xj_316 55 0 0 rfl rfl rfl (zc_istore xj_316 57 5 rfl rfl zf_ist_5 (xc_316_5))))
noncomputable def xb_316_3 : List zF := [zq_ildg zG3, zq_k 0, zq_aldg zG0, zq_getfg 9 zG8, zq_ildg zG1, zq_ild_ 0, zq_calls 188 3 3, zq_if_ne 51, zq_k 4294967295, zq_iret 0]
noncomputable def xf_316_3 : zE → zKn := fun E => zq_ildg zG3 (zq_k 0 (zq_aldg zG0 (zq_getfg 9 zG8 (zq_ildg zG1 (zq_ild_ 0 (zq_calls 188 3 3 (zq_if_ne 51 (zq_k 4294967295 (zq_iret 0 (zNil) E) E) E) E) E) E) E) E) E) E
theorem xe_316_3 : xf_316_3 = zEx xb_316_3 := by
  unfold xf_316_3 xb_316_3
  rfl
theorem xc_316_3 : zCd 316 [0, 16, 18, 35, 51, 57, 66, 96, 102, 112] 35 xb_316_3 := zc_iload_n xj_316 36 3 rfl rfl zf_ild_3 (zc_iconst xj_316 37 0 0 rfl rfl rfl (zc_aload_n xj_316 38 0 rfl rfl zf_ald_0 (zc_getf xj_316 41 33 9 8 102 rfl rfl (zf_getf_8 _) (zc_iload_n xj_316 42 1 rfl rfl zf_ild_1 (zc_iaload xj_316 43 rfl rfl (zc_invokestatic2 xj_316 46 67 188 3 265 0 3 rfl rfl rfl rfl (zc_if_ne xj_316 49 5 51 rfl rfl rfl (zc_iconst xj_316 50 (-1) 4294967295 rfl rfl rfl (zc_ireturn0 xj_316 51 rfl rfl (trivial))))))))))
noncomputable def xb_316_2 : List zF := [zq_aldg zG0, zq_ildg zG2, zq_calli 283 1 9 6, zq_ildg zG3, zq_k 4294967295, zq_ic_ne 35, zq_aldg zG0, zq_getfg 9 zG8, zq_ildg zG1, zq_ild_ 0, zq_iret 0]
noncomputable def xf_316_2 : zE → zKn := fun E => zq_aldg zG0 (zq_ildg zG2 (zq_calli 283 1 9 6 (zq_ildg zG3 (zq_k 4294967295 (zq_ic_ne 35 (zq_aldg zG0 (zq_getfg 9 zG8 (zq_ildg zG1 (zq_ild_ 0 (zq_iret 0 (zNil) E) E) E) E) E) E) E) E) E) E) E
theorem xe_316_2 : xf_316_2 = zEx xb_316_2 := by
  unfold xf_316_2 xb_316_2
  rfl
theorem xc_316_2 : zCd 316 [0, 16, 18, 35, 51, 57, 66, 96, 102, 112] 18 xb_316_2 := zc_aload_n xj_316 19 0 rfl rfl zf_ald_0 (zc_iload_n xj_316 20 2 rfl rfl zf_ild_2 (zc_invokevirtual1 xj_316 23 293 283 1 360 9 6 rfl rfl rfl rfl (zc_iload_n xj_316 24 3 rfl rfl zf_ild_3 (zc_iconst xj_316 25 (-1) 4294967295 rfl rfl rfl (zc_ic_ne xj_316 28 10 35 rfl rfl rfl (zc_aload_n xj_316 29 0 rfl rfl zf_ald_0 (zc_getf xj_316 32 33 9 8 102 rfl rfl (zf_getf_8 _) (zc_iload_n xj_316 33 1 rfl rfl zf_ild_1 (zc_iaload xj_316 34 rfl rfl (zc_ireturn0 xj_316 35 rfl rfl (trivial)))))))))))
noncomputable def xb_316_1 : List zF := [zq_k 4294967295, zq_iret 0]
noncomputable def xf_316_1 : zE → zKn := fun E => zq_k 4294967295 (zq_iret 0 (zNil) E) E
theorem xe_316_1 : xf_316_1 = zEx xb_316_1 := by
  unfold xf_316_1 xb_316_1
  rfl
theorem xc_316_1 : zCd 316 [0, 16, 18, 35, 51, 57, 66, 96, 102, 112] 16 xb_316_1 := zc_iconst xj_316 17 (-1) 4294967295 rfl rfl rfl (zc_ireturn0 xj_316 18 rfl rfl (trivial))
noncomputable def xb_316_0 : List zF := zq_aldg zG0 :: zq_ildg zG1 :: zN1 191 2 zg_191 :: zq_if_eq 16 :: zq_aldg zG0 :: zq_ildg zG2 :: zN1 191 2 zg_191 :: zq_if_ne 18 :: xb_316_1
noncomputable def xf_316_0 : zE → zKn := fun E => zq_aldg zG0 (zq_ildg zG1 (zN1 191 2 zg_191 (zq_if_eq 16 (zq_aldg zG0 (zq_ildg zG2 (zN1 191 2 zg_191 (zq_if_ne 18 (xf_316_1 E) E) E) E) E) E) E) E) E
theorem xe_316_0 : xf_316_0 = zEx xb_316_0 := by
  unfold xf_316_0 xb_316_0
  rw [xe_316_1]
  rfl
theorem xc_316_0 : zCd 316 [0, 16, 18, 35, 51, 57, 66, 96, 102, 112] 0 xb_316_0 := zc_aload_n xj_316 1 0 rfl rfl zf_ald_0 (zc_iload_n xj_316 2 1 rfl rfl zf_ild_1 (zc_any xj_316 5 (.invokevirtual 71) [1, 191, 1, 264, 9, 2] rfl rfl (zN1 191 2 zg_191) rfl rfl (zc_if_eq xj_316 8 11 16 rfl rfl rfl (zc_aload_n xj_316 9 0 rfl rfl zf_ald_0 (zc_iload_n xj_316 10 2 rfl rfl zf_ild_2 (zc_any xj_316 13 (.invokevirtual 71) [1, 191, 1, 264, 9, 2] rfl rfl (zN1 191 2 zg_191) rfl rfl (zc_if_ne xj_316 16 5 18 rfl rfl rfl (xc_316_1))))))))
noncomputable def xm_316 : Lean.RArray (zE → zKn) := .branch 57 (.branch 18 (.branch 16 (.leaf xf_316_0) (.leaf xf_316_1)) (.branch 35 (.leaf xf_316_2) (.branch 51 (.leaf xf_316_3) (.leaf xf_316_4)))) (.branch 96 (.branch 66 (.leaf xf_316_5) (.leaf xf_316_6)) (.branch 102 (.leaf xf_316_7) (.branch 112 (.leaf xf_316_8) (.leaf xf_316_9))))
theorem xa_316 : zCdAll 316 [0, 16, 18, 35, 51, 57, 66, 96, 102, 112] xm_316 := zAll2_ok (P := fun t => ∃ c, zCd 316 [0, 16, 18, 35, 51, 57, 66, 96, 102, 112] t c ∧ xm_316.get t = zEx c) ⟨⟨_, xc_316_0, xe_316_0⟩, ⟨_, xc_316_1, xe_316_1⟩, ⟨_, xc_316_2, xe_316_2⟩, ⟨_, xc_316_3, xe_316_3⟩, ⟨_, xc_316_4, xe_316_4⟩, ⟨_, xc_316_5, xe_316_5⟩, ⟨_, xc_316_6, xe_316_6⟩, ⟨_, xc_316_7, xe_316_7⟩, ⟨_, xc_316_8, xe_316_8⟩, ⟨_, xc_316_9, xe_316_9⟩, trivial⟩
/-- SquareMeshModel.thirdOf -/
theorem xj_317 : ∀ pc, pI 317 pc = pJ_317 pc := fun _ => rfl
noncomputable def xb_317_3 : List zF := [zq_aldg zG0, zq_ildg zG1, zq_ildg zG4, zq_calli 247 2 9 3, zq_iret 0]
noncomputable def xf_317_3 : zE → zKn := fun E => zq_aldg zG0 (zq_ildg zG1 (zq_ildg zG4 (zq_calli 247 2 9 3 (zq_iret 0 (zNil) E) E) E) E) E
theorem xe_317_3 : xf_317_3 = zEx xb_317_3 := by
  unfold xf_317_3 xb_317_3
  rfl
theorem xc_317_3 : zCd 317 [0, 3, 25, 31] 31 xb_317_3 := zc_aload_n xj_317 32 0 rfl rfl zf_ald_0 (zc_iload_n xj_317 33 1 rfl rfl zf_ild_1 (zc_iload xj_317 35 4 rfl rfl zf_ild_4 (zc_invokevirtual1 xj_317 38 206 247 2 313 9 3 rfl rfl rfl rfl (zc_ireturn0 xj_317 39 rfl rfl (trivial)))))
noncomputable def xb_317_2 : List zF := [zq_incg zG4 zE4 1, zq_goto 3]
noncomputable def xf_317_2 : zE → zKn := fun E => zq_incg zG4 zE4 1 (zq_goto 3 (zNil) E) E
theorem xe_317_2 : xf_317_2 = zEx xb_317_2 := by
  unfold xf_317_2 xb_317_2
  rfl
theorem xc_317_2 : zCd 317 [0, 3, 25, 31] 25 xb_317_2 := zc_iinc xj_317 28 4 1 1 rfl rfl rfl (zf_inc_4 _) (zc_goto xj_317 29 (-25) 3 rfl rfl rfl (trivial))
noncomputable def xb_317_1 : List zF := zq_aldg zG0 :: zq_ildg zG1 :: zq_ildg zG4 :: zq_calli 247 2 9 3 :: zq_ildg zG2 :: zq_ic_eq 25 :: zq_aldg zG0 :: zq_ildg zG1 :: zq_ildg zG4 :: zq_calli 247 2 9 3 :: zq_ildg zG3 :: zq_ic_ne 31 :: xb_317_2
noncomputable def xf_317_1 : zE → zKn := fun E => zq_aldg zG0 (zq_ildg zG1 (zq_ildg zG4 (zq_calli 247 2 9 3 (zq_ildg zG2 (zq_ic_eq 25 (zq_aldg zG0 (zq_ildg zG1 (zq_ildg zG4 (zq_calli 247 2 9 3 (zq_ildg zG3 (zq_ic_ne 31 (xf_317_2 E) E) E) E) E) E) E) E) E) E) E) E) E
theorem xe_317_1 : xf_317_1 = zEx xb_317_1 := by
  unfold xf_317_1 xb_317_1
  rw [xe_317_2]
  rfl
theorem xc_317_1 : zCd 317 [0, 3, 25, 31] 3 xb_317_1 := zc_aload_n xj_317 4 0 rfl rfl zf_ald_0 (zc_iload_n xj_317 5 1 rfl rfl zf_ild_1 (zc_iload xj_317 7 4 rfl rfl zf_ild_4 (zc_invokevirtual1 xj_317 10 206 247 2 313 9 3 rfl rfl rfl rfl (zc_iload_n xj_317 11 2 rfl rfl zf_ild_2 (zc_ic_eq xj_317 14 14 25 rfl rfl rfl (zc_aload_n xj_317 15 0 rfl rfl zf_ald_0 (zc_iload_n xj_317 16 1 rfl rfl zf_ild_1 (zc_iload xj_317 18 4 rfl rfl zf_ild_4 (zc_invokevirtual1 xj_317 21 206 247 2 313 9 3 rfl rfl rfl rfl (zc_iload_n xj_317 22 3 rfl rfl zf_ild_3 (zc_ic_ne xj_317 25 9 31 rfl rfl rfl (xc_317_2))))))))))))
noncomputable def xb_317_0 : List zF := zq_k 0 :: zq_istg zE4 :: xb_317_1
noncomputable def xf_317_0 : zE → zKn := fun E => zq_k 0 (zq_istg zE4 (xf_317_1 E) E) E
theorem xe_317_0 : xf_317_0 = zEx xb_317_0 := by
  unfold xf_317_0 xb_317_0
  rw [xe_317_1]
  rfl
theorem xc_317_0 : zCd 317 [0, 3, 25, 31] 0 xb_317_0 := zc_iconst xj_317 1 0 0 rfl rfl rfl (zc_istore xj_317 3 4 rfl rfl zf_ist_4 (xc_317_1))
noncomputable def xm_317 : Lean.RArray (zE → zKn) := .branch 25 (.branch 3 (.leaf xf_317_0) (.leaf xf_317_1)) (.branch 31 (.leaf xf_317_2) (.leaf xf_317_3))
theorem xa_317 : zCdAll 317 [0, 3, 25, 31] xm_317 := zAll2_ok (P := fun t => ∃ c, zCd 317 [0, 3, 25, 31] t c ∧ xm_317.get t = zEx c) ⟨⟨_, xc_317_0, xe_317_0⟩, ⟨_, xc_317_1, xe_317_1⟩, ⟨_, xc_317_2, xe_317_2⟩, ⟨_, xc_317_3, xe_317_3⟩, trivial⟩
