/-! THE CODE OF EVERY METHOD AS LEAVES, with its proof. By program (wip/tools/mk46.py). -/
/-- SquareMesh$Past.<init> -/
theorem xj_63 : ∀ pc, pI 63 pc = pJ_63 pc := fun _ => rfl
noncomputable def xb_63_0 : List zF := [zq_aldg zG0, zq_call0, zq_aldg zG0, zq_k 7581, zq_newa 0, zq_putf 3 0 2, zq_aldg zG0, zq_k 861, zq_newa 1, zq_putf 3 1 2, zq_vret]
noncomputable def xf_63_0 : zE → zKn := fun E => zq_aldg zG0 (zq_call0 (zq_aldg zG0 (zq_k 7581 (zq_newa 0 (zq_putf 3 0 2 (zq_aldg zG0 (zq_k 861 (zq_newa 1 (zq_putf 3 1 2 (zq_vret (zNil) E) E) E) E) E) E) E) E) E) E) E
theorem xe_63_0 : xf_63_0 = zEx xb_63_0 := by
  unfold xf_63_0 xb_63_0
  rfl
theorem xc_63_0 : zCd 63 [0] 0 xb_63_0 := zc_aload_n xj_63 1 0 rfl rfl zf_ald_0 (zc_invokespecial0 xj_63 4 3 0 0 7 0 0 rfl rfl (zc_aload_n xj_63 5 0 rfl rfl zf_ald_0 (zc_sipush xj_63 8 7581 7581 rfl rfl rfl (zc_any xj_63 10 (.newarray .int) [0] rfl rfl (zq_newa 0) rfl rfl (zc_putf xj_63 13 9 3 0 56 2 rfl rfl rfl (zc_aload_n xj_63 14 0 rfl rfl zf_ald_0 (zc_sipush xj_63 17 861 861 rfl rfl rfl (zc_any xj_63 19 (.newarray .long) [1] rfl rfl (zq_newa 1) rfl rfl (zc_putf xj_63 22 15 3 1 57 2 rfl rfl rfl (zc_return_ xj_63 23 rfl rfl (trivial)))))))))))
noncomputable def xm_63 : Lean.RArray (zE → zKn) := .leaf xf_63_0
theorem xa_63 : zCdAll 63 [0] xm_63 := zAll2_ok (P := fun t => ∃ c, zCd 63 [0] t c ∧ xm_63.get t = zEx c) ⟨⟨_, xc_63_0, xe_63_0⟩, trivial⟩
/-- SquareMesh$Past.push -/
theorem xj_64 : ∀ pc, pI 64 pc = pJ_64 pc := fun _ => rfl
noncomputable def xb_64_1 : List zF := [zq_aldg zG0, zq_aldg zG1, zq_calli 67 1 3 3, zq_aldg zG0, zq_dup, zq_getfg 3 zG2, zq_k 1, zq_add, zq_putf 3 2 0, zq_vret]
noncomputable def xf_64_1 : zE → zKn := fun E => zq_aldg zG0 (zq_aldg zG1 (zq_calli 67 1 3 3 (zq_aldg zG0 (zq_dup (zq_getfg 3 zG2 (zq_k 1 (zq_add (zq_putf 3 2 0 (zq_vret (zNil) E) E) E) E) E) E) E) E) E) E
theorem xe_64_1 : xf_64_1 = zEx xb_64_1 := by
  unfold xf_64_1 xb_64_1
  rfl
theorem xc_64_1 : zCd 64 [0, 13] 13 xb_64_1 := zc_aload_n xj_64 14 0 rfl rfl zf_ald_0 (zc_aload_n xj_64 15 1 rfl rfl zf_ald_1 (zc_invokevirtual1 xj_64 18 26 67 1 41 3 3 rfl rfl rfl rfl (zc_aload_n xj_64 19 0 rfl rfl zf_ald_0 (zc_dup xj_64 20 rfl rfl (zc_getf xj_64 23 19 3 2 58 rfl rfl (zf_getf_2 _) (zc_iconst xj_64 24 1 1 rfl rfl rfl (zc_iadd xj_64 25 rfl rfl (zc_putf xj_64 28 19 3 2 58 0 rfl rfl rfl (zc_return_ xj_64 29 rfl rfl (trivial))))))))))
noncomputable def xb_64_0 : List zF := zq_aldg zG0 :: zq_getfg 3 zG2 :: zq_k 20 :: zq_ic_lt 13 :: zq_aldg zG0 :: zq_calli 65 0 3 1 :: xb_64_1
noncomputable def xf_64_0 : zE → zKn := fun E => zq_aldg zG0 (zq_getfg 3 zG2 (zq_k 20 (zq_ic_lt 13 (zq_aldg zG0 (zq_calli 65 0 3 1 (xf_64_1 E) E) E) E) E) E) E
theorem xe_64_0 : xf_64_0 = zEx xb_64_0 := by
  unfold xf_64_0 xb_64_0
  rw [xe_64_1]
  rfl
theorem xc_64_0 : zCd 64 [0, 13] 0 xb_64_0 := zc_aload_n xj_64 1 0 rfl rfl zf_ald_0 (zc_getf xj_64 4 19 3 2 58 rfl rfl (zf_getf_2 _) (zc_bipush xj_64 6 20 20 rfl rfl rfl (zc_ic_lt xj_64 9 7 13 rfl rfl rfl (zc_aload_n xj_64 10 0 rfl rfl zf_ald_0 (zc_invokevirtual1 xj_64 13 23 65 0 40 3 1 rfl rfl rfl rfl (xc_64_1))))))
noncomputable def xm_64 : Lean.RArray (zE → zKn) := .branch 13 (.leaf xf_64_0) (.leaf xf_64_1)
theorem xa_64 : zCdAll 64 [0, 13] xm_64 := zAll2_ok (P := fun t => ∃ c, zCd 64 [0, 13] t c ∧ xm_64.get t = zEx c) ⟨⟨_, xc_64_0, xe_64_0⟩, ⟨_, xc_64_1, xe_64_1⟩, trivial⟩
/-- SquareMesh$Past.forgetOldest -/
theorem xj_65 : ∀ pc, pI 65 pc = pJ_65 pc := fun _ => rfl
noncomputable def xb_65_0 : List zF := [zq_aldg zG0, zq_getfg 3 zG0, zq_k 361, zq_aldg zG0, zq_getfg 3 zG0, zq_k 0, zq_k 6859, zq_copy, zq_aldg zG0, zq_getfg 3 zG1, zq_k 41, zq_aldg zG0, zq_getfg 3 zG1, zq_k 0, zq_k 779, zq_copy, zq_aldg zG0, zq_k 19, zq_putf 3 2 0, zq_vret]
noncomputable def xf_65_0 : zE → zKn := fun E => zq_aldg zG0 (zq_getfg 3 zG0 (zq_k 361 (zq_aldg zG0 (zq_getfg 3 zG0 (zq_k 0 (zq_k 6859 (zq_copy (zq_aldg zG0 (zq_getfg 3 zG1 (zq_k 41 (zq_aldg zG0 (zq_getfg 3 zG1 (zq_k 0 (zq_k 779 (zq_copy (zq_aldg zG0 (zq_k 19 (zq_putf 3 2 0 (zq_vret (zNil) E) E) E) E) E) E) E) E) E) E) E) E) E) E) E) E) E) E) E) E
theorem xe_65_0 : xf_65_0 = zEx xb_65_0 := by
  unfold xf_65_0 xb_65_0
  rfl
theorem xc_65_0 : zCd 65 [0] 0 xb_65_0 := zc_aload_n xj_65 1 0 rfl rfl zf_ald_0 (zc_getf xj_65 4 9 3 0 56 rfl rfl (zf_getf_0 _) (zc_sipush xj_65 7 361 361 rfl rfl rfl (zc_aload_n xj_65 8 0 rfl rfl zf_ald_0 (zc_getf xj_65 11 9 3 0 56 rfl rfl (zf_getf_0 _) (zc_iconst xj_65 12 0 0 rfl rfl rfl (zc_sipush xj_65 15 6859 6859 rfl rfl rfl (zc_invokestatic7 xj_65 18 30 0 5 32 0 0 rfl rfl (zc_aload_n xj_65 19 0 rfl rfl zf_ald_0 (zc_getf xj_65 22 15 3 1 57 rfl rfl (zf_getf_1 _) (zc_bipush xj_65 24 41 41 rfl rfl rfl (zc_aload_n xj_65 25 0 rfl rfl zf_ald_0 (zc_getf xj_65 28 15 3 1 57 rfl rfl (zf_getf_1 _) (zc_iconst xj_65 29 0 0 rfl rfl rfl (zc_sipush xj_65 32 779 779 rfl rfl rfl (zc_invokestatic7 xj_65 35 30 0 5 32 0 0 rfl rfl (zc_aload_n xj_65 36 0 rfl rfl zf_ald_0 (zc_bipush xj_65 38 19 19 rfl rfl rfl (zc_putf xj_65 41 19 3 2 58 0 rfl rfl rfl (zc_return_ xj_65 42 rfl rfl (trivial))))))))))))))))))))
noncomputable def xm_65 : Lean.RArray (zE → zKn) := .leaf xf_65_0
theorem xa_65 : zCdAll 65 [0] xm_65 := zAll2_ok (P := fun t => ∃ c, zCd 65 [0] t c ∧ xm_65.get t = zEx c) ⟨⟨_, xc_65_0, xe_65_0⟩, trivial⟩
/-- SquareMesh$Past.pop -/
theorem xj_66 : ∀ pc, pI 66 pc = pJ_66 pc := fun _ => rfl
noncomputable def xb_66_1 : List zF := [zq_aldg zG0, zq_dup, zq_getfg 3 zG2, zq_k 1, zq_sub, zq_putf 3 2 0, zq_aldg zG0, zq_aldg zG1, zq_calli 68 1 3 3, zq_k 1, zq_iret 1]
noncomputable def xf_66_1 : zE → zKn := fun E => zq_aldg zG0 (zq_dup (zq_getfg 3 zG2 (zq_k 1 (zq_sub (zq_putf 3 2 0 (zq_aldg zG0 (zq_aldg zG1 (zq_calli 68 1 3 3 (zq_k 1 (zq_iret 1 (zNil) E) E) E) E) E) E) E) E) E) E) E
theorem xe_66_1 : xf_66_1 = zEx xb_66_1 := by
  unfold xf_66_1 xb_66_1
  rfl
theorem xc_66_1 : zCd 66 [0, 9] 9 xb_66_1 := zc_aload_n xj_66 10 0 rfl rfl zf_ald_0 (zc_dup xj_66 11 rfl rfl (zc_getf xj_66 14 19 3 2 58 rfl rfl (zf_getf_2 _) (zc_iconst xj_66 15 1 1 rfl rfl rfl (zc_isub xj_66 16 rfl rfl (zc_putf xj_66 19 19 3 2 58 0 rfl rfl rfl (zc_aload_n xj_66 20 0 rfl rfl zf_ald_0 (zc_aload_n xj_66 21 1 rfl rfl zf_ald_1 (zc_invokevirtual1 xj_66 24 36 68 1 117 3 3 rfl rfl rfl rfl (zc_iconst xj_66 25 1 1 rfl rfl rfl (zc_ireturn1 xj_66 26 rfl rfl (trivial)))))))))))
noncomputable def xb_66_0 : List zF := [zq_aldg zG0, zq_getfg 3 zG2, zq_if_gt 9, zq_k 0, zq_iret 1]
noncomputable def xf_66_0 : zE → zKn := fun E => zq_aldg zG0 (zq_getfg 3 zG2 (zq_if_gt 9 (zq_k 0 (zq_iret 1 (zNil) E) E) E) E) E
theorem xe_66_0 : xf_66_0 = zEx xb_66_0 := by
  unfold xf_66_0 xb_66_0
  rfl
theorem xc_66_0 : zCd 66 [0, 9] 0 xb_66_0 := zc_aload_n xj_66 1 0 rfl rfl zf_ald_0 (zc_getf xj_66 4 19 3 2 58 rfl rfl (zf_getf_2 _) (zc_if_gt xj_66 7 5 9 rfl rfl rfl (zc_iconst xj_66 8 0 0 rfl rfl rfl (zc_ireturn1 xj_66 9 rfl rfl (trivial)))))
noncomputable def xm_66 : Lean.RArray (zE → zKn) := .branch 9 (.leaf xf_66_0) (.leaf xf_66_1)
theorem xa_66 : zCdAll 66 [0, 9] xm_66 := zAll2_ok (P := fun t => ∃ c, zCd 66 [0, 9] t c ∧ xm_66.get t = zEx c) ⟨⟨_, xc_66_0, xe_66_0⟩, ⟨_, xc_66_1, xe_66_1⟩, trivial⟩
/-- SquareMesh$Past.keepTop -/
theorem xj_67 : ∀ pc, pI 67 pc = pJ_67 pc := fun _ => rfl
noncomputable def xb_67_0 : List zF := [zq_aldg zG0, zq_getfg 3 zG2, zq_k 361, zq_mul, zq_istg zE2, zq_aldg zG1, zq_getfg 1 zG0, zq_aldg zG0, zq_getfg 3 zG0, zq_ildg zG2, zq_aldg zG0, zq_getfg 3 zG1, zq_aldg zG0, zq_getfg 3 zG2, zq_k 41, zq_mul, zq_calli 80 4 5 5, zq_aldg zG0, zq_getfg 3 zG0, zq_ildg zG2, zq_k 138, zq_add, zq_aldg zG1, zq_getfg 1 zG7, zq_iast, zq_aldg zG1, zq_getfg 1 zG3, zq_k 0, zq_aldg zG0, zq_getfg 3 zG0, zq_ildg zG2, zq_k 139, zq_add, zq_k 222, zq_copy, zq_vret]
noncomputable def xf_67_0 : zE → zKn := fun E => zq_aldg zG0 (zq_getfg 3 zG2 (zq_k 361 (zq_mul (zq_istg zE2 (zq_aldg zG1 (zq_getfg 1 zG0 (zq_aldg zG0 (zq_getfg 3 zG0 (zq_ildg zG2 (zq_aldg zG0 (zq_getfg 3 zG1 (zq_aldg zG0 (zq_getfg 3 zG2 (zq_k 41 (zq_mul (zq_calli 80 4 5 5 (zq_aldg zG0 (zq_getfg 3 zG0 (zq_ildg zG2 (zq_k 138 (zq_add (zq_aldg zG1 (zq_getfg 1 zG7 (zq_iast (zq_aldg zG1 (zq_getfg 1 zG3 (zq_k 0 (zq_aldg zG0 (zq_getfg 3 zG0 (zq_ildg zG2 (zq_k 139 (zq_add (zq_k 222 (zq_copy (zq_vret (zNil) E) E) E) E) E) E) E) E) E) E) E) E) E) E) E) E) E) E) E) E) E) E) E) E) E) E) E) E) E) E) E) E) E) E) E) E
set_option maxRecDepth 100000 in
theorem xe_67_0 : xf_67_0 = zEx xb_67_0 := by
  unfold xf_67_0 xb_67_0
  rfl
theorem xc_67_0 : zCd 67 [0] 0 xb_67_0 := zc_aload_n xj_67 1 0 rfl rfl zf_ald_0 (zc_getf xj_67 4 19 3 2 58 rfl rfl (zf_getf_2 _) (zc_sipush xj_67 7 361 361 rfl rfl rfl (zc_imul xj_67 8 rfl rfl (zc_istore_n xj_67 9 2 rfl rfl zf_ist_2 (zc_aload_n xj_67 10 1 rfl rfl zf_ald_1 (zc_getf xj_67 13 39 1 0 27 rfl rfl (zf_getf_0 _) (zc_aload_n xj_67 14 0 rfl rfl zf_ald_0 (zc_getf xj_67 17 9 3 0 56 rfl rfl (zf_getf_0 _) (zc_iload_n xj_67 18 2 rfl rfl zf_ild_2 (zc_aload_n xj_67 19 0 rfl rfl zf_ald_0 (zc_getf xj_67 22 15 3 1 57 rfl rfl (zf_getf_1 _) (zc_aload_n xj_67 23 0 rfl rfl zf_ald_0 (zc_getf xj_67 26 19 3 2 58 rfl rfl (zf_getf_2 _) (zc_bipush xj_67 28 41 41 rfl rfl rfl (zc_imul xj_67 29 rfl rfl (zc_invokevirtual1 xj_67 32 45 80 4 30 5 5 rfl rfl rfl rfl (zc_aload_n xj_67 33 0 rfl rfl zf_ald_0 (zc_getf xj_67 36 9 3 0 56 rfl rfl (zf_getf_0 _) (zc_iload_n xj_67 37 2 rfl rfl zf_ild_2 (zc_sipush xj_67 40 138 138 rfl rfl rfl (zc_iadd xj_67 41 rfl rfl (zc_aload_n xj_67 42 1 rfl rfl zf_ald_1 (zc_getf xj_67 45 51 1 7 46 rfl rfl (zf_getf_7 _) (zc_iastore xj_67 46 rfl rfl (zc_aload_n xj_67 47 1 rfl rfl zf_ald_1 (zc_getf xj_67 50 54 1 3 34 rfl rfl (zf_getf_3 _) (zc_iconst xj_67 51 0 0 rfl rfl rfl (zc_aload_n xj_67 52 0 rfl rfl zf_ald_0 (zc_getf xj_67 55 9 3 0 56 rfl rfl (zf_getf_0 _) (zc_iload_n xj_67 56 2 rfl rfl zf_ild_2 (zc_sipush xj_67 59 139 139 rfl rfl rfl (zc_iadd xj_67 60 rfl rfl (zc_sipush xj_67 63 222 222 rfl rfl rfl (zc_invokestatic7 xj_67 66 30 0 5 32 0 0 rfl rfl (zc_return_ xj_67 67 rfl rfl (trivial))))))))))))))))))))))))))))))))))))
noncomputable def xm_67 : Lean.RArray (zE → zKn) := .leaf xf_67_0
theorem xa_67 : zCdAll 67 [0] xm_67 := zAll2_ok (P := fun t => ∃ c, zCd 67 [0] t c ∧ xm_67.get t = zEx c) ⟨⟨_, xc_67_0, xe_67_0⟩, trivial⟩
/-- SquareMesh$Past.giveTop -/
theorem xj_68 : ∀ pc, pI 68 pc = pJ_68 pc := fun _ => rfl
noncomputable def xb_68_0 : List zF := [zq_aldg zG0, zq_getfg 3 zG2, zq_k 361, zq_mul, zq_istg zE2, zq_aldg zG1, zq_getfg 1 zG0, zq_aldg zG0, zq_getfg 3 zG0, zq_ildg zG2, zq_aldg zG0, zq_getfg 3 zG1, zq_aldg zG0, zq_getfg 3 zG2, zq_k 41, zq_mul, zq_calli 81 4 5 5, zq_aldg zG1, zq_aldg zG0, zq_getfg 3 zG0, zq_ildg zG2, zq_k 139, zq_add, zq_aldg zG0, zq_getfg 3 zG0, zq_ildg zG2, zq_k 138, zq_add, zq_ild_ 0, zq_calli 7 3 1 6, zq_vret]
noncomputable def xf_68_0 : zE → zKn := fun E => zq_aldg zG0 (zq_getfg 3 zG2 (zq_k 361 (zq_mul (zq_istg zE2 (zq_aldg zG1 (zq_getfg 1 zG0 (zq_aldg zG0 (zq_getfg 3 zG0 (zq_ildg zG2 (zq_aldg zG0 (zq_getfg 3 zG1 (zq_aldg zG0 (zq_getfg 3 zG2 (zq_k 41 (zq_mul (zq_calli 81 4 5 5 (zq_aldg zG1 (zq_aldg zG0 (zq_getfg 3 zG0 (zq_ildg zG2 (zq_k 139 (zq_add (zq_aldg zG0 (zq_getfg 3 zG0 (zq_ildg zG2 (zq_k 138 (zq_add (zq_ild_ 0 (zq_calli 7 3 1 6 (zq_vret (zNil) E) E) E) E) E) E) E) E) E) E) E) E) E) E) E) E) E) E) E) E) E) E) E) E) E) E) E) E) E) E) E
set_option maxRecDepth 100000 in
theorem xe_68_0 : xf_68_0 = zEx xb_68_0 := by
  unfold xf_68_0 xb_68_0
  rfl
theorem xc_68_0 : zCd 68 [0] 0 xb_68_0 := zc_aload_n xj_68 1 0 rfl rfl zf_ald_0 (zc_getf xj_68 4 19 3 2 58 rfl rfl (zf_getf_2 _) (zc_sipush xj_68 7 361 361 rfl rfl rfl (zc_imul xj_68 8 rfl rfl (zc_istore_n xj_68 9 2 rfl rfl zf_ist_2 (zc_aload_n xj_68 10 1 rfl rfl zf_ald_1 (zc_getf xj_68 13 39 1 0 27 rfl rfl (zf_getf_0 _) (zc_aload_n xj_68 14 0 rfl rfl zf_ald_0 (zc_getf xj_68 17 9 3 0 56 rfl rfl (zf_getf_0 _) (zc_iload_n xj_68 18 2 rfl rfl zf_ild_2 (zc_aload_n xj_68 19 0 rfl rfl zf_ald_0 (zc_getf xj_68 22 15 3 1 57 rfl rfl (zf_getf_1 _) (zc_aload_n xj_68 23 0 rfl rfl zf_ald_0 (zc_getf xj_68 26 19 3 2 58 rfl rfl (zf_getf_2 _) (zc_bipush xj_68 28 41 41 rfl rfl rfl (zc_imul xj_68 29 rfl rfl (zc_invokevirtual1 xj_68 32 57 81 4 118 5 5 rfl rfl rfl rfl (zc_aload_n xj_68 33 1 rfl rfl zf_ald_1 (zc_aload_n xj_68 34 0 rfl rfl zf_ald_0 (zc_getf xj_68 37 9 3 0 56 rfl rfl (zf_getf_0 _) (zc_iload_n xj_68 38 2 rfl rfl zf_ild_2 (zc_sipush xj_68 41 139 139 rfl rfl rfl (zc_iadd xj_68 42 rfl rfl (zc_aload_n xj_68 43 0 rfl rfl zf_ald_0 (zc_getf xj_68 46 9 3 0 56 rfl rfl (zf_getf_0 _) (zc_iload_n xj_68 47 2 rfl rfl zf_ild_2 (zc_sipush xj_68 50 138 138 rfl rfl rfl (zc_iadd xj_68 51 rfl rfl (zc_iaload xj_68 52 rfl rfl (zc_invokevirtual1 xj_68 55 60 7 3 119 1 6 rfl rfl rfl rfl (zc_return_ xj_68 56 rfl rfl (trivial)))))))))))))))))))))))))))))))
noncomputable def xm_68 : Lean.RArray (zE → zKn) := .leaf xf_68_0
theorem xa_68 : zCdAll 68 [0] xm_68 := zAll2_ok (P := fun t => ∃ c, zCd 68 [0] t c ∧ xm_68.get t = zEx c) ⟨⟨_, xc_68_0, xe_68_0⟩, trivial⟩
/-- SquareMesh$Past.copyFrom -/
theorem xj_69 : ∀ pc, pI 69 pc = pJ_69 pc := fun _ => rfl
noncomputable def xb_69_0 : List zF := [zq_aldg zG1, zq_getfg 3 zG0, zq_k 0, zq_aldg zG0, zq_getfg 3 zG0, zq_k 0, zq_aldg zG1, zq_getfg 3 zG2, zq_k 361, zq_mul, zq_copy, zq_aldg zG1, zq_getfg 3 zG1, zq_k 0, zq_aldg zG0, zq_getfg 3 zG1, zq_k 0, zq_aldg zG1, zq_getfg 3 zG2, zq_k 41, zq_mul, zq_copy, zq_aldg zG0, zq_aldg zG1, zq_getfg 3 zG2, zq_putf 3 2 0, zq_vret]
noncomputable def xf_69_0 : zE → zKn := fun E => zq_aldg zG1 (zq_getfg 3 zG0 (zq_k 0 (zq_aldg zG0 (zq_getfg 3 zG0 (zq_k 0 (zq_aldg zG1 (zq_getfg 3 zG2 (zq_k 361 (zq_mul (zq_copy (zq_aldg zG1 (zq_getfg 3 zG1 (zq_k 0 (zq_aldg zG0 (zq_getfg 3 zG1 (zq_k 0 (zq_aldg zG1 (zq_getfg 3 zG2 (zq_k 41 (zq_mul (zq_copy (zq_aldg zG0 (zq_aldg zG1 (zq_getfg 3 zG2 (zq_putf 3 2 0 (zq_vret (zNil) E) E) E) E) E) E) E) E) E) E) E) E) E) E) E) E) E) E) E) E) E) E) E) E) E) E) E
theorem xe_69_0 : xf_69_0 = zEx xb_69_0 := by
  unfold xf_69_0 xb_69_0
  rfl
theorem xc_69_0 : zCd 69 [0] 0 xb_69_0 := zc_aload_n xj_69 1 1 rfl rfl zf_ald_1 (zc_getf xj_69 4 9 3 0 56 rfl rfl (zf_getf_0 _) (zc_iconst xj_69 5 0 0 rfl rfl rfl (zc_aload_n xj_69 6 0 rfl rfl zf_ald_0 (zc_getf xj_69 9 9 3 0 56 rfl rfl (zf_getf_0 _) (zc_iconst xj_69 10 0 0 rfl rfl rfl (zc_aload_n xj_69 11 1 rfl rfl zf_ald_1 (zc_getf xj_69 14 19 3 2 58 rfl rfl (zf_getf_2 _) (zc_sipush xj_69 17 361 361 rfl rfl rfl (zc_imul xj_69 18 rfl rfl (zc_invokestatic7 xj_69 21 30 0 5 32 0 0 rfl rfl (zc_aload_n xj_69 22 1 rfl rfl zf_ald_1 (zc_getf xj_69 25 15 3 1 57 rfl rfl (zf_getf_1 _) (zc_iconst xj_69 26 0 0 rfl rfl rfl (zc_aload_n xj_69 27 0 rfl rfl zf_ald_0 (zc_getf xj_69 30 15 3 1 57 rfl rfl (zf_getf_1 _) (zc_iconst xj_69 31 0 0 rfl rfl rfl (zc_aload_n xj_69 32 1 rfl rfl zf_ald_1 (zc_getf xj_69 35 19 3 2 58 rfl rfl (zf_getf_2 _) (zc_bipush xj_69 37 41 41 rfl rfl rfl (zc_imul xj_69 38 rfl rfl (zc_invokestatic7 xj_69 41 30 0 5 32 0 0 rfl rfl (zc_aload_n xj_69 42 0 rfl rfl zf_ald_0 (zc_aload_n xj_69 43 1 rfl rfl zf_ald_1 (zc_getf xj_69 46 19 3 2 58 rfl rfl (zf_getf_2 _) (zc_putf xj_69 49 19 3 2 58 0 rfl rfl rfl (zc_return_ xj_69 50 rfl rfl (trivial)))))))))))))))))))))))))))
noncomputable def xm_69 : Lean.RArray (zE → zKn) := .leaf xf_69_0
theorem xa_69 : zCdAll 69 [0] xm_69 := zAll2_ok (P := fun t => ∃ c, zCd 69 [0] t c ∧ xm_69.get t = zEx c) ⟨⟨_, xc_69_0, xe_69_0⟩, trivial⟩
/-- SquareMesh$Past.topHad -/
theorem xj_70 : ∀ pc, pI 70 pc = pJ_70 pc := fun _ => rfl
noncomputable def xb_70_3 : List zF := [zq_k 0, zq_iret 1]
noncomputable def xf_70_3 : zE → zKn := fun E => zq_k 0 (zq_iret 1 (zNil) E) E
theorem xe_70_3 : xf_70_3 = zEx xb_70_3 := by
  unfold xf_70_3 xb_70_3
  rfl
theorem xc_70_3 : zCd 70 [0, 36, 98, 104] 104 xb_70_3 := zc_iconst xj_70 105 0 0 rfl rfl rfl (zc_ireturn1 xj_70 106 rfl rfl (trivial))
noncomputable def xb_70_2 : List zF := [zq_incg zG6 zE6 1, zq_goto 36]
noncomputable def xf_70_2 : zE → zKn := fun E => zq_incg zG6 zE6 1 (zq_goto 36 (zNil) E) E
theorem xe_70_2 : xf_70_2 = zEx xb_70_2 := by
  unfold xf_70_2 xb_70_2
  rfl
theorem xc_70_2 : zCd 70 [0, 36, 98, 104] 98 xb_70_2 := zc_iinc xj_70 101 6 1 1 rfl rfl rfl (zf_inc_6 _) (zc_goto xj_70 102 (-65) 36 rfl rfl rfl (trivial))
noncomputable def xb_70_1 : List zF := [zq_ildg zG6, zq_ildg zG5, zq_ic_ge 104, zq_ildg zG6, zq_k 74, zq_ic_ge 104, zq_ildg zG4, zq_k 3, zq_ildg zG6, zq_mul, zq_add, zq_istg zE7, zq_aldg zG0, zq_getfg 3 zG0, zq_ildg zG7, zq_ild_ 0, zq_ildg zG1, zq_ic_ne 98, zq_aldg zG0, zq_getfg 3 zG0, zq_ildg zG7, zq_k 1, zq_add, zq_ild_ 0, zq_ildg zG2, zq_ic_ne 98, zq_aldg zG0, zq_getfg 3 zG0, zq_ildg zG7, zq_k 2, zq_add, zq_ild_ 0, zq_ildg zG3, zq_ic_ne 98, zq_k 1, zq_iret 1]
noncomputable def xf_70_1 : zE → zKn := fun E => zq_ildg zG6 (zq_ildg zG5 (zq_ic_ge 104 (zq_ildg zG6 (zq_k 74 (zq_ic_ge 104 (zq_ildg zG4 (zq_k 3 (zq_ildg zG6 (zq_mul (zq_add (zq_istg zE7 (zq_aldg zG0 (zq_getfg 3 zG0 (zq_ildg zG7 (zq_ild_ 0 (zq_ildg zG1 (zq_ic_ne 98 (zq_aldg zG0 (zq_getfg 3 zG0 (zq_ildg zG7 (zq_k 1 (zq_add (zq_ild_ 0 (zq_ildg zG2 (zq_ic_ne 98 (zq_aldg zG0 (zq_getfg 3 zG0 (zq_ildg zG7 (zq_k 2 (zq_add (zq_ild_ 0 (zq_ildg zG3 (zq_ic_ne 98 (zq_k 1 (zq_iret 1 (zNil) E) E) E) E) E) E) E) E) E) E) E) E) E) E) E) E) E) E) E) E) E) E) E) E) E) E) E) E) E) E) E) E) E) E) E) E
set_option maxRecDepth 100000 in
theorem xe_70_1 : xf_70_1 = zEx xb_70_1 := by
  unfold xf_70_1 xb_70_1
  rfl
theorem xc_70_1 : zCd 70 [0, 36, 98, 104] 36 xb_70_1 := zc_iload xj_70 38 6 rfl rfl zf_ild_6 (zc_iload xj_70 40 5 rfl rfl zf_ild_5 (zc_ic_ge xj_70 43 64 104 rfl rfl rfl (zc_iload xj_70 45 6 rfl rfl zf_ild_6 (zc_bipush xj_70 47 74 74 rfl rfl rfl (zc_ic_ge xj_70 50 57 104 rfl rfl rfl (zc_iload xj_70 52 4 rfl rfl zf_ild_4 (zc_iconst xj_70 53 3 3 rfl rfl rfl (zc_iload xj_70 55 6 rfl rfl zf_ild_6 (zc_imul xj_70 56 rfl rfl (zc_iadd xj_70 57 rfl rfl (zc_istore xj_70 59 7 rfl rfl zf_ist_7 (zc_aload_n xj_70 60 0 rfl rfl zf_ald_0 (zc_getf xj_70 63 9 3 0 56 rfl rfl (zf_getf_0 _) (zc_iload xj_70 65 7 rfl rfl zf_ild_7 (zc_iaload xj_70 66 rfl rfl (zc_iload_n xj_70 67 1 rfl rfl zf_ild_1 (zc_ic_ne xj_70 70 31 98 rfl rfl rfl (zc_aload_n xj_70 71 0 rfl rfl zf_ald_0 (zc_getf xj_70 74 9 3 0 56 rfl rfl (zf_getf_0 _) (zc_iload xj_70 76 7 rfl rfl zf_ild_7 (zc_iconst xj_70 77 1 1 rfl rfl rfl (zc_iadd xj_70 78 rfl rfl (zc_iaload xj_70 79 rfl rfl (zc_iload_n xj_70 80 2 rfl rfl zf_ild_2 (zc_ic_ne xj_70 83 18 98 rfl rfl rfl (zc_aload_n xj_70 84 0 rfl rfl zf_ald_0 (zc_getf xj_70 87 9 3 0 56 rfl rfl (zf_getf_0 _) (zc_iload xj_70 89 7 rfl rfl zf_ild_7 (zc_iconst xj_70 90 2 2 rfl rfl rfl (zc_iadd xj_70 91 rfl rfl (zc_iaload xj_70 92 rfl rfl (zc_iload_n xj_70 93 3 rfl rfl zf_ild_3 (zc_ic_ne xj_70 96 5 98 rfl rfl rfl (zc_iconst xj_70 97 1 1 rfl rfl rfl (zc_ireturn1 xj_70 98 rfl rfl (trivial))))))))))))))))))))))))))))))))))))
noncomputable def xb_70_0 : List zF := zq_aldg zG0 :: zq_getfg 3 zG2 :: zq_k 361 :: zq_mul :: zq_k 139 :: zq_add :: zq_istg zE4 :: zq_aldg zG0 :: zq_getfg 3 zG0 :: zq_aldg zG0 :: zq_getfg 3 zG2 :: zq_k 361 :: zq_mul :: zq_k 138 :: zq_add :: zq_ild_ 0 :: zq_istg zE5 :: zq_k 0 :: zq_istg zE6 :: xb_70_1
noncomputable def xf_70_0 : zE → zKn := fun E => zq_aldg zG0 (zq_getfg 3 zG2 (zq_k 361 (zq_mul (zq_k 139 (zq_add (zq_istg zE4 (zq_aldg zG0 (zq_getfg 3 zG0 (zq_aldg zG0 (zq_getfg 3 zG2 (zq_k 361 (zq_mul (zq_k 138 (zq_add (zq_ild_ 0 (zq_istg zE5 (zq_k 0 (zq_istg zE6 (xf_70_1 E) E) E) E) E) E) E) E) E) E) E) E) E) E) E) E) E) E) E) E
theorem xe_70_0 : xf_70_0 = zEx xb_70_0 := by
  unfold xf_70_0 xb_70_0
  rw [xe_70_1]
  rfl
theorem xc_70_0 : zCd 70 [0, 36, 98, 104] 0 xb_70_0 := zc_aload_n xj_70 1 0 rfl rfl zf_ald_0 (zc_getf xj_70 4 19 3 2 58 rfl rfl (zf_getf_2 _) (zc_sipush xj_70 7 361 361 rfl rfl rfl (zc_imul xj_70 8 rfl rfl (zc_sipush xj_70 11 139 139 rfl rfl rfl (zc_iadd xj_70 12 rfl rfl (zc_istore xj_70 14 4 rfl rfl zf_ist_4 (zc_aload_n xj_70 15 0 rfl rfl zf_ald_0 (zc_getf xj_70 18 9 3 0 56 rfl rfl (zf_getf_0 _) (zc_aload_n xj_70 19 0 rfl rfl zf_ald_0 (zc_getf xj_70 22 19 3 2 58 rfl rfl (zf_getf_2 _) (zc_sipush xj_70 25 361 361 rfl rfl rfl (zc_imul xj_70 26 rfl rfl (zc_sipush xj_70 29 138 138 rfl rfl rfl (zc_iadd xj_70 30 rfl rfl (zc_iaload xj_70 31 rfl rfl (zc_istore xj_70 33 5 rfl rfl zf_ist_5 (zc_iconst xj_70 34 0 0 rfl rfl rfl (zc_istore xj_70 36 6 rfl rfl zf_ist_6 (xc_70_1)))))))))))))))))))
noncomputable def xm_70 : Lean.RArray (zE → zKn) := .branch 98 (.branch 36 (.leaf xf_70_0) (.leaf xf_70_1)) (.branch 104 (.leaf xf_70_2) (.leaf xf_70_3))
theorem xa_70 : zCdAll 70 [0, 36, 98, 104] xm_70 := zAll2_ok (P := fun t => ∃ c, zCd 70 [0, 36, 98, 104] t c ∧ xm_70.get t = zEx c) ⟨⟨_, xc_70_0, xe_70_0⟩, ⟨_, xc_70_1, xe_70_1⟩, ⟨_, xc_70_2, xe_70_2⟩, ⟨_, xc_70_3, xe_70_3⟩, trivial⟩
/-- SquareMesh$Regions.<init> -/
theorem xj_71 : ∀ pc, pI 71 pc = pJ_71 pc := fun _ => rfl
noncomputable def xb_71_0 : List zF := [zq_aldg zG0, zq_call0, zq_aldg zG0, zq_k 74, zq_newa 0, zq_putf 4 0 2, zq_aldg zG0, zq_k 74, zq_newa 0, zq_putf 4 1 2, zq_aldg zG0, zq_k 74, zq_newa 0, zq_putf 4 3 2, zq_vret]
noncomputable def xf_71_0 : zE → zKn := fun E => zq_aldg zG0 (zq_call0 (zq_aldg zG0 (zq_k 74 (zq_newa 0 (zq_putf 4 0 2 (zq_aldg zG0 (zq_k 74 (zq_newa 0 (zq_putf 4 1 2 (zq_aldg zG0 (zq_k 74 (zq_newa 0 (zq_putf 4 3 2 (zq_vret (zNil) E) E) E) E) E) E) E) E) E) E) E) E) E) E) E
theorem xe_71_0 : xf_71_0 = zEx xb_71_0 := by
  unfold xf_71_0 xb_71_0
  rfl
theorem xc_71_0 : zCd 71 [0] 0 xb_71_0 := zc_aload_n xj_71 1 0 rfl rfl zf_ald_0 (zc_invokespecial0 xj_71 4 3 0 0 9 0 0 rfl rfl (zc_aload_n xj_71 5 0 rfl rfl zf_ald_0 (zc_bipush xj_71 7 74 74 rfl rfl rfl (zc_any xj_71 9 (.newarray .int) [0] rfl rfl (zq_newa 0) rfl rfl (zc_putf xj_71 12 9 4 0 60 2 rfl rfl rfl (zc_aload_n xj_71 13 0 rfl rfl zf_ald_0 (zc_bipush xj_71 15 74 74 rfl rfl rfl (zc_any xj_71 17 (.newarray .int) [0] rfl rfl (zq_newa 0) rfl rfl (zc_putf xj_71 20 15 4 1 62 2 rfl rfl rfl (zc_aload_n xj_71 21 0 rfl rfl zf_ald_0 (zc_bipush xj_71 23 74 74 rfl rfl rfl (zc_any xj_71 25 (.newarray .int) [0] rfl rfl (zq_newa 0) rfl rfl (zc_putf xj_71 28 18 4 3 66 2 rfl rfl rfl (zc_return_ xj_71 29 rfl rfl (trivial)))))))))))))))
noncomputable def xm_71 : Lean.RArray (zE → zKn) := .leaf xf_71_0
theorem xa_71 : zCdAll 71 [0] xm_71 := zAll2_ok (P := fun t => ∃ c, zCd 71 [0] t c ∧ xm_71.get t = zEx c) ⟨⟨_, xc_71_0, xe_71_0⟩, trivial⟩
/-- SquareMesh$Regions.find -/
theorem xj_72 : ∀ pc, pI 72 pc = pJ_72 pc := fun _ => rfl
noncomputable def xb_72_6 : List zF := [zq_vret]
noncomputable def xf_72_6 : zE → zKn := fun E => zq_vret (zNil) E
theorem xe_72_6 : xf_72_6 = zEx xb_72_6 := by
  unfold xf_72_6 xb_72_6
  rfl
theorem xc_72_6 : zCd 72 [0, 23, 57, 63, 65, 119, 125] 125 xb_72_6 := zc_return_ xj_72 126 rfl rfl (trivial)
noncomputable def xb_72_5 : List zF := [zq_incg zG2 zE2 1, zq_goto 65]
noncomputable def xf_72_5 : zE → zKn := fun E => zq_incg zG2 zE2 1 (zq_goto 65 (zNil) E) E
theorem xe_72_5 : xf_72_5 = zEx xb_72_5 := by
  unfold xf_72_5 xb_72_5
  rfl
theorem xc_72_5 : zCd 72 [0, 23, 57, 63, 65, 119, 125] 119 xb_72_5 := zc_iinc xj_72 122 2 1 1 rfl rfl rfl (zf_inc_2 _) (zc_goto xj_72 123 (-57) 65 rfl rfl rfl (trivial))
noncomputable def xb_72_4 : List zF := zq_ildg zG2 :: zq_aldg zG1 :: zq_getfg 1 zG0 :: zq_getfg 5 zG7 :: zq_ic_ge 125 :: zq_aldg zG1 :: zq_aldg zG1 :: zq_getfg 1 zG0 :: zq_getfg 5 zG4 :: zq_ildg zG2 :: zq_ild_ 0 :: zq_aldg zG1 :: zq_getfg 1 zG0 :: zq_getfg 5 zG5 :: zq_ildg zG2 :: zq_ild_ 0 :: zq_calli 44 2 1 4 :: zq_istg zE3 :: zq_ildg zG3 :: zq_k 4294967295 :: zq_ic_eq 119 :: zq_aldg zG0 :: zq_getfg 4 zG1 :: zq_aldg zG0 :: zq_getfg 4 zG0 :: zq_ildg zG3 :: zq_ild_ 0 :: zq_dup2 :: zq_ild_ 0 :: zq_k 1 :: zq_add :: zq_iast :: xb_72_5
noncomputable def xf_72_4 : zE → zKn := fun E => zq_ildg zG2 (zq_aldg zG1 (zq_getfg 1 zG0 (zq_getfg 5 zG7 (zq_ic_ge 125 (zq_aldg zG1 (zq_aldg zG1 (zq_getfg 1 zG0 (zq_getfg 5 zG4 (zq_ildg zG2 (zq_ild_ 0 (zq_aldg zG1 (zq_getfg 1 zG0 (zq_getfg 5 zG5 (zq_ildg zG2 (zq_ild_ 0 (zq_calli 44 2 1 4 (zq_istg zE3 (zq_ildg zG3 (zq_k 4294967295 (zq_ic_eq 119 (zq_aldg zG0 (zq_getfg 4 zG1 (zq_aldg zG0 (zq_getfg 4 zG0 (zq_ildg zG3 (zq_ild_ 0 (zq_dup2 (zq_ild_ 0 (zq_k 1 (zq_add (zq_iast (xf_72_5 E) E) E) E) E) E) E) E) E) E) E) E) E) E) E) E) E) E) E) E) E) E) E) E) E) E) E) E) E) E) E) E) E
set_option maxRecDepth 100000 in
theorem xe_72_4 : xf_72_4 = zEx xb_72_4 := by
  unfold xf_72_4 xb_72_4
  rw [xe_72_5]
  rfl
theorem xc_72_4 : zCd 72 [0, 23, 57, 63, 65, 119, 125] 65 xb_72_4 := zc_iload_n xj_72 66 2 rfl rfl zf_ild_2 (zc_aload_n xj_72 67 1 rfl rfl zf_ald_1 (zc_getf xj_72 70 40 1 0 26 rfl rfl (zf_getf_0 _) (zc_getf xj_72 73 44 5 7 18 rfl rfl (zf_getf_7 _) (zc_ic_ge xj_72 76 52 125 rfl rfl rfl (zc_aload_n xj_72 77 1 rfl rfl zf_ald_1 (zc_aload_n xj_72 78 1 rfl rfl zf_ald_1 (zc_getf xj_72 81 40 1 0 26 rfl rfl (zf_getf_0 _) (zc_getf xj_72 84 49 5 4 12 rfl rfl (zf_getf_4 _) (zc_iload_n xj_72 85 2 rfl rfl zf_ild_2 (zc_iaload xj_72 86 rfl rfl (zc_aload_n xj_72 87 1 rfl rfl zf_ald_1 (zc_getf xj_72 90 40 1 0 26 rfl rfl (zf_getf_0 _) (zc_getf xj_72 93 52 5 5 15 rfl rfl (zf_getf_5 _) (zc_iload_n xj_72 94 2 rfl rfl zf_ild_2 (zc_iaload xj_72 95 rfl rfl (zc_invokevirtual1 xj_72 98 55 44 2 146 1 4 rfl rfl rfl rfl (zc_istore_n xj_72 99 3 rfl rfl zf_ist_3 (zc_iload_n xj_72 100 3 rfl rfl zf_ild_3 (zc_iconst xj_72 101 (-1) 4294967295 rfl rfl rfl (zc_ic_eq xj_72 104 18 119 rfl rfl rfl (zc_aload_n xj_72 105 0 rfl rfl zf_ald_0 (zc_getf xj_72 108 15 4 1 62 rfl rfl (zf_getf_1 _) (zc_aload_n xj_72 109 0 rfl rfl zf_ald_0 (zc_getf xj_72 112 9 4 0 60 rfl rfl (zf_getf_0 _) (zc_iload_n xj_72 113 3 rfl rfl zf_ild_3 (zc_iaload xj_72 114 rfl rfl (zc_dup2 xj_72 115 rfl rfl (zc_iaload xj_72 116 rfl rfl (zc_iconst xj_72 117 1 1 rfl rfl rfl (zc_iadd xj_72 118 rfl rfl (zc_iastore xj_72 119 rfl rfl (xc_72_5))))))))))))))))))))))))))))))))
noncomputable def xb_72_3 : List zF := zq_k 0 :: zq_istg zE2 :: xb_72_4
noncomputable def xf_72_3 : zE → zKn := fun E => zq_k 0 (zq_istg zE2 (xf_72_4 E) E) E
theorem xe_72_3 : xf_72_3 = zEx xb_72_3 := by
  unfold xf_72_3 xb_72_3
  rw [xe_72_4]
  rfl
theorem xc_72_3 : zCd 72 [0, 23, 57, 63, 65, 119, 125] 63 xb_72_3 := zc_iconst xj_72 64 0 0 rfl rfl rfl (zc_istore_n xj_72 65 2 rfl rfl zf_ist_2 (xc_72_4))
noncomputable def xb_72_2 : List zF := [zq_incg zG2 zE2 1, zq_goto 23]
noncomputable def xf_72_2 : zE → zKn := fun E => zq_incg zG2 zE2 1 (zq_goto 23 (zNil) E) E
theorem xe_72_2 : xf_72_2 = zEx xb_72_2 := by
  unfold xf_72_2 xb_72_2
  rfl
theorem xc_72_2 : zCd 72 [0, 23, 57, 63, 65, 119, 125] 57 xb_72_2 := zc_iinc xj_72 60 2 1 1 rfl rfl rfl (zf_inc_2 _) (zc_goto xj_72 61 (-37) 23 rfl rfl rfl (trivial))
noncomputable def xb_72_1 : List zF := zq_ildg zG2 :: zq_aldg zG1 :: zq_getfg 1 zG7 :: zq_ic_ge 63 :: zq_aldg zG0 :: zq_getfg 4 zG0 :: zq_ildg zG2 :: zq_ild_ 0 :: zq_k 4294967295 :: zq_ic_ne 57 :: zq_aldg zG0 :: zq_aldg zG1 :: zq_ildg zG2 :: zq_calli 73 2 4 8 :: zq_aldg zG0 :: zq_dup :: zq_getfg 4 zG2 :: zq_k 1 :: zq_add :: zq_putf 4 2 0 :: xb_72_2
noncomputable def xf_72_1 : zE → zKn := fun E => zq_ildg zG2 (zq_aldg zG1 (zq_getfg 1 zG7 (zq_ic_ge 63 (zq_aldg zG0 (zq_getfg 4 zG0 (zq_ildg zG2 (zq_ild_ 0 (zq_k 4294967295 (zq_ic_ne 57 (zq_aldg zG0 (zq_aldg zG1 (zq_ildg zG2 (zq_calli 73 2 4 8 (zq_aldg zG0 (zq_dup (zq_getfg 4 zG2 (zq_k 1 (zq_add (zq_putf 4 2 0 (xf_72_2 E) E) E) E) E) E) E) E) E) E) E) E) E) E) E) E) E) E) E) E) E
theorem xe_72_1 : xf_72_1 = zEx xb_72_1 := by
  unfold xf_72_1 xb_72_1
  rw [xe_72_2]
  rfl
theorem xc_72_1 : zCd 72 [0, 23, 57, 63, 65, 119, 125] 23 xb_72_1 := zc_iload_n xj_72 24 2 rfl rfl zf_ild_2 (zc_aload_n xj_72 25 1 rfl rfl zf_ald_1 (zc_getf xj_72 28 31 1 7 44 rfl rfl (zf_getf_7 _) (zc_ic_ge xj_72 31 35 63 rfl rfl rfl (zc_aload_n xj_72 32 0 rfl rfl zf_ald_0 (zc_getf xj_72 35 9 4 0 60 rfl rfl (zf_getf_0 _) (zc_iload_n xj_72 36 2 rfl rfl zf_ild_2 (zc_iaload xj_72 37 rfl rfl (zc_iconst xj_72 38 (-1) 4294967295 rfl rfl rfl (zc_ic_ne xj_72 41 19 57 rfl rfl rfl (zc_aload_n xj_72 42 0 rfl rfl zf_ald_0 (zc_aload_n xj_72 43 1 rfl rfl zf_ald_1 (zc_iload_n xj_72 44 2 rfl rfl zf_ild_2 (zc_invokevirtual1 xj_72 47 36 73 2 143 4 8 rfl rfl rfl rfl (zc_aload_n xj_72 48 0 rfl rfl zf_ald_0 (zc_dup xj_72 49 rfl rfl (zc_getf xj_72 52 21 4 2 64 rfl rfl (zf_getf_2 _) (zc_iconst xj_72 53 1 1 rfl rfl rfl (zc_iadd xj_72 54 rfl rfl (zc_putf xj_72 57 21 4 2 64 0 rfl rfl rfl (xc_72_2))))))))))))))))))))
noncomputable def xb_72_0 : List zF := zq_aldg zG0 :: zq_k 0 :: zq_putf 4 2 0 :: zq_aldg zG0 :: zq_getfg 4 zG0 :: zq_k 4294967295 :: zq_fill :: zq_aldg zG0 :: zq_getfg 4 zG1 :: zq_k 0 :: zq_fill :: zq_k 0 :: zq_istg zE2 :: xb_72_1
noncomputable def xf_72_0 : zE → zKn := fun E => zq_aldg zG0 (zq_k 0 (zq_putf 4 2 0 (zq_aldg zG0 (zq_getfg 4 zG0 (zq_k 4294967295 (zq_fill (zq_aldg zG0 (zq_getfg 4 zG1 (zq_k 0 (zq_fill (zq_k 0 (zq_istg zE2 (xf_72_1 E) E) E) E) E) E) E) E) E) E) E) E) E) E
theorem xe_72_0 : xf_72_0 = zEx xb_72_0 := by
  unfold xf_72_0 xb_72_0
  rw [xe_72_1]
  rfl
theorem xc_72_0 : zCd 72 [0, 23, 57, 63, 65, 119, 125] 0 xb_72_0 := zc_aload_n xj_72 1 0 rfl rfl zf_ald_0 (zc_iconst xj_72 2 0 0 rfl rfl rfl (zc_putf xj_72 5 21 4 2 64 0 rfl rfl rfl (zc_aload_n xj_72 6 0 rfl rfl zf_ald_0 (zc_getf xj_72 9 9 4 0 60 rfl rfl (zf_getf_0 _) (zc_iconst xj_72 10 (-1) 4294967295 rfl rfl rfl (zc_any xj_72 13 (.invokestatic 25) [2, 356, 2, 142, 0, 4] rfl rfl (zq_fill) rfl rfl (zc_aload_n xj_72 14 0 rfl rfl zf_ald_0 (zc_getf xj_72 17 15 4 1 62 rfl rfl (zf_getf_1 _) (zc_iconst xj_72 18 0 0 rfl rfl rfl (zc_any xj_72 21 (.invokestatic 25) [2, 356, 2, 142, 0, 4] rfl rfl (zq_fill) rfl rfl (zc_iconst xj_72 22 0 0 rfl rfl rfl (zc_istore_n xj_72 23 2 rfl rfl zf_ist_2 (xc_72_1)))))))))))))
noncomputable def xm_72 : Lean.RArray (zE → zKn) := .branch 63 (.branch 23 (.leaf xf_72_0) (.branch 57 (.leaf xf_72_1) (.leaf xf_72_2))) (.branch 119 (.branch 65 (.leaf xf_72_3) (.leaf xf_72_4)) (.branch 125 (.leaf xf_72_5) (.leaf xf_72_6)))
theorem xa_72 : zCdAll 72 [0, 23, 57, 63, 65, 119, 125] xm_72 := zAll2_ok (P := fun t => ∃ c, zCd 72 [0, 23, 57, 63, 65, 119, 125] t c ∧ xm_72.get t = zEx c) ⟨⟨_, xc_72_0, xe_72_0⟩, ⟨_, xc_72_1, xe_72_1⟩, ⟨_, xc_72_2, xe_72_2⟩, ⟨_, xc_72_3, xe_72_3⟩, ⟨_, xc_72_4, xe_72_4⟩, ⟨_, xc_72_5, xe_72_5⟩, ⟨_, xc_72_6, xe_72_6⟩, trivial⟩
/-- SquareMesh$Regions.flood -/
theorem xj_73 : ∀ pc, pI 73 pc = pJ_73 pc := fun _ => rfl
noncomputable def xb_73_7 : List zF := [zq_vret]
noncomputable def xf_73_7 : zE → zKn := fun E => zq_vret (zNil) E
theorem xe_73_7 : xf_73_7 = zEx xb_73_7 := by
  unfold xf_73_7 xb_73_7
  rfl
theorem xc_73_7 : zCd 73 [0, 22, 47, 75, 76, 117, 123, 129] 129 xb_73_7 := zc_return_ xj_73 130 rfl rfl (trivial)
noncomputable def xb_73_6 : List zF := [zq_incg zG4 zE4 1, zq_goto 22]
noncomputable def xf_73_6 : zE → zKn := fun E => zq_incg zG4 zE4 1 (zq_goto 22 (zNil) E) E
theorem xe_73_6 : xf_73_6 = zEx xb_73_6 := by
  unfold xf_73_6 xb_73_6
  rfl
theorem xc_73_6 : zCd 73 [0, 22, 47, 75, 76, 117, 123, 129] 123 xb_73_6 := zc_iinc xj_73 126 4 1 1 rfl rfl rfl (zf_inc_4 _) (zc_goto xj_73 127 (-104) 22 rfl rfl rfl (trivial))
noncomputable def xb_73_5 : List zF := [zq_incg zG6 zE6 1, zq_goto 47]
noncomputable def xf_73_5 : zE → zKn := fun E => zq_incg zG6 zE6 1 (zq_goto 47 (zNil) E) E
theorem xe_73_5 : xf_73_5 = zEx xb_73_5 := by
  unfold xf_73_5 xb_73_5
  rfl
theorem xc_73_5 : zCd 73 [0, 22, 47, 75, 76, 117, 123, 129] 117 xb_73_5 := zc_iinc xj_73 120 6 1 1 rfl rfl rfl (zf_inc_6 _) (zc_goto xj_73 121 (-73) 47 rfl rfl rfl (trivial))
noncomputable def xb_73_4 : List zF := zq_istg zE7 :: zq_ildg zG7 :: zq_k 4294967295 :: zq_ic_eq 117 :: zq_aldg zG0 :: zq_getfg 4 zG0 :: zq_ildg zG7 :: zq_ild_ 0 :: zq_k 4294967295 :: zq_ic_ne 117 :: zq_aldg zG0 :: zq_getfg 4 zG0 :: zq_ildg zG7 :: zq_aldg zG0 :: zq_getfg 4 zG2 :: zq_iast :: zq_aldg zG0 :: zq_getfg 4 zG3 :: zq_ildg zG3 :: zq_ildg zG7 :: zq_iast :: zq_incg zG3 zE3 1 :: xb_73_5
noncomputable def xf_73_4 : zE → zKn := fun E => zq_istg zE7 (zq_ildg zG7 (zq_k 4294967295 (zq_ic_eq 117 (zq_aldg zG0 (zq_getfg 4 zG0 (zq_ildg zG7 (zq_ild_ 0 (zq_k 4294967295 (zq_ic_ne 117 (zq_aldg zG0 (zq_getfg 4 zG0 (zq_ildg zG7 (zq_aldg zG0 (zq_getfg 4 zG2 (zq_iast (zq_aldg zG0 (zq_getfg 4 zG3 (zq_ildg zG3 (zq_ildg zG7 (zq_iast (zq_incg zG3 zE3 1 (xf_73_5 E) E) E) E) E) E) E) E) E) E) E) E) E) E) E) E) E) E) E) E) E) E) E
theorem xe_73_4 : xf_73_4 = zEx xb_73_4 := by
  unfold xf_73_4 xb_73_4
  rw [xe_73_5]
  rfl
theorem xc_73_4 : zCd 73 [0, 22, 47, 75, 76, 117, 123, 129] 76 xb_73_4 := zc_istore xj_73 78 7 rfl rfl zf_ist_7 (zc_iload xj_73 80 7 rfl rfl zf_ild_7 (zc_iconst xj_73 81 (-1) 4294967295 rfl rfl rfl (zc_ic_eq xj_73 84 36 117 rfl rfl rfl (zc_aload_n xj_73 85 0 rfl rfl zf_ald_0 (zc_getf xj_73 88 9 4 0 60 rfl rfl (zf_getf_0 _) (zc_iload xj_73 90 7 rfl rfl zf_ild_7 (zc_iaload xj_73 91 rfl rfl (zc_iconst xj_73 92 (-1) 4294967295 rfl rfl rfl (zc_ic_ne xj_73 95 25 117 rfl rfl rfl (zc_aload_n xj_73 96 0 rfl rfl zf_ald_0 (zc_getf xj_73 99 9 4 0 60 rfl rfl (zf_getf_0 _) (zc_iload xj_73 101 7 rfl rfl zf_ild_7 (zc_aload_n xj_73 102 0 rfl rfl zf_ald_0 (zc_getf xj_73 105 21 4 2 64 rfl rfl (zf_getf_2 _) (zc_iastore xj_73 106 rfl rfl (zc_aload_n xj_73 107 0 rfl rfl zf_ald_0 (zc_getf xj_73 110 18 4 3 66 rfl rfl (zf_getf_3 _) (zc_iload_n xj_73 111 3 rfl rfl zf_ild_3 (zc_iload xj_73 113 7 rfl rfl zf_ild_7 (zc_iastore xj_73 114 rfl rfl (zc_iinc xj_73 117 3 1 1 rfl rfl rfl (zf_inc_3 _) (xc_73_5))))))))))))))))))))))
noncomputable def xb_73_3 : List zF := zq_k 4294967295 :: xb_73_4
noncomputable def xf_73_3 : zE → zKn := fun E => zq_k 4294967295 (xf_73_4 E) E
theorem xe_73_3 : xf_73_3 = zEx xb_73_3 := by
  unfold xf_73_3 xb_73_3
  rw [xe_73_4]
  rfl
theorem xc_73_3 : zCd 73 [0, 22, 47, 75, 76, 117, 123, 129] 75 xb_73_3 := zc_iconst xj_73 76 (-1) 4294967295 rfl rfl rfl (xc_73_4)
noncomputable def xb_73_2 : List zF := [zq_ildg zG6, zq_k 3, zq_ic_ge 123, zq_aldg zG1, zq_ildg zG5, zq_ildg zG6, zq_calli 38 2 1 3, zq_if_eq 75, zq_aldg zG1, zq_ildg zG5, zq_ildg zG6, zq_calli 37 2 1 4, zq_goto 76]
noncomputable def xf_73_2 : zE → zKn := fun E => zq_ildg zG6 (zq_k 3 (zq_ic_ge 123 (zq_aldg zG1 (zq_ildg zG5 (zq_ildg zG6 (zq_calli 38 2 1 3 (zq_if_eq 75 (zq_aldg zG1 (zq_ildg zG5 (zq_ildg zG6 (zq_calli 37 2 1 4 (zq_goto 76 (zNil) E) E) E) E) E) E) E) E) E) E) E) E) E
theorem xe_73_2 : xf_73_2 = zEx xb_73_2 := by
  unfold xf_73_2 xb_73_2
  rfl
theorem xc_73_2 : zCd 73 [0, 22, 47, 75, 76, 117, 123, 129] 47 xb_73_2 := zc_iload xj_73 49 6 rfl rfl zf_ild_6 (zc_iconst xj_73 50 3 3 rfl rfl rfl (zc_ic_ge xj_73 53 73 123 rfl rfl rfl (zc_aload_n xj_73 54 1 rfl rfl zf_ald_1 (zc_iload xj_73 56 5 rfl rfl zf_ild_5 (zc_iload xj_73 58 6 rfl rfl zf_ild_6 (zc_invokevirtual1 xj_73 61 59 38 2 144 1 3 rfl rfl rfl rfl (zc_if_eq xj_73 64 14 75 rfl rfl rfl (zc_aload_n xj_73 65 1 rfl rfl zf_ald_1 (zc_iload xj_73 67 5 rfl rfl zf_ild_5 (zc_iload xj_73 69 6 rfl rfl zf_ild_6 (zc_invokevirtual1 xj_73 72 63 37 2 145 1 4 rfl rfl rfl rfl (zc_goto xj_73 73 4 76 rfl rfl rfl (trivial)))))))))))))
noncomputable def xb_73_1 : List zF := zq_ildg zG4 :: zq_k 74 :: zq_ic_ge 129 :: zq_ildg zG3 :: zq_if_le 129 :: zq_incg zG3 zE3 4294967295 :: zq_aldg zG0 :: zq_getfg 4 zG3 :: zq_ildg zG3 :: zq_ild_ 0 :: zq_istg zE5 :: zq_k 0 :: zq_istg zE6 :: xb_73_2
noncomputable def xf_73_1 : zE → zKn := fun E => zq_ildg zG4 (zq_k 74 (zq_ic_ge 129 (zq_ildg zG3 (zq_if_le 129 (zq_incg zG3 zE3 4294967295 (zq_aldg zG0 (zq_getfg 4 zG3 (zq_ildg zG3 (zq_ild_ 0 (zq_istg zE5 (zq_k 0 (zq_istg zE6 (xf_73_2 E) E) E) E) E) E) E) E) E) E) E) E) E) E
theorem xe_73_1 : xf_73_1 = zEx xb_73_1 := by
  unfold xf_73_1 xb_73_1
  rw [xe_73_2]
  rfl
theorem xc_73_1 : zCd 73 [0, 22, 47, 75, 76, 117, 123, 129] 22 xb_73_1 := zc_iload xj_73 24 4 rfl rfl zf_ild_4 (zc_bipush xj_73 26 74 74 rfl rfl rfl (zc_ic_ge xj_73 29 103 129 rfl rfl rfl (zc_iload_n xj_73 30 3 rfl rfl zf_ild_3 (zc_if_le xj_73 33 99 129 rfl rfl rfl (zc_iinc xj_73 36 3 (-1) 4294967295 rfl rfl rfl (zf_inc_3 _) (zc_aload_n xj_73 37 0 rfl rfl zf_ald_0 (zc_getf xj_73 40 18 4 3 66 rfl rfl (zf_getf_3 _) (zc_iload_n xj_73 41 3 rfl rfl zf_ild_3 (zc_iaload xj_73 42 rfl rfl (zc_istore xj_73 44 5 rfl rfl zf_ist_5 (zc_iconst xj_73 45 0 0 rfl rfl rfl (zc_istore xj_73 47 6 rfl rfl zf_ist_6 (xc_73_2)))))))))))))
noncomputable def xb_73_0 : List zF := zq_aldg zG0 :: zq_getfg 4 zG0 :: zq_ildg zG2 :: zq_aldg zG0 :: zq_getfg 4 zG2 :: zq_iast :: zq_aldg zG0 :: zq_getfg 4 zG3 :: zq_k 0 :: zq_ildg zG2 :: zq_iast :: zq_k 1 :: zq_istg zE3 :: zq_k 0 :: zq_istg zE4 :: xb_73_1
noncomputable def xf_73_0 : zE → zKn := fun E => zq_aldg zG0 (zq_getfg 4 zG0 (zq_ildg zG2 (zq_aldg zG0 (zq_getfg 4 zG2 (zq_iast (zq_aldg zG0 (zq_getfg 4 zG3 (zq_k 0 (zq_ildg zG2 (zq_iast (zq_k 1 (zq_istg zE3 (zq_k 0 (zq_istg zE4 (xf_73_1 E) E) E) E) E) E) E) E) E) E) E) E) E) E) E) E
theorem xe_73_0 : xf_73_0 = zEx xb_73_0 := by
  unfold xf_73_0 xb_73_0
  rw [xe_73_1]
  rfl
theorem xc_73_0 : zCd 73 [0, 22, 47, 75, 76, 117, 123, 129] 0 xb_73_0 := zc_aload_n xj_73 1 0 rfl rfl zf_ald_0 (zc_getf xj_73 4 9 4 0 60 rfl rfl (zf_getf_0 _) (zc_iload_n xj_73 5 2 rfl rfl zf_ild_2 (zc_aload_n xj_73 6 0 rfl rfl zf_ald_0 (zc_getf xj_73 9 21 4 2 64 rfl rfl (zf_getf_2 _) (zc_iastore xj_73 10 rfl rfl (zc_aload_n xj_73 11 0 rfl rfl zf_ald_0 (zc_getf xj_73 14 18 4 3 66 rfl rfl (zf_getf_3 _) (zc_iconst xj_73 15 0 0 rfl rfl rfl (zc_iload_n xj_73 16 2 rfl rfl zf_ild_2 (zc_iastore xj_73 17 rfl rfl (zc_iconst xj_73 18 1 1 rfl rfl rfl (zc_istore_n xj_73 19 3 rfl rfl zf_ist_3 (zc_iconst xj_73 20 0 0 rfl rfl rfl (zc_istore xj_73 22 4 rfl rfl zf_ist_4 (xc_73_1)))))))))))))))
noncomputable def xm_73 : Lean.RArray (zE → zKn) := .branch 76 (.branch 47 (.branch 22 (.leaf xf_73_0) (.leaf xf_73_1)) (.branch 75 (.leaf xf_73_2) (.leaf xf_73_3))) (.branch 123 (.branch 117 (.leaf xf_73_4) (.leaf xf_73_5)) (.branch 129 (.leaf xf_73_6) (.leaf xf_73_7)))
theorem xa_73 : zCdAll 73 [0, 22, 47, 75, 76, 117, 123, 129] xm_73 := zAll2_ok (P := fun t => ∃ c, zCd 73 [0, 22, 47, 75, 76, 117, 123, 129] t c ∧ xm_73.get t = zEx c) ⟨⟨_, xc_73_0, xe_73_0⟩, ⟨_, xc_73_1, xe_73_1⟩, ⟨_, xc_73_2, xe_73_2⟩, ⟨_, xc_73_3, xe_73_3⟩, ⟨_, xc_73_4, xe_73_4⟩, ⟨_, xc_73_5, xe_73_5⟩, ⟨_, xc_73_6, xe_73_6⟩, ⟨_, xc_73_7, xe_73_7⟩, trivial⟩
/-- SquareMesh$Regions.countHollow -/
theorem xj_74 : ∀ pc, pI 74 pc = pJ_74 pc := fun _ => rfl
noncomputable def xb_74_3 : List zF := [zq_ildg zG1, zq_iret 0]
noncomputable def xf_74_3 : zE → zKn := fun E => zq_ildg zG1 (zq_iret 0 (zNil) E) E
theorem xe_74_3 : xf_74_3 = zEx xb_74_3 := by
  unfold xf_74_3 xb_74_3
  rfl
theorem xc_74_3 : zCd 74 [0, 4, 24, 30] 30 xb_74_3 := zc_iload_n xj_74 31 1 rfl rfl zf_ild_1 (zc_ireturn0 xj_74 32 rfl rfl (trivial))
noncomputable def xb_74_2 : List zF := [zq_incg zG2 zE2 1, zq_goto 4]
noncomputable def xf_74_2 : zE → zKn := fun E => zq_incg zG2 zE2 1 (zq_goto 4 (zNil) E) E
theorem xe_74_2 : xf_74_2 = zEx xb_74_2 := by
  unfold xf_74_2 xb_74_2
  rfl
theorem xc_74_2 : zCd 74 [0, 4, 24, 30] 24 xb_74_2 := zc_iinc xj_74 27 2 1 1 rfl rfl rfl (zf_inc_2 _) (zc_goto xj_74 28 (-23) 4 rfl rfl rfl (trivial))
noncomputable def xb_74_1 : List zF := zq_ildg zG2 :: zq_aldg zG0 :: zq_getfg 4 zG2 :: zq_ic_ge 30 :: zq_aldg zG0 :: zq_getfg 4 zG1 :: zq_ildg zG2 :: zq_ild_ 0 :: zq_if_le 24 :: zq_incg zG1 zE1 1 :: xb_74_2
noncomputable def xf_74_1 : zE → zKn := fun E => zq_ildg zG2 (zq_aldg zG0 (zq_getfg 4 zG2 (zq_ic_ge 30 (zq_aldg zG0 (zq_getfg 4 zG1 (zq_ildg zG2 (zq_ild_ 0 (zq_if_le 24 (zq_incg zG1 zE1 1 (xf_74_2 E) E) E) E) E) E) E) E) E) E) E
theorem xe_74_1 : xf_74_1 = zEx xb_74_1 := by
  unfold xf_74_1 xb_74_1
  rw [xe_74_2]
  rfl
theorem xc_74_1 : zCd 74 [0, 4, 24, 30] 4 xb_74_1 := zc_iload_n xj_74 5 2 rfl rfl zf_ild_2 (zc_aload_n xj_74 6 0 rfl rfl zf_ald_0 (zc_getf xj_74 9 21 4 2 64 rfl rfl (zf_getf_2 _) (zc_ic_ge xj_74 12 21 30 rfl rfl rfl (zc_aload_n xj_74 13 0 rfl rfl zf_ald_0 (zc_getf xj_74 16 15 4 1 62 rfl rfl (zf_getf_1 _) (zc_iload_n xj_74 17 2 rfl rfl zf_ild_2 (zc_iaload xj_74 18 rfl rfl (zc_if_le xj_74 21 6 24 rfl rfl rfl (zc_iinc xj_74 24 1 1 1 rfl rfl rfl (zf_inc_1 _) (xc_74_2))))))))))
noncomputable def xb_74_0 : List zF := zq_k 0 :: zq_istg zE1 :: zq_k 0 :: zq_istg zE2 :: xb_74_1
noncomputable def xf_74_0 : zE → zKn := fun E => zq_k 0 (zq_istg zE1 (zq_k 0 (zq_istg zE2 (xf_74_1 E) E) E) E) E
theorem xe_74_0 : xf_74_0 = zEx xb_74_0 := by
  unfold xf_74_0 xb_74_0
  rw [xe_74_1]
  rfl
theorem xc_74_0 : zCd 74 [0, 4, 24, 30] 0 xb_74_0 := zc_iconst xj_74 1 0 0 rfl rfl rfl (zc_istore_n xj_74 2 1 rfl rfl zf_ist_1 (zc_iconst xj_74 3 0 0 rfl rfl rfl (zc_istore_n xj_74 4 2 rfl rfl zf_ist_2 (xc_74_1))))
noncomputable def xm_74 : Lean.RArray (zE → zKn) := .branch 24 (.branch 4 (.leaf xf_74_0) (.leaf xf_74_1)) (.branch 30 (.leaf xf_74_2) (.leaf xf_74_3))
theorem xa_74 : zCdAll 74 [0, 4, 24, 30] xm_74 := zAll2_ok (P := fun t => ∃ c, zCd 74 [0, 4, 24, 30] t c ∧ xm_74.get t = zEx c) ⟨⟨_, xc_74_0, xe_74_0⟩, ⟨_, xc_74_1, xe_74_1⟩, ⟨_, xc_74_2, xe_74_2⟩, ⟨_, xc_74_3, xe_74_3⟩, trivial⟩
/-- SquareMesh$Regions.sizeOf -/
theorem xj_75 : ∀ pc, pI 75 pc = pJ_75 pc := fun _ => rfl
noncomputable def xb_75_3 : List zF := [zq_ildg zG3, zq_iret 0]
noncomputable def xf_75_3 : zE → zKn := fun E => zq_ildg zG3 (zq_iret 0 (zNil) E) E
theorem xe_75_3 : xf_75_3 = zEx xb_75_3 := by
  unfold xf_75_3 xb_75_3
  rfl
theorem xc_75_3 : zCd 75 [0, 5, 28, 34] 34 xb_75_3 := zc_iload_n xj_75 35 3 rfl rfl zf_ild_3 (zc_ireturn0 xj_75 36 rfl rfl (trivial))
noncomputable def xb_75_2 : List zF := [zq_incg zG4 zE4 1, zq_goto 5]
noncomputable def xf_75_2 : zE → zKn := fun E => zq_incg zG4 zE4 1 (zq_goto 5 (zNil) E) E
theorem xe_75_2 : xf_75_2 = zEx xb_75_2 := by
  unfold xf_75_2 xb_75_2
  rfl
theorem xc_75_2 : zCd 75 [0, 5, 28, 34] 28 xb_75_2 := zc_iinc xj_75 31 4 1 1 rfl rfl rfl (zf_inc_4 _) (zc_goto xj_75 32 (-26) 5 rfl rfl rfl (trivial))
noncomputable def xb_75_1 : List zF := zq_ildg zG4 :: zq_aldg zG1 :: zq_getfg 1 zG7 :: zq_ic_ge 34 :: zq_aldg zG0 :: zq_getfg 4 zG0 :: zq_ildg zG4 :: zq_ild_ 0 :: zq_ildg zG2 :: zq_ic_ne 28 :: zq_incg zG3 zE3 1 :: xb_75_2
noncomputable def xf_75_1 : zE → zKn := fun E => zq_ildg zG4 (zq_aldg zG1 (zq_getfg 1 zG7 (zq_ic_ge 34 (zq_aldg zG0 (zq_getfg 4 zG0 (zq_ildg zG4 (zq_ild_ 0 (zq_ildg zG2 (zq_ic_ne 28 (zq_incg zG3 zE3 1 (xf_75_2 E) E) E) E) E) E) E) E) E) E) E) E
theorem xe_75_1 : xf_75_1 = zEx xb_75_1 := by
  unfold xf_75_1 xb_75_1
  rw [xe_75_2]
  rfl
theorem xc_75_1 : zCd 75 [0, 5, 28, 34] 5 xb_75_1 := zc_iload xj_75 7 4 rfl rfl zf_ild_4 (zc_aload_n xj_75 8 1 rfl rfl zf_ald_1 (zc_getf xj_75 11 31 1 7 44 rfl rfl (zf_getf_7 _) (zc_ic_ge xj_75 14 23 34 rfl rfl rfl (zc_aload_n xj_75 15 0 rfl rfl zf_ald_0 (zc_getf xj_75 18 9 4 0 60 rfl rfl (zf_getf_0 _) (zc_iload xj_75 20 4 rfl rfl zf_ild_4 (zc_iaload xj_75 21 rfl rfl (zc_iload_n xj_75 22 2 rfl rfl zf_ild_2 (zc_ic_ne xj_75 25 6 28 rfl rfl rfl (zc_iinc xj_75 28 3 1 1 rfl rfl rfl (zf_inc_3 _) (xc_75_2)))))))))))
noncomputable def xb_75_0 : List zF := zq_k 0 :: zq_istg zE3 :: zq_k 0 :: zq_istg zE4 :: xb_75_1
noncomputable def xf_75_0 : zE → zKn := fun E => zq_k 0 (zq_istg zE3 (zq_k 0 (zq_istg zE4 (xf_75_1 E) E) E) E) E
theorem xe_75_0 : xf_75_0 = zEx xb_75_0 := by
  unfold xf_75_0 xb_75_0
  rw [xe_75_1]
  rfl
theorem xc_75_0 : zCd 75 [0, 5, 28, 34] 0 xb_75_0 := zc_iconst xj_75 1 0 0 rfl rfl rfl (zc_istore_n xj_75 2 3 rfl rfl zf_ist_3 (zc_iconst xj_75 3 0 0 rfl rfl rfl (zc_istore xj_75 5 4 rfl rfl zf_ist_4 (xc_75_1))))
noncomputable def xm_75 : Lean.RArray (zE → zKn) := .branch 28 (.branch 5 (.leaf xf_75_0) (.leaf xf_75_1)) (.branch 34 (.leaf xf_75_2) (.leaf xf_75_3))
theorem xa_75 : zCdAll 75 [0, 5, 28, 34] xm_75 := zAll2_ok (P := fun t => ∃ c, zCd 75 [0, 5, 28, 34] t c ∧ xm_75.get t = zEx c) ⟨⟨_, xc_75_0, xe_75_0⟩, ⟨_, xc_75_1, xe_75_1⟩, ⟨_, xc_75_2, xe_75_2⟩, ⟨_, xc_75_3, xe_75_3⟩, trivial⟩
/-- SquareMesh$Regions.areaOf -/
theorem xj_76 : ∀ pc, pI 76 pc = pJ_76 pc := fun _ => rfl
noncomputable def xb_76_3 : List zF := [zq_ildg zG3, zq_iret 0]
noncomputable def xf_76_3 : zE → zKn := fun E => zq_ildg zG3 (zq_iret 0 (zNil) E) E
theorem xe_76_3 : xf_76_3 = zEx xb_76_3 := by
  unfold xf_76_3 xb_76_3
  rfl
theorem xc_76_3 : zCd 76 [0, 5, 34, 40] 40 xb_76_3 := zc_iload_n xj_76 41 3 rfl rfl zf_ild_3 (zc_ireturn0 xj_76 42 rfl rfl (trivial))
noncomputable def xb_76_2 : List zF := [zq_incg zG4 zE4 1, zq_goto 5]
noncomputable def xf_76_2 : zE → zKn := fun E => zq_incg zG4 zE4 1 (zq_goto 5 (zNil) E) E
theorem xe_76_2 : xf_76_2 = zEx xb_76_2 := by
  unfold xf_76_2 xb_76_2
  rfl
theorem xc_76_2 : zCd 76 [0, 5, 34, 40] 34 xb_76_2 := zc_iinc xj_76 37 4 1 1 rfl rfl rfl (zf_inc_4 _) (zc_goto xj_76 38 (-32) 5 rfl rfl rfl (trivial))
noncomputable def xb_76_1 : List zF := zq_ildg zG4 :: zq_aldg zG1 :: zq_getfg 1 zG7 :: zq_ic_ge 40 :: zq_aldg zG0 :: zq_getfg 4 zG0 :: zq_ildg zG4 :: zq_ild_ 0 :: zq_ildg zG2 :: zq_ic_ne 34 :: zq_ildg zG3 :: zq_aldg zG1 :: zq_ildg zG4 :: zq_calli 39 1 1 2 :: zq_add :: zq_istg zE3 :: xb_76_2
noncomputable def xf_76_1 : zE → zKn := fun E => zq_ildg zG4 (zq_aldg zG1 (zq_getfg 1 zG7 (zq_ic_ge 40 (zq_aldg zG0 (zq_getfg 4 zG0 (zq_ildg zG4 (zq_ild_ 0 (zq_ildg zG2 (zq_ic_ne 34 (zq_ildg zG3 (zq_aldg zG1 (zq_ildg zG4 (zq_calli 39 1 1 2 (zq_add (zq_istg zE3 (xf_76_2 E) E) E) E) E) E) E) E) E) E) E) E) E) E) E) E) E
theorem xe_76_1 : xf_76_1 = zEx xb_76_1 := by
  unfold xf_76_1 xb_76_1
  rw [xe_76_2]
  rfl
theorem xc_76_1 : zCd 76 [0, 5, 34, 40] 5 xb_76_1 := zc_iload xj_76 7 4 rfl rfl zf_ild_4 (zc_aload_n xj_76 8 1 rfl rfl zf_ald_1 (zc_getf xj_76 11 31 1 7 44 rfl rfl (zf_getf_7 _) (zc_ic_ge xj_76 14 29 40 rfl rfl rfl (zc_aload_n xj_76 15 0 rfl rfl zf_ald_0 (zc_getf xj_76 18 9 4 0 60 rfl rfl (zf_getf_0 _) (zc_iload xj_76 20 4 rfl rfl zf_ild_4 (zc_iaload xj_76 21 rfl rfl (zc_iload_n xj_76 22 2 rfl rfl zf_ild_2 (zc_ic_ne xj_76 25 12 34 rfl rfl rfl (zc_iload_n xj_76 26 3 rfl rfl zf_ild_3 (zc_aload_n xj_76 27 1 rfl rfl zf_ald_1 (zc_iload xj_76 29 4 rfl rfl zf_ild_4 (zc_invokevirtual1 xj_76 32 66 39 1 189 1 2 rfl rfl rfl rfl (zc_iadd xj_76 33 rfl rfl (zc_istore_n xj_76 34 3 rfl rfl zf_ist_3 (xc_76_2))))))))))))))))
noncomputable def xb_76_0 : List zF := zq_k 0 :: zq_istg zE3 :: zq_k 0 :: zq_istg zE4 :: xb_76_1
noncomputable def xf_76_0 : zE → zKn := fun E => zq_k 0 (zq_istg zE3 (zq_k 0 (zq_istg zE4 (xf_76_1 E) E) E) E) E
theorem xe_76_0 : xf_76_0 = zEx xb_76_0 := by
  unfold xf_76_0 xb_76_0
  rw [xe_76_1]
  rfl
theorem xc_76_0 : zCd 76 [0, 5, 34, 40] 0 xb_76_0 := zc_iconst xj_76 1 0 0 rfl rfl rfl (zc_istore_n xj_76 2 3 rfl rfl zf_ist_3 (zc_iconst xj_76 3 0 0 rfl rfl rfl (zc_istore xj_76 5 4 rfl rfl zf_ist_4 (xc_76_1))))
noncomputable def xm_76 : Lean.RArray (zE → zKn) := .branch 34 (.branch 5 (.leaf xf_76_0) (.leaf xf_76_1)) (.branch 40 (.leaf xf_76_2) (.leaf xf_76_3))
theorem xa_76 : zCdAll 76 [0, 5, 34, 40] xm_76 := zAll2_ok (P := fun t => ∃ c, zCd 76 [0, 5, 34, 40] t c ∧ xm_76.get t = zEx c) ⟨⟨_, xc_76_0, xe_76_0⟩, ⟨_, xc_76_1, xe_76_1⟩, ⟨_, xc_76_2, xe_76_2⟩, ⟨_, xc_76_3, xe_76_3⟩, trivial⟩
/-- SquareMesh$Regions.pointsOf -/
theorem xj_77 : ∀ pc, pI 77 pc = pJ_77 pc := fun _ => rfl
noncomputable def xb_77_4 : List zF := [zq_lldg zG3, zq_lret]
noncomputable def xf_77_4 : zE → zKn := fun E => zq_lldg zG3 (zq_lret (zNil) E) E
theorem xe_77_4 : xf_77_4 = zEx xb_77_4 := by
  unfold xf_77_4 xb_77_4
  rfl
theorem xc_77_4 : zCd 77 [0, 5, 17, 53, 59] 59 xb_77_4 := zc_lload_n xj_77 60 3 rfl rfl zf_lld_3 (zc_lreturn xj_77 61 rfl rfl (trivial))
noncomputable def xb_77_3 : List zF := [zq_incg zG5 zE5 1, zq_goto 5]
noncomputable def xf_77_3 : zE → zKn := fun E => zq_incg zG5 zE5 1 (zq_goto 5 (zNil) E) E
theorem xe_77_3 : xf_77_3 = zEx xb_77_3 := by
  unfold xf_77_3 xb_77_3
  rfl
theorem xc_77_3 : zCd 77 [0, 5, 17, 53, 59] 53 xb_77_3 := zc_iinc xj_77 56 5 1 1 rfl rfl rfl (zf_inc_5 _) (zc_goto xj_77 57 (-51) 5 rfl rfl rfl (trivial))
noncomputable def xb_77_2 : List zF := [zq_ildg zG6, zq_k 3, zq_ic_ge 53, zq_aldg zG0, zq_getfg 4 zG0, zq_ildg zG5, zq_ild_ 0, zq_ildg zG2, zq_ic_ne 53, zq_lldg zG3, zq_kl 1, zq_aldg zG1, zq_ildg zG5, zq_ildg zG6, zq_calli 35 2 1 3, zq_lshl, zq_lor, zq_lst 3, zq_incg zG6 zE6 1, zq_goto 17]
noncomputable def xf_77_2 : zE → zKn := fun E => zq_ildg zG6 (zq_k 3 (zq_ic_ge 53 (zq_aldg zG0 (zq_getfg 4 zG0 (zq_ildg zG5 (zq_ild_ 0 (zq_ildg zG2 (zq_ic_ne 53 (zq_lldg zG3 (zq_kl 1 (zq_aldg zG1 (zq_ildg zG5 (zq_ildg zG6 (zq_calli 35 2 1 3 (zq_lshl (zq_lor (zq_lst 3 (zq_incg zG6 zE6 1 (zq_goto 17 (zNil) E) E) E) E) E) E) E) E) E) E) E) E) E) E) E) E) E) E) E) E
theorem xe_77_2 : xf_77_2 = zEx xb_77_2 := by
  unfold xf_77_2 xb_77_2
  rfl
theorem xc_77_2 : zCd 77 [0, 5, 17, 53, 59] 17 xb_77_2 := zc_iload xj_77 19 6 rfl rfl zf_ild_6 (zc_iconst xj_77 20 3 3 rfl rfl rfl (zc_ic_ge xj_77 23 33 53 rfl rfl rfl (zc_aload_n xj_77 24 0 rfl rfl zf_ald_0 (zc_getf xj_77 27 9 4 0 60 rfl rfl (zf_getf_0 _) (zc_iload xj_77 29 5 rfl rfl zf_ild_5 (zc_iaload xj_77 30 rfl rfl (zc_iload_n xj_77 31 2 rfl rfl zf_ild_2 (zc_ic_ne xj_77 34 22 53 rfl rfl rfl (zc_lload_n xj_77 35 3 rfl rfl zf_lld_3 (zc_lconst xj_77 36 1 rfl rfl (zc_aload_n xj_77 37 1 rfl rfl zf_ald_1 (zc_iload xj_77 39 5 rfl rfl zf_ild_5 (zc_iload xj_77 41 6 rfl rfl zf_ild_6 (zc_invokevirtual1 xj_77 44 70 35 2 191 1 3 rfl rfl rfl rfl (zc_lshl xj_77 45 rfl rfl (zc_lor xj_77 46 rfl rfl (zc_lstore_n xj_77 47 3 rfl rfl rfl (zc_iinc xj_77 50 6 1 1 rfl rfl rfl (zf_inc_6 _) (zc_goto xj_77 51 (-33) 17 rfl rfl rfl (trivial))))))))))))))))))))
noncomputable def xb_77_1 : List zF := zq_ildg zG5 :: zq_aldg zG1 :: zq_getfg 1 zG7 :: zq_ic_ge 59 :: zq_k 0 :: zq_istg zE6 :: xb_77_2
noncomputable def xf_77_1 : zE → zKn := fun E => zq_ildg zG5 (zq_aldg zG1 (zq_getfg 1 zG7 (zq_ic_ge 59 (zq_k 0 (zq_istg zE6 (xf_77_2 E) E) E) E) E) E) E
theorem xe_77_1 : xf_77_1 = zEx xb_77_1 := by
  unfold xf_77_1 xb_77_1
  rw [xe_77_2]
  rfl
theorem xc_77_1 : zCd 77 [0, 5, 17, 53, 59] 5 xb_77_1 := zc_iload xj_77 7 5 rfl rfl zf_ild_5 (zc_aload_n xj_77 8 1 rfl rfl zf_ald_1 (zc_getf xj_77 11 31 1 7 44 rfl rfl (zf_getf_7 _) (zc_ic_ge xj_77 14 48 59 rfl rfl rfl (zc_iconst xj_77 15 0 0 rfl rfl rfl (zc_istore xj_77 17 6 rfl rfl zf_ist_6 (xc_77_2))))))
noncomputable def xb_77_0 : List zF := zq_kl 0 :: zq_lst 3 :: zq_k 0 :: zq_istg zE5 :: xb_77_1
noncomputable def xf_77_0 : zE → zKn := fun E => zq_kl 0 (zq_lst 3 (zq_k 0 (zq_istg zE5 (xf_77_1 E) E) E) E) E
theorem xe_77_0 : xf_77_0 = zEx xb_77_0 := by
  unfold xf_77_0 xb_77_0
  rw [xe_77_1]
  rfl
theorem xc_77_0 : zCd 77 [0, 5, 17, 53, 59] 0 xb_77_0 := zc_lconst xj_77 1 0 rfl rfl (zc_lstore_n xj_77 2 3 rfl rfl rfl (zc_iconst xj_77 3 0 0 rfl rfl rfl (zc_istore xj_77 5 5 rfl rfl zf_ist_5 (xc_77_1))))
noncomputable def xm_77 : Lean.RArray (zE → zKn) := .branch 17 (.branch 5 (.leaf xf_77_0) (.leaf xf_77_1)) (.branch 53 (.leaf xf_77_2) (.branch 59 (.leaf xf_77_3) (.leaf xf_77_4)))
theorem xa_77 : zCdAll 77 [0, 5, 17, 53, 59] xm_77 := zAll2_ok (P := fun t => ∃ c, zCd 77 [0, 5, 17, 53, 59] t c ∧ xm_77.get t = zEx c) ⟨⟨_, xc_77_0, xe_77_0⟩, ⟨_, xc_77_1, xe_77_1⟩, ⟨_, xc_77_2, xe_77_2⟩, ⟨_, xc_77_3, xe_77_3⟩, ⟨_, xc_77_4, xe_77_4⟩, trivial⟩
/-- SquareMesh$Told.<init> -/
theorem xj_78 : ∀ pc, pI 78 pc = pJ_78 pc := fun _ => rfl
noncomputable def xb_78_0 : List zF := [zq_aldg zG0, zq_call0, zq_aldg zG0, zq_k 40, zq_newa 0, zq_putf 5 0 2, zq_aldg zG0, zq_k 40, zq_newa 0, zq_putf 5 1 2, zq_aldg zG0, zq_k 40, zq_newa 0, zq_putf 5 2 2, zq_aldg zG0, zq_k 40, zq_newa 1, zq_putf 5 3 2, zq_aldg zG0, zq_k 8, zq_newa 0, zq_putf 5 4 2, zq_aldg zG0, zq_k 8, zq_newa 0, zq_putf 5 5 2, zq_vret]
noncomputable def xf_78_0 : zE → zKn := fun E => zq_aldg zG0 (zq_call0 (zq_aldg zG0 (zq_k 40 (zq_newa 0 (zq_putf 5 0 2 (zq_aldg zG0 (zq_k 40 (zq_newa 0 (zq_putf 5 1 2 (zq_aldg zG0 (zq_k 40 (zq_newa 0 (zq_putf 5 2 2 (zq_aldg zG0 (zq_k 40 (zq_newa 1 (zq_putf 5 3 2 (zq_aldg zG0 (zq_k 8 (zq_newa 0 (zq_putf 5 4 2 (zq_aldg zG0 (zq_k 8 (zq_newa 0 (zq_putf 5 5 2 (zq_vret (zNil) E) E) E) E) E) E) E) E) E) E) E) E) E) E) E) E) E) E) E) E) E) E) E) E) E) E) E
theorem xe_78_0 : xf_78_0 = zEx xb_78_0 := by
  unfold xf_78_0 xb_78_0
  rfl
theorem xc_78_0 : zCd 78 [0] 0 xb_78_0 := zc_aload_n xj_78 1 0 rfl rfl zf_ald_0 (zc_invokespecial0 xj_78 4 3 0 0 5 0 0 rfl rfl (zc_aload_n xj_78 5 0 rfl rfl zf_ald_0 (zc_bipush xj_78 7 40 40 rfl rfl rfl (zc_any xj_78 9 (.newarray .int) [0] rfl rfl (zq_newa 0) rfl rfl (zc_putf xj_78 12 9 5 0 0 2 rfl rfl rfl (zc_aload_n xj_78 13 0 rfl rfl zf_ald_0 (zc_bipush xj_78 15 40 40 rfl rfl rfl (zc_any xj_78 17 (.newarray .int) [0] rfl rfl (zq_newa 0) rfl rfl (zc_putf xj_78 20 15 5 1 3 2 rfl rfl rfl (zc_aload_n xj_78 21 0 rfl rfl zf_ald_0 (zc_bipush xj_78 23 40 40 rfl rfl rfl (zc_any xj_78 25 (.newarray .int) [0] rfl rfl (zq_newa 0) rfl rfl (zc_putf xj_78 28 18 5 2 6 2 rfl rfl rfl (zc_aload_n xj_78 29 0 rfl rfl zf_ald_0 (zc_bipush xj_78 31 40 40 rfl rfl rfl (zc_any xj_78 33 (.newarray .long) [1] rfl rfl (zq_newa 1) rfl rfl (zc_putf xj_78 36 21 5 3 9 2 rfl rfl rfl (zc_aload_n xj_78 37 0 rfl rfl zf_ald_0 (zc_bipush xj_78 39 8 8 rfl rfl rfl (zc_any xj_78 41 (.newarray .int) [0] rfl rfl (zq_newa 0) rfl rfl (zc_putf xj_78 44 25 5 4 11 2 rfl rfl rfl (zc_aload_n xj_78 45 0 rfl rfl zf_ald_0 (zc_bipush xj_78 47 8 8 rfl rfl rfl (zc_any xj_78 49 (.newarray .int) [0] rfl rfl (zq_newa 0) rfl rfl (zc_putf xj_78 52 28 5 5 14 2 rfl rfl rfl (zc_return_ xj_78 53 rfl rfl (trivial)))))))))))))))))))))))))))
noncomputable def xm_78 : Lean.RArray (zE → zKn) := .leaf xf_78_0
theorem xa_78 : zCdAll 78 [0] xm_78 := zAll2_ok (P := fun t => ∃ c, zCd 78 [0] t c ∧ xm_78.get t = zEx c) ⟨⟨_, xc_78_0, xe_78_0⟩, trivial⟩
/-- SquareMesh$Told.copyFrom -/
theorem xj_79 : ∀ pc, pI 79 pc = pJ_79 pc := fun _ => rfl
noncomputable def xb_79_0 : List zF := [zq_aldg zG1, zq_getfg 5 zG0, zq_k 0, zq_aldg zG0, zq_getfg 5 zG0, zq_k 0, zq_k 40, zq_copy, zq_aldg zG1, zq_getfg 5 zG1, zq_k 0, zq_aldg zG0, zq_getfg 5 zG1, zq_k 0, zq_k 40, zq_copy, zq_aldg zG1, zq_getfg 5 zG2, zq_k 0, zq_aldg zG0, zq_getfg 5 zG2, zq_k 0, zq_k 40, zq_copy, zq_aldg zG1, zq_getfg 5 zG3, zq_k 0, zq_aldg zG0, zq_getfg 5 zG3, zq_k 0, zq_k 40, zq_copy, zq_aldg zG1, zq_getfg 5 zG4, zq_k 0, zq_aldg zG0, zq_getfg 5 zG4, zq_k 0, zq_k 8, zq_copy, zq_aldg zG1, zq_getfg 5 zG5, zq_k 0, zq_aldg zG0, zq_getfg 5 zG5, zq_k 0, zq_k 8, zq_copy, zq_aldg zG0, zq_aldg zG1, zq_getfg 5 zG6, zq_putf 5 6 1, zq_aldg zG0, zq_aldg zG1, zq_getfg 5 zG7, zq_putf 5 7 0, zq_aldg zG0, zq_aldg zG1, zq_getfg 5 zG8, zq_putf 5 8 0, zq_vret]
noncomputable def xf_79_0 : zE → zKn := fun E => zq_aldg zG1 (zq_getfg 5 zG0 (zq_k 0 (zq_aldg zG0 (zq_getfg 5 zG0 (zq_k 0 (zq_k 40 (zq_copy (zq_aldg zG1 (zq_getfg 5 zG1 (zq_k 0 (zq_aldg zG0 (zq_getfg 5 zG1 (zq_k 0 (zq_k 40 (zq_copy (zq_aldg zG1 (zq_getfg 5 zG2 (zq_k 0 (zq_aldg zG0 (zq_getfg 5 zG2 (zq_k 0 (zq_k 40 (zq_copy (zq_aldg zG1 (zq_getfg 5 zG3 (zq_k 0 (zq_aldg zG0 (zq_getfg 5 zG3 (zq_k 0 (zq_k 40 (zq_copy (zq_aldg zG1 (zq_getfg 5 zG4 (zq_k 0 (zq_aldg zG0 (zq_getfg 5 zG4 (zq_k 0 (zq_k 8 (zq_copy (zq_aldg zG1 (zq_getfg 5 zG5 (zq_k 0 (zq_aldg zG0 (zq_getfg 5 zG5 (zq_k 0 (zq_k 8 (zq_copy (zq_aldg zG0 (zq_aldg zG1 (zq_getfg 5 zG6 (zq_putf 5 6 1 (zq_aldg zG0 (zq_aldg zG1 (zq_getfg 5 zG7 (zq_putf 5 7 0 (zq_aldg zG0 (zq_aldg zG1 (zq_getfg 5 zG8 (zq_putf 5 8 0 (zq_vret (zNil) E) E) E) E) E) E) E) E) E) E) E) E) E) E) E) E) E) E) E) E) E) E) E) E) E) E) E) E) E) E) E) E) E) E) E) E) E) E) E) E) E) E) E) E) E) E) E) E) E) E) E) E) E) E) E) E) E) E) E) E) E
set_option maxRecDepth 100000 in
theorem xe_79_0 : xf_79_0 = zEx xb_79_0 := by
  unfold xf_79_0 xb_79_0
  rfl
theorem xc_79_0 : zCd 79 [0] 0 xb_79_0 := zc_aload_n xj_79 1 1 rfl rfl zf_ald_1 (zc_getf xj_79 4 9 5 0 0 rfl rfl (zf_getf_0 _) (zc_iconst xj_79 5 0 0 rfl rfl rfl (zc_aload_n xj_79 6 0 rfl rfl zf_ald_0 (zc_getf xj_79 9 9 5 0 0 rfl rfl (zf_getf_0 _) (zc_iconst xj_79 10 0 0 rfl rfl rfl (zc_bipush xj_79 12 40 40 rfl rfl rfl (zc_invokestatic7 xj_79 15 31 0 5 31 0 0 rfl rfl (zc_aload_n xj_79 16 1 rfl rfl zf_ald_1 (zc_getf xj_79 19 15 5 1 3 rfl rfl (zf_getf_1 _) (zc_iconst xj_79 20 0 0 rfl rfl rfl (zc_aload_n xj_79 21 0 rfl rfl zf_ald_0 (zc_getf xj_79 24 15 5 1 3 rfl rfl (zf_getf_1 _) (zc_iconst xj_79 25 0 0 rfl rfl rfl (zc_bipush xj_79 27 40 40 rfl rfl rfl (zc_invokestatic7 xj_79 30 31 0 5 31 0 0 rfl rfl (zc_aload_n xj_79 31 1 rfl rfl zf_ald_1 (zc_getf xj_79 34 18 5 2 6 rfl rfl (zf_getf_2 _) (zc_iconst xj_79 35 0 0 rfl rfl rfl (zc_aload_n xj_79 36 0 rfl rfl zf_ald_0 (zc_getf xj_79 39 18 5 2 6 rfl rfl (zf_getf_2 _) (zc_iconst xj_79 40 0 0 rfl rfl rfl (zc_bipush xj_79 42 40 40 rfl rfl rfl (zc_invokestatic7 xj_79 45 31 0 5 31 0 0 rfl rfl (zc_aload_n xj_79 46 1 rfl rfl zf_ald_1 (zc_getf xj_79 49 21 5 3 9 rfl rfl (zf_getf_3 _) (zc_iconst xj_79 50 0 0 rfl rfl rfl (zc_aload_n xj_79 51 0 rfl rfl zf_ald_0 (zc_getf xj_79 54 21 5 3 9 rfl rfl (zf_getf_3 _) (zc_iconst xj_79 55 0 0 rfl rfl rfl (zc_bipush xj_79 57 40 40 rfl rfl rfl (zc_invokestatic7 xj_79 60 31 0 5 31 0 0 rfl rfl (zc_aload_n xj_79 61 1 rfl rfl zf_ald_1 (zc_getf xj_79 64 25 5 4 11 rfl rfl (zf_getf_4 _) (zc_iconst xj_79 65 0 0 rfl rfl rfl (zc_aload_n xj_79 66 0 rfl rfl zf_ald_0 (zc_getf xj_79 69 25 5 4 11 rfl rfl (zf_getf_4 _) (zc_iconst xj_79 70 0 0 rfl rfl rfl (zc_bipush xj_79 72 8 8 rfl rfl rfl (zc_invokestatic7 xj_79 75 31 0 5 31 0 0 rfl rfl (zc_aload_n xj_79 76 1 rfl rfl zf_ald_1 (zc_getf xj_79 79 28 5 5 14 rfl rfl (zf_getf_5 _) (zc_iconst xj_79 80 0 0 rfl rfl rfl (zc_aload_n xj_79 81 0 rfl rfl zf_ald_0 (zc_getf xj_79 84 28 5 5 14 rfl rfl (zf_getf_5 _) (zc_iconst xj_79 85 0 0 rfl rfl rfl (zc_bipush xj_79 87 8 8 rfl rfl rfl (zc_invokestatic7 xj_79 90 31 0 5 31 0 0 rfl rfl (zc_aload_n xj_79 91 0 rfl rfl zf_ald_0 (zc_aload_n xj_79 92 1 rfl rfl zf_ald_1 (zc_getf xj_79 95 37 5 6 17 rfl rfl (zf_getf_6 _) (zc_putf xj_79 98 37 5 6 17 1 rfl rfl rfl (zc_aload_n xj_79 99 0 rfl rfl zf_ald_0 (zc_aload_n xj_79 100 1 rfl rfl zf_ald_1 (zc_getf xj_79 103 41 5 7 19 rfl rfl (zf_getf_7 _) (zc_putf xj_79 106 41 5 7 19 0 rfl rfl rfl (zc_aload_n xj_79 107 0 rfl rfl zf_ald_0 (zc_aload_n xj_79 108 1 rfl rfl zf_ald_1 (zc_getf xj_79 111 45 5 8 22 rfl rfl (zf_getf_8 _) (zc_putf xj_79 114 45 5 8 22 0 rfl rfl rfl (zc_return_ xj_79 115 rfl rfl (trivial)))))))))))))))))))))))))))))))))))))))))))))))))))))))))))))
noncomputable def xm_79 : Lean.RArray (zE → zKn) := .leaf xf_79_0
theorem xa_79 : zCdAll 79 [0] xm_79 := zAll2_ok (P := fun t => ∃ c, zCd 79 [0] t c ∧ xm_79.get t = zEx c) ⟨⟨_, xc_79_0, xe_79_0⟩, trivial⟩
/-- SquareMesh$Told.copyTo -/
theorem xj_80 : ∀ pc, pI 80 pc = pJ_80 pc := fun _ => rfl
noncomputable def xb_80_0 : List zF := [zq_aldg zG0, zq_getfg 5 zG0, zq_k 0, zq_aldg zG1, zq_ildg zG2, zq_k 40, zq_copy, zq_aldg zG0, zq_getfg 5 zG1, zq_k 0, zq_aldg zG1, zq_ildg zG2, zq_k 40, zq_add, zq_k 40, zq_copy, zq_aldg zG0, zq_getfg 5 zG2, zq_k 0, zq_aldg zG1, zq_ildg zG2, zq_k 80, zq_add, zq_k 40, zq_copy, zq_aldg zG0, zq_getfg 5 zG4, zq_k 0, zq_aldg zG1, zq_ildg zG2, zq_k 120, zq_add, zq_k 8, zq_copy, zq_aldg zG0, zq_getfg 5 zG5, zq_k 0, zq_aldg zG1, zq_ildg zG2, zq_k 128, zq_add, zq_k 8, zq_copy, zq_aldg zG0, zq_getfg 5 zG3, zq_k 0, zq_aldg zG3, zq_ildg zG4, zq_k 40, zq_copy, zq_aldg zG3, zq_ildg zG4, zq_k 40, zq_add, zq_aldg zG0, zq_getfg 5 zG6, zq_last, zq_aldg zG1, zq_ildg zG2, zq_k 136, zq_add, zq_aldg zG0, zq_getfg 5 zG7, zq_iast, zq_aldg zG1, zq_ildg zG2, zq_k 137, zq_add, zq_aldg zG0, zq_getfg 5 zG8, zq_iast, zq_vret]
noncomputable def xf_80_0 : zE → zKn := fun E => zq_aldg zG0 (zq_getfg 5 zG0 (zq_k 0 (zq_aldg zG1 (zq_ildg zG2 (zq_k 40 (zq_copy (zq_aldg zG0 (zq_getfg 5 zG1 (zq_k 0 (zq_aldg zG1 (zq_ildg zG2 (zq_k 40 (zq_add (zq_k 40 (zq_copy (zq_aldg zG0 (zq_getfg 5 zG2 (zq_k 0 (zq_aldg zG1 (zq_ildg zG2 (zq_k 80 (zq_add (zq_k 40 (zq_copy (zq_aldg zG0 (zq_getfg 5 zG4 (zq_k 0 (zq_aldg zG1 (zq_ildg zG2 (zq_k 120 (zq_add (zq_k 8 (zq_copy (zq_aldg zG0 (zq_getfg 5 zG5 (zq_k 0 (zq_aldg zG1 (zq_ildg zG2 (zq_k 128 (zq_add (zq_k 8 (zq_copy (zq_aldg zG0 (zq_getfg 5 zG3 (zq_k 0 (zq_aldg zG3 (zq_ildg zG4 (zq_k 40 (zq_copy (zq_aldg zG3 (zq_ildg zG4 (zq_k 40 (zq_add (zq_aldg zG0 (zq_getfg 5 zG6 (zq_last (zq_aldg zG1 (zq_ildg zG2 (zq_k 136 (zq_add (zq_aldg zG0 (zq_getfg 5 zG7 (zq_iast (zq_aldg zG1 (zq_ildg zG2 (zq_k 137 (zq_add (zq_aldg zG0 (zq_getfg 5 zG8 (zq_iast (zq_vret (zNil) E) E) E) E) E) E) E) E) E) E) E) E) E) E) E) E) E) E) E) E) E) E) E) E) E) E) E) E) E) E) E) E) E) E) E) E) E) E) E) E) E) E) E) E) E) E) E) E) E) E) E) E) E) E) E) E) E) E) E) E) E) E) E) E) E) E) E) E) E) E) E) E
set_option maxRecDepth 100000 in
theorem xe_80_0 : xf_80_0 = zEx xb_80_0 := by
  unfold xf_80_0 xb_80_0
  rfl
theorem xc_80_0 : zCd 80 [0] 0 xb_80_0 := zc_aload_n xj_80 1 0 rfl rfl zf_ald_0 (zc_getf xj_80 4 9 5 0 0 rfl rfl (zf_getf_0 _) (zc_iconst xj_80 5 0 0 rfl rfl rfl (zc_aload_n xj_80 6 1 rfl rfl zf_ald_1 (zc_iload_n xj_80 7 2 rfl rfl zf_ild_2 (zc_bipush xj_80 9 40 40 rfl rfl rfl (zc_invokestatic7 xj_80 12 31 0 5 31 0 0 rfl rfl (zc_aload_n xj_80 13 0 rfl rfl zf_ald_0 (zc_getf xj_80 16 15 5 1 3 rfl rfl (zf_getf_1 _) (zc_iconst xj_80 17 0 0 rfl rfl rfl (zc_aload_n xj_80 18 1 rfl rfl zf_ald_1 (zc_iload_n xj_80 19 2 rfl rfl zf_ild_2 (zc_bipush xj_80 21 40 40 rfl rfl rfl (zc_iadd xj_80 22 rfl rfl (zc_bipush xj_80 24 40 40 rfl rfl rfl (zc_invokestatic7 xj_80 27 31 0 5 31 0 0 rfl rfl (zc_aload_n xj_80 28 0 rfl rfl zf_ald_0 (zc_getf xj_80 31 18 5 2 6 rfl rfl (zf_getf_2 _) (zc_iconst xj_80 32 0 0 rfl rfl rfl (zc_aload_n xj_80 33 1 rfl rfl zf_ald_1 (zc_iload_n xj_80 34 2 rfl rfl zf_ild_2 (zc_bipush xj_80 36 80 80 rfl rfl rfl (zc_iadd xj_80 37 rfl rfl (zc_bipush xj_80 39 40 40 rfl rfl rfl (zc_invokestatic7 xj_80 42 31 0 5 31 0 0 rfl rfl (zc_aload_n xj_80 43 0 rfl rfl zf_ald_0 (zc_getf xj_80 46 25 5 4 11 rfl rfl (zf_getf_4 _) (zc_iconst xj_80 47 0 0 rfl rfl rfl (zc_aload_n xj_80 48 1 rfl rfl zf_ald_1 (zc_iload_n xj_80 49 2 rfl rfl zf_ild_2 (zc_bipush xj_80 51 120 120 rfl rfl rfl (zc_iadd xj_80 52 rfl rfl (zc_bipush xj_80 54 8 8 rfl rfl rfl (zc_invokestatic7 xj_80 57 31 0 5 31 0 0 rfl rfl (zc_aload_n xj_80 58 0 rfl rfl zf_ald_0 (zc_getf xj_80 61 28 5 5 14 rfl rfl (zf_getf_5 _) (zc_iconst xj_80 62 0 0 rfl rfl rfl (zc_aload_n xj_80 63 1 rfl rfl zf_ald_1 (zc_iload_n xj_80 64 2 rfl rfl zf_ild_2 (zc_sipush xj_80 67 128 128 rfl rfl rfl (zc_iadd xj_80 68 rfl rfl (zc_bipush xj_80 70 8 8 rfl rfl rfl (zc_invokestatic7 xj_80 73 31 0 5 31 0 0 rfl rfl (zc_aload_n xj_80 74 0 rfl rfl zf_ald_0 (zc_getf xj_80 77 21 5 3 9 rfl rfl (zf_getf_3 _) (zc_iconst xj_80 78 0 0 rfl rfl rfl (zc_aload_n xj_80 79 3 rfl rfl zf_ald_3 (zc_iload xj_80 81 4 rfl rfl zf_ild_4 (zc_bipush xj_80 83 40 40 rfl rfl rfl (zc_invokestatic7 xj_80 86 31 0 5 31 0 0 rfl rfl (zc_aload_n xj_80 87 3 rfl rfl zf_ald_3 (zc_iload xj_80 89 4 rfl rfl zf_ild_4 (zc_bipush xj_80 91 40 40 rfl rfl rfl (zc_iadd xj_80 92 rfl rfl (zc_aload_n xj_80 93 0 rfl rfl zf_ald_0 (zc_getf xj_80 96 37 5 6 17 rfl rfl (zf_getf_6 _) (zc_lastore xj_80 97 rfl rfl (zc_aload_n xj_80 98 1 rfl rfl zf_ald_1 (zc_iload_n xj_80 99 2 rfl rfl zf_ild_2 (zc_sipush xj_80 102 136 136 rfl rfl rfl (zc_iadd xj_80 103 rfl rfl (zc_aload_n xj_80 104 0 rfl rfl zf_ald_0 (zc_getf xj_80 107 41 5 7 19 rfl rfl (zf_getf_7 _) (zc_iastore xj_80 108 rfl rfl (zc_aload_n xj_80 109 1 rfl rfl zf_ald_1 (zc_iload_n xj_80 110 2 rfl rfl zf_ild_2 (zc_sipush xj_80 113 137 137 rfl rfl rfl (zc_iadd xj_80 114 rfl rfl (zc_aload_n xj_80 115 0 rfl rfl zf_ald_0 (zc_getf xj_80 118 45 5 8 22 rfl rfl (zf_getf_8 _) (zc_iastore xj_80 119 rfl rfl (zc_return_ xj_80 120 rfl rfl (trivial))))))))))))))))))))))))))))))))))))))))))))))))))))))))))))))))))))))))
noncomputable def xm_80 : Lean.RArray (zE → zKn) := .leaf xf_80_0
theorem xa_80 : zCdAll 80 [0] xm_80 := zAll2_ok (P := fun t => ∃ c, zCd 80 [0] t c ∧ xm_80.get t = zEx c) ⟨⟨_, xc_80_0, xe_80_0⟩, trivial⟩
/-- SquareMesh$Told.copyFrom -/
theorem xj_81 : ∀ pc, pI 81 pc = pJ_81 pc := fun _ => rfl
noncomputable def xb_81_0 : List zF := [zq_aldg zG1, zq_ildg zG2, zq_aldg zG0, zq_getfg 5 zG0, zq_k 0, zq_k 40, zq_copy, zq_aldg zG1, zq_ildg zG2, zq_k 40, zq_add, zq_aldg zG0, zq_getfg 5 zG1, zq_k 0, zq_k 40, zq_copy, zq_aldg zG1, zq_ildg zG2, zq_k 80, zq_add, zq_aldg zG0, zq_getfg 5 zG2, zq_k 0, zq_k 40, zq_copy, zq_aldg zG1, zq_ildg zG2, zq_k 120, zq_add, zq_aldg zG0, zq_getfg 5 zG4, zq_k 0, zq_k 8, zq_copy, zq_aldg zG1, zq_ildg zG2, zq_k 128, zq_add, zq_aldg zG0, zq_getfg 5 zG5, zq_k 0, zq_k 8, zq_copy, zq_aldg zG3, zq_ildg zG4, zq_aldg zG0, zq_getfg 5 zG3, zq_k 0, zq_k 40, zq_copy, zq_aldg zG0, zq_aldg zG3, zq_ildg zG4, zq_k 40, zq_add, zq_ild_ 1, zq_putf 5 6 1, zq_aldg zG0, zq_aldg zG1, zq_ildg zG2, zq_k 136, zq_add, zq_ild_ 0, zq_putf 5 7 0, zq_aldg zG0, zq_aldg zG1, zq_ildg zG2, zq_k 137, zq_add, zq_ild_ 0, zq_putf 5 8 0, zq_vret]
noncomputable def xf_81_0 : zE → zKn := fun E => zq_aldg zG1 (zq_ildg zG2 (zq_aldg zG0 (zq_getfg 5 zG0 (zq_k 0 (zq_k 40 (zq_copy (zq_aldg zG1 (zq_ildg zG2 (zq_k 40 (zq_add (zq_aldg zG0 (zq_getfg 5 zG1 (zq_k 0 (zq_k 40 (zq_copy (zq_aldg zG1 (zq_ildg zG2 (zq_k 80 (zq_add (zq_aldg zG0 (zq_getfg 5 zG2 (zq_k 0 (zq_k 40 (zq_copy (zq_aldg zG1 (zq_ildg zG2 (zq_k 120 (zq_add (zq_aldg zG0 (zq_getfg 5 zG4 (zq_k 0 (zq_k 8 (zq_copy (zq_aldg zG1 (zq_ildg zG2 (zq_k 128 (zq_add (zq_aldg zG0 (zq_getfg 5 zG5 (zq_k 0 (zq_k 8 (zq_copy (zq_aldg zG3 (zq_ildg zG4 (zq_aldg zG0 (zq_getfg 5 zG3 (zq_k 0 (zq_k 40 (zq_copy (zq_aldg zG0 (zq_aldg zG3 (zq_ildg zG4 (zq_k 40 (zq_add (zq_ild_ 1 (zq_putf 5 6 1 (zq_aldg zG0 (zq_aldg zG1 (zq_ildg zG2 (zq_k 136 (zq_add (zq_ild_ 0 (zq_putf 5 7 0 (zq_aldg zG0 (zq_aldg zG1 (zq_ildg zG2 (zq_k 137 (zq_add (zq_ild_ 0 (zq_putf 5 8 0 (zq_vret (zNil) E) E) E) E) E) E) E) E) E) E) E) E) E) E) E) E) E) E) E) E) E) E) E) E) E) E) E) E) E) E) E) E) E) E) E) E) E) E) E) E) E) E) E) E) E) E) E) E) E) E) E) E) E) E) E) E) E) E) E) E) E) E) E) E) E) E) E) E) E) E) E) E
set_option maxRecDepth 100000 in
theorem xe_81_0 : xf_81_0 = zEx xb_81_0 := by
  unfold xf_81_0 xb_81_0
  rfl
theorem xc_81_0 : zCd 81 [0] 0 xb_81_0 := zc_aload_n xj_81 1 1 rfl rfl zf_ald_1 (zc_iload_n xj_81 2 2 rfl rfl zf_ild_2 (zc_aload_n xj_81 3 0 rfl rfl zf_ald_0 (zc_getf xj_81 6 9 5 0 0 rfl rfl (zf_getf_0 _) (zc_iconst xj_81 7 0 0 rfl rfl rfl (zc_bipush xj_81 9 40 40 rfl rfl rfl (zc_invokestatic7 xj_81 12 31 0 5 31 0 0 rfl rfl (zc_aload_n xj_81 13 1 rfl rfl zf_ald_1 (zc_iload_n xj_81 14 2 rfl rfl zf_ild_2 (zc_bipush xj_81 16 40 40 rfl rfl rfl (zc_iadd xj_81 17 rfl rfl (zc_aload_n xj_81 18 0 rfl rfl zf_ald_0 (zc_getf xj_81 21 15 5 1 3 rfl rfl (zf_getf_1 _) (zc_iconst xj_81 22 0 0 rfl rfl rfl (zc_bipush xj_81 24 40 40 rfl rfl rfl (zc_invokestatic7 xj_81 27 31 0 5 31 0 0 rfl rfl (zc_aload_n xj_81 28 1 rfl rfl zf_ald_1 (zc_iload_n xj_81 29 2 rfl rfl zf_ild_2 (zc_bipush xj_81 31 80 80 rfl rfl rfl (zc_iadd xj_81 32 rfl rfl (zc_aload_n xj_81 33 0 rfl rfl zf_ald_0 (zc_getf xj_81 36 18 5 2 6 rfl rfl (zf_getf_2 _) (zc_iconst xj_81 37 0 0 rfl rfl rfl (zc_bipush xj_81 39 40 40 rfl rfl rfl (zc_invokestatic7 xj_81 42 31 0 5 31 0 0 rfl rfl (zc_aload_n xj_81 43 1 rfl rfl zf_ald_1 (zc_iload_n xj_81 44 2 rfl rfl zf_ild_2 (zc_bipush xj_81 46 120 120 rfl rfl rfl (zc_iadd xj_81 47 rfl rfl (zc_aload_n xj_81 48 0 rfl rfl zf_ald_0 (zc_getf xj_81 51 25 5 4 11 rfl rfl (zf_getf_4 _) (zc_iconst xj_81 52 0 0 rfl rfl rfl (zc_bipush xj_81 54 8 8 rfl rfl rfl (zc_invokestatic7 xj_81 57 31 0 5 31 0 0 rfl rfl (zc_aload_n xj_81 58 1 rfl rfl zf_ald_1 (zc_iload_n xj_81 59 2 rfl rfl zf_ild_2 (zc_sipush xj_81 62 128 128 rfl rfl rfl (zc_iadd xj_81 63 rfl rfl (zc_aload_n xj_81 64 0 rfl rfl zf_ald_0 (zc_getf xj_81 67 28 5 5 14 rfl rfl (zf_getf_5 _) (zc_iconst xj_81 68 0 0 rfl rfl rfl (zc_bipush xj_81 70 8 8 rfl rfl rfl (zc_invokestatic7 xj_81 73 31 0 5 31 0 0 rfl rfl (zc_aload_n xj_81 74 3 rfl rfl zf_ald_3 (zc_iload xj_81 76 4 rfl rfl zf_ild_4 (zc_aload_n xj_81 77 0 rfl rfl zf_ald_0 (zc_getf xj_81 80 21 5 3 9 rfl rfl (zf_getf_3 _) (zc_iconst xj_81 81 0 0 rfl rfl rfl (zc_bipush xj_81 83 40 40 rfl rfl rfl (zc_invokestatic7 xj_81 86 31 0 5 31 0 0 rfl rfl (zc_aload_n xj_81 87 0 rfl rfl zf_ald_0 (zc_aload_n xj_81 88 3 rfl rfl zf_ald_3 (zc_iload xj_81 90 4 rfl rfl zf_ild_4 (zc_bipush xj_81 92 40 40 rfl rfl rfl (zc_iadd xj_81 93 rfl rfl (zc_laload xj_81 94 rfl rfl (zc_putf xj_81 97 37 5 6 17 1 rfl rfl rfl (zc_aload_n xj_81 98 0 rfl rfl zf_ald_0 (zc_aload_n xj_81 99 1 rfl rfl zf_ald_1 (zc_iload_n xj_81 100 2 rfl rfl zf_ild_2 (zc_sipush xj_81 103 136 136 rfl rfl rfl (zc_iadd xj_81 104 rfl rfl (zc_iaload xj_81 105 rfl rfl (zc_putf xj_81 108 41 5 7 19 0 rfl rfl rfl (zc_aload_n xj_81 109 0 rfl rfl zf_ald_0 (zc_aload_n xj_81 110 1 rfl rfl zf_ald_1 (zc_iload_n xj_81 111 2 rfl rfl zf_ild_2 (zc_sipush xj_81 114 137 137 rfl rfl rfl (zc_iadd xj_81 115 rfl rfl (zc_iaload xj_81 116 rfl rfl (zc_putf xj_81 119 45 5 8 22 0 rfl rfl rfl (zc_return_ xj_81 120 rfl rfl (trivial))))))))))))))))))))))))))))))))))))))))))))))))))))))))))))))))))))))))
noncomputable def xm_81 : Lean.RArray (zE → zKn) := .leaf xf_81_0
theorem xa_81 : zCdAll 81 [0] xm_81 := zAll2_ok (P := fun t => ∃ c, zCd 81 [0] t c ∧ xm_81.get t = zEx c) ⟨⟨_, xc_81_0, xe_81_0⟩, trivial⟩
/-- SquareMesh$Told.has -/
theorem xj_82 : ∀ pc, pI 82 pc = pJ_82 pc := fun _ => rfl
noncomputable def xb_82_2 : List zF := [zq_iret 1]
noncomputable def xf_82_2 : zE → zKn := fun E => zq_iret 1 (zNil) E
theorem xe_82_2 : xf_82_2 = zEx xb_82_2 := by
  unfold xf_82_2 xb_82_2
  rfl
theorem xc_82_2 : zCd 82 [0, 27, 28] 28 xb_82_2 := zc_ireturn1 xj_82 29 rfl rfl (trivial)
noncomputable def xb_82_1 : List zF := zq_k 0 :: xb_82_2
noncomputable def xf_82_1 : zE → zKn := fun E => zq_k 0 (xf_82_2 E) E
theorem xe_82_1 : xf_82_1 = zEx xb_82_1 := by
  unfold xf_82_1 xb_82_1
  rw [xe_82_2]
  rfl
theorem xc_82_1 : zCd 82 [0, 27, 28] 27 xb_82_1 := zc_iconst xj_82 28 0 0 rfl rfl rfl (xc_82_2)
noncomputable def xb_82_0 : List zF := [zq_ildg zG1, zq_if_lt 27, zq_ildg zG1, zq_k 40, zq_ic_ge 27, zq_aldg zG0, zq_getfg 5 zG6, zq_ildg zG1, zq_lushr, zq_kl 1, zq_land, zq_kl 0, zq_lcmp, zq_if_eq 27, zq_k 1, zq_goto 28]
noncomputable def xf_82_0 : zE → zKn := fun E => zq_ildg zG1 (zq_if_lt 27 (zq_ildg zG1 (zq_k 40 (zq_ic_ge 27 (zq_aldg zG0 (zq_getfg 5 zG6 (zq_ildg zG1 (zq_lushr (zq_kl 1 (zq_land (zq_kl 0 (zq_lcmp (zq_if_eq 27 (zq_k 1 (zq_goto 28 (zNil) E) E) E) E) E) E) E) E) E) E) E) E) E) E) E) E
theorem xe_82_0 : xf_82_0 = zEx xb_82_0 := by
  unfold xf_82_0 xb_82_0
  rfl
theorem xc_82_0 : zCd 82 [0, 27, 28] 0 xb_82_0 := zc_iload_n xj_82 1 1 rfl rfl zf_ild_1 (zc_if_lt xj_82 4 26 27 rfl rfl rfl (zc_iload_n xj_82 5 1 rfl rfl zf_ild_1 (zc_bipush xj_82 7 40 40 rfl rfl rfl (zc_ic_ge xj_82 10 20 27 rfl rfl rfl (zc_aload_n xj_82 11 0 rfl rfl zf_ald_0 (zc_getf xj_82 14 37 5 6 17 rfl rfl (zf_getf_6 _) (zc_iload_n xj_82 15 1 rfl rfl zf_ild_1 (zc_lushr xj_82 16 rfl rfl (zc_lconst xj_82 17 1 rfl rfl (zc_land xj_82 18 rfl rfl (zc_lconst xj_82 19 0 rfl rfl (zc_lcmp xj_82 20 rfl rfl (zc_if_eq xj_82 23 7 27 rfl rfl rfl (zc_iconst xj_82 24 1 1 rfl rfl rfl (zc_goto xj_82 25 4 28 rfl rfl rfl (trivial))))))))))))))))
noncomputable def xm_82 : Lean.RArray (zE → zKn) := .branch 27 (.leaf xf_82_0) (.branch 28 (.leaf xf_82_1) (.leaf xf_82_2))
theorem xa_82 : zCdAll 82 [0, 27, 28] xm_82 := zAll2_ok (P := fun t => ∃ c, zCd 82 [0, 27, 28] t c ∧ xm_82.get t = zEx c) ⟨⟨_, xc_82_0, xe_82_0⟩, ⟨_, xc_82_1, xe_82_1⟩, ⟨_, xc_82_2, xe_82_2⟩, trivial⟩
/-- SquareMesh$Told.points -/
theorem xj_83 : ∀ pc, pI 83 pc = pJ_83 pc := fun _ => rfl
noncomputable def xb_83_0 : List zF := [zq_aldg zG0, zq_getfg 5 zG6, zq_calls 350 1 2, zq_iret 0]
noncomputable def xf_83_0 : zE → zKn := fun E => zq_aldg zG0 (zq_getfg 5 zG6 (zq_calls 350 1 2 (zq_iret 0 (zNil) E) E) E) E
theorem xe_83_0 : xf_83_0 = zEx xb_83_0 := by
  unfold xf_83_0 xb_83_0
  rfl
theorem xc_83_0 : zCd 83 [0] 0 xb_83_0 := zc_aload_n xj_83 1 0 rfl rfl zf_ald_0 (zc_getf xj_83 4 37 5 6 17 rfl rfl (zf_getf_6 _) (zc_invokestatic2 xj_83 7 48 350 1 124 0 2 rfl rfl rfl rfl (zc_ireturn0 xj_83 8 rfl rfl (trivial))))
noncomputable def xm_83 : Lean.RArray (zE → zKn) := .leaf xf_83_0
theorem xa_83 : zCdAll 83 [0] xm_83 := zAll2_ok (P := fun t => ∃ c, zCd 83 [0] t c ∧ xm_83.get t = zEx c) ⟨⟨_, xc_83_0, xe_83_0⟩, trivial⟩
/-- SquareMesh$Told.place -/
theorem xj_84 : ∀ pc, pI 84 pc = pJ_84 pc := fun _ => rfl
noncomputable def xb_84_0 : List zF := [zq_aldg zG0, zq_getfg 5 zG0, zq_ildg zG1, zq_ildg zG2, zq_iast, zq_aldg zG0, zq_getfg 5 zG1, zq_ildg zG1, zq_ildg zG3, zq_iast, zq_aldg zG0, zq_dup, zq_getfg 5 zG6, zq_kl 1, zq_ildg zG1, zq_lshl, zq_lor, zq_putf 5 6 1, zq_vret]
noncomputable def xf_84_0 : zE → zKn := fun E => zq_aldg zG0 (zq_getfg 5 zG0 (zq_ildg zG1 (zq_ildg zG2 (zq_iast (zq_aldg zG0 (zq_getfg 5 zG1 (zq_ildg zG1 (zq_ildg zG3 (zq_iast (zq_aldg zG0 (zq_dup (zq_getfg 5 zG6 (zq_kl 1 (zq_ildg zG1 (zq_lshl (zq_lor (zq_putf 5 6 1 (zq_vret (zNil) E) E) E) E) E) E) E) E) E) E) E) E) E) E) E) E) E) E) E
theorem xe_84_0 : xf_84_0 = zEx xb_84_0 := by
  unfold xf_84_0 xb_84_0
  rfl
theorem xc_84_0 : zCd 84 [0] 0 xb_84_0 := zc_aload_n xj_84 1 0 rfl rfl zf_ald_0 (zc_getf xj_84 4 9 5 0 0 rfl rfl (zf_getf_0 _) (zc_iload_n xj_84 5 1 rfl rfl zf_ild_1 (zc_iload_n xj_84 6 2 rfl rfl zf_ild_2 (zc_iastore xj_84 7 rfl rfl (zc_aload_n xj_84 8 0 rfl rfl zf_ald_0 (zc_getf xj_84 11 15 5 1 3 rfl rfl (zf_getf_1 _) (zc_iload_n xj_84 12 1 rfl rfl zf_ild_1 (zc_iload_n xj_84 13 3 rfl rfl zf_ild_3 (zc_iastore xj_84 14 rfl rfl (zc_aload_n xj_84 15 0 rfl rfl zf_ald_0 (zc_dup xj_84 16 rfl rfl (zc_getf xj_84 19 37 5 6 17 rfl rfl (zf_getf_6 _) (zc_lconst xj_84 20 1 rfl rfl (zc_iload_n xj_84 21 1 rfl rfl zf_ild_1 (zc_lshl xj_84 22 rfl rfl (zc_lor xj_84 23 rfl rfl (zc_putf xj_84 26 37 5 6 17 1 rfl rfl rfl (zc_return_ xj_84 27 rfl rfl (trivial)))))))))))))))))))
noncomputable def xm_84 : Lean.RArray (zE → zKn) := .leaf xf_84_0
theorem xa_84 : zCdAll 84 [0] xm_84 := zAll2_ok (P := fun t => ∃ c, zCd 84 [0] t c ∧ xm_84.get t = zEx c) ⟨⟨_, xc_84_0, xe_84_0⟩, trivial⟩
/-- SquareMesh$Told.remove -/
theorem xj_85 : ∀ pc, pI 85 pc = pJ_85 pc := fun _ => rfl
noncomputable def xb_85_0 : List zF := [zq_aldg zG0, zq_dup, zq_getfg 5 zG6, zq_kl 1, zq_ildg zG1, zq_lshl, zq_kl 18446744073709551615, zq_lxor, zq_land, zq_putf 5 6 1, zq_vret]
noncomputable def xf_85_0 : zE → zKn := fun E => zq_aldg zG0 (zq_dup (zq_getfg 5 zG6 (zq_kl 1 (zq_ildg zG1 (zq_lshl (zq_kl 18446744073709551615 (zq_lxor (zq_land (zq_putf 5 6 1 (zq_vret (zNil) E) E) E) E) E) E) E) E) E) E) E
theorem xe_85_0 : xf_85_0 = zEx xb_85_0 := by
  unfold xf_85_0 xb_85_0
  rfl
theorem xc_85_0 : zCd 85 [0] 0 xb_85_0 := zc_aload_n xj_85 1 0 rfl rfl zf_ald_0 (zc_dup xj_85 2 rfl rfl (zc_getf xj_85 5 37 5 6 17 rfl rfl (zf_getf_6 _) (zc_lconst xj_85 6 1 rfl rfl (zc_iload_n xj_85 7 1 rfl rfl zf_ild_1 (zc_lshl xj_85 8 rfl rfl (zc_ldc2_w xj_85 11 54 18446744073709551615 0 rfl rfl rfl (zc_lxor xj_85 12 rfl rfl (zc_land xj_85 13 rfl rfl (zc_putf xj_85 16 37 5 6 17 1 rfl rfl rfl (zc_return_ xj_85 17 rfl rfl (trivial)))))))))))
noncomputable def xm_85 : Lean.RArray (zE → zKn) := .leaf xf_85_0
theorem xa_85 : zCdAll 85 [0] xm_85 := zAll2_ok (P := fun t => ∃ c, zCd 85 [0] t c ∧ xm_85.get t = zEx c) ⟨⟨_, xc_85_0, xe_85_0⟩, trivial⟩
/-- SquareMesh$Told.atPlace -/
theorem xj_86 : ∀ pc, pI 86 pc = pJ_86 pc := fun _ => rfl
noncomputable def xb_86_3 : List zF := [zq_k 4294967295, zq_iret 0]
noncomputable def xf_86_3 : zE → zKn := fun E => zq_k 4294967295 (zq_iret 0 (zNil) E) E
theorem xe_86_3 : xf_86_3 = zEx xb_86_3 := by
  unfold xf_86_3 xb_86_3
  rfl
theorem xc_86_3 : zCd 86 [0, 2, 38, 44] 44 xb_86_3 := zc_iconst xj_86 45 (-1) 4294967295 rfl rfl rfl (zc_ireturn0 xj_86 46 rfl rfl (trivial))
noncomputable def xb_86_2 : List zF := [zq_incg zG3 zE3 1, zq_goto 2]
noncomputable def xf_86_2 : zE → zKn := fun E => zq_incg zG3 zE3 1 (zq_goto 2 (zNil) E) E
theorem xe_86_2 : xf_86_2 = zEx xb_86_2 := by
  unfold xf_86_2 xb_86_2
  rfl
theorem xc_86_2 : zCd 86 [0, 2, 38, 44] 38 xb_86_2 := zc_iinc xj_86 41 3 1 1 rfl rfl rfl (zf_inc_3 _) (zc_goto xj_86 42 (-39) 2 rfl rfl rfl (trivial))
noncomputable def xb_86_1 : List zF := [zq_ildg zG3, zq_k 40, zq_ic_ge 44, zq_aldg zG0, zq_ildg zG3, zq_calli 82 1 5 2, zq_if_eq 38, zq_aldg zG0, zq_getfg 5 zG0, zq_ildg zG3, zq_ild_ 0, zq_ildg zG1, zq_ic_ne 38, zq_aldg zG0, zq_getfg 5 zG1, zq_ildg zG3, zq_ild_ 0, zq_ildg zG2, zq_ic_ne 38, zq_ildg zG3, zq_iret 0]
noncomputable def xf_86_1 : zE → zKn := fun E => zq_ildg zG3 (zq_k 40 (zq_ic_ge 44 (zq_aldg zG0 (zq_ildg zG3 (zq_calli 82 1 5 2 (zq_if_eq 38 (zq_aldg zG0 (zq_getfg 5 zG0 (zq_ildg zG3 (zq_ild_ 0 (zq_ildg zG1 (zq_ic_ne 38 (zq_aldg zG0 (zq_getfg 5 zG1 (zq_ildg zG3 (zq_ild_ 0 (zq_ildg zG2 (zq_ic_ne 38 (zq_ildg zG3 (zq_iret 0 (zNil) E) E) E) E) E) E) E) E) E) E) E) E) E) E) E) E) E) E) E) E) E
theorem xe_86_1 : xf_86_1 = zEx xb_86_1 := by
  unfold xf_86_1 xb_86_1
  rfl
theorem xc_86_1 : zCd 86 [0, 2, 38, 44] 2 xb_86_1 := zc_iload_n xj_86 3 3 rfl rfl zf_ild_3 (zc_bipush xj_86 5 40 40 rfl rfl rfl (zc_ic_ge xj_86 8 39 44 rfl rfl rfl (zc_aload_n xj_86 9 0 rfl rfl zf_ald_0 (zc_iload_n xj_86 10 3 rfl rfl zf_ild_3 (zc_invokevirtual1 xj_86 13 56 82 1 37 5 2 rfl rfl rfl rfl (zc_if_eq xj_86 16 25 38 rfl rfl rfl (zc_aload_n xj_86 17 0 rfl rfl zf_ald_0 (zc_getf xj_86 20 9 5 0 0 rfl rfl (zf_getf_0 _) (zc_iload_n xj_86 21 3 rfl rfl zf_ild_3 (zc_iaload xj_86 22 rfl rfl (zc_iload_n xj_86 23 1 rfl rfl zf_ild_1 (zc_ic_ne xj_86 26 15 38 rfl rfl rfl (zc_aload_n xj_86 27 0 rfl rfl zf_ald_0 (zc_getf xj_86 30 15 5 1 3 rfl rfl (zf_getf_1 _) (zc_iload_n xj_86 31 3 rfl rfl zf_ild_3 (zc_iaload xj_86 32 rfl rfl (zc_iload_n xj_86 33 2 rfl rfl zf_ild_2 (zc_ic_ne xj_86 36 5 38 rfl rfl rfl (zc_iload_n xj_86 37 3 rfl rfl zf_ild_3 (zc_ireturn0 xj_86 38 rfl rfl (trivial)))))))))))))))))))))
noncomputable def xb_86_0 : List zF := zq_k 0 :: zq_istg zE3 :: xb_86_1
noncomputable def xf_86_0 : zE → zKn := fun E => zq_k 0 (zq_istg zE3 (xf_86_1 E) E) E
theorem xe_86_0 : xf_86_0 = zEx xb_86_0 := by
  unfold xf_86_0 xb_86_0
  rw [xe_86_1]
  rfl
theorem xc_86_0 : zCd 86 [0, 2, 38, 44] 0 xb_86_0 := zc_iconst xj_86 1 0 0 rfl rfl rfl (zc_istore_n xj_86 2 3 rfl rfl zf_ist_3 (xc_86_1))
noncomputable def xm_86 : Lean.RArray (zE → zKn) := .branch 38 (.branch 2 (.leaf xf_86_0) (.leaf xf_86_1)) (.branch 44 (.leaf xf_86_2) (.leaf xf_86_3))
theorem xa_86 : zCdAll 86 [0, 2, 38, 44] xm_86 := zAll2_ok (P := fun t => ∃ c, zCd 86 [0, 2, 38, 44] t c ∧ xm_86.get t = zEx c) ⟨⟨_, xc_86_0, xe_86_0⟩, ⟨_, xc_86_1, xe_86_1⟩, ⟨_, xc_86_2, xe_86_2⟩, ⟨_, xc_86_3, xe_86_3⟩, trivial⟩
/-- SquareMesh$Told.leastUnused -/
theorem xj_87 : ∀ pc, pI 87 pc = pJ_87 pc := fun _ => rfl
noncomputable def xb_87_3 : List zF := [zq_k 4294967295, zq_iret 0]
noncomputable def xf_87_3 : zE → zKn := fun E => zq_k 4294967295 (zq_iret 0 (zNil) E) E
theorem xe_87_3 : xf_87_3 = zEx xb_87_3 := by
  unfold xf_87_3 xb_87_3
  rfl
theorem xc_87_3 : zCd 87 [0, 2, 18, 24] 24 xb_87_3 := zc_iconst xj_87 25 (-1) 4294967295 rfl rfl rfl (zc_ireturn0 xj_87 26 rfl rfl (trivial))
noncomputable def xb_87_2 : List zF := [zq_incg zG1 zE1 1, zq_goto 2]
noncomputable def xf_87_2 : zE → zKn := fun E => zq_incg zG1 zE1 1 (zq_goto 2 (zNil) E) E
theorem xe_87_2 : xf_87_2 = zEx xb_87_2 := by
  unfold xf_87_2 xb_87_2
  rfl
theorem xc_87_2 : zCd 87 [0, 2, 18, 24] 18 xb_87_2 := zc_iinc xj_87 21 1 1 1 rfl rfl rfl (zf_inc_1 _) (zc_goto xj_87 22 (-19) 2 rfl rfl rfl (trivial))
noncomputable def xb_87_1 : List zF := [zq_ildg zG1, zq_k 40, zq_ic_ge 24, zq_aldg zG0, zq_ildg zG1, zq_calli 82 1 5 2, zq_if_ne 18, zq_ildg zG1, zq_iret 0]
noncomputable def xf_87_1 : zE → zKn := fun E => zq_ildg zG1 (zq_k 40 (zq_ic_ge 24 (zq_aldg zG0 (zq_ildg zG1 (zq_calli 82 1 5 2 (zq_if_ne 18 (zq_ildg zG1 (zq_iret 0 (zNil) E) E) E) E) E) E) E) E) E
theorem xe_87_1 : xf_87_1 = zEx xb_87_1 := by
  unfold xf_87_1 xb_87_1
  rfl
theorem xc_87_1 : zCd 87 [0, 2, 18, 24] 2 xb_87_1 := zc_iload_n xj_87 3 1 rfl rfl zf_ild_1 (zc_bipush xj_87 5 40 40 rfl rfl rfl (zc_ic_ge xj_87 8 19 24 rfl rfl rfl (zc_aload_n xj_87 9 0 rfl rfl zf_ald_0 (zc_iload_n xj_87 10 1 rfl rfl zf_ild_1 (zc_invokevirtual1 xj_87 13 56 82 1 37 5 2 rfl rfl rfl rfl (zc_if_ne xj_87 16 5 18 rfl rfl rfl (zc_iload_n xj_87 17 1 rfl rfl zf_ild_1 (zc_ireturn0 xj_87 18 rfl rfl (trivial)))))))))
noncomputable def xb_87_0 : List zF := zq_k 4 :: zq_istg zE1 :: xb_87_1
noncomputable def xf_87_0 : zE → zKn := fun E => zq_k 4 (zq_istg zE1 (xf_87_1 E) E) E
theorem xe_87_0 : xf_87_0 = zEx xb_87_0 := by
  unfold xf_87_0 xb_87_0
  rw [xe_87_1]
  rfl
theorem xc_87_0 : zCd 87 [0, 2, 18, 24] 0 xb_87_0 := zc_iconst xj_87 1 4 4 rfl rfl rfl (zc_istore_n xj_87 2 1 rfl rfl zf_ist_1 (xc_87_1))
noncomputable def xm_87 : Lean.RArray (zE → zKn) := .branch 18 (.branch 2 (.leaf xf_87_0) (.leaf xf_87_1)) (.branch 24 (.leaf xf_87_2) (.leaf xf_87_3))
theorem xa_87 : zCdAll 87 [0, 2, 18, 24] xm_87 := zAll2_ok (P := fun t => ∃ c, zCd 87 [0, 2, 18, 24] t c ∧ xm_87.get t = zEx c) ⟨⟨_, xc_87_0, xe_87_0⟩, ⟨_, xc_87_1, xe_87_1⟩, ⟨_, xc_87_2, xe_87_2⟩, ⟨_, xc_87_3, xe_87_3⟩, trivial⟩
/-- SquareMesh$Told.takes -/
theorem xj_88 : ∀ pc, pI 88 pc = pJ_88 pc := fun _ => rfl
noncomputable def xb_88_2 : List zF := [zq_iret 1]
noncomputable def xf_88_2 : zE → zKn := fun E => zq_iret 1 (zNil) E
theorem xe_88_2 : xf_88_2 = zEx xb_88_2 := by
  unfold xf_88_2 xb_88_2
  rfl
theorem xc_88_2 : zCd 88 [0, 30, 31] 31 xb_88_2 := zc_ireturn1 xj_88 32 rfl rfl (trivial)
noncomputable def xb_88_1 : List zF := zq_k 0 :: xb_88_2
noncomputable def xf_88_1 : zE → zKn := fun E => zq_k 0 (xf_88_2 E) E
theorem xe_88_1 : xf_88_1 = zEx xb_88_1 := by
  unfold xf_88_1 xb_88_1
  rw [xe_88_2]
  rfl
theorem xc_88_1 : zCd 88 [0, 30, 31] 30 xb_88_1 := zc_iconst xj_88 31 0 0 rfl rfl rfl (xc_88_2)
noncomputable def xb_88_0 : List zF := [zq_ildg zG1, zq_ildg zG2, zq_calls 182 2 2, zq_if_eq 30, zq_aldg zG0, zq_ildg zG1, zq_ildg zG2, zq_calli 86 2 5 4, zq_k 4294967295, zq_ic_ne 30, zq_aldg zG0, zq_calli 87 0 5 2, zq_k 4294967295, zq_ic_eq 30, zq_k 1, zq_goto 31]
noncomputable def xf_88_0 : zE → zKn := fun E => zq_ildg zG1 (zq_ildg zG2 (zq_calls 182 2 2 (zq_if_eq 30 (zq_aldg zG0 (zq_ildg zG1 (zq_ildg zG2 (zq_calli 86 2 5 4 (zq_k 4294967295 (zq_ic_ne 30 (zq_aldg zG0 (zq_calli 87 0 5 2 (zq_k 4294967295 (zq_ic_eq 30 (zq_k 1 (zq_goto 31 (zNil) E) E) E) E) E) E) E) E) E) E) E) E) E) E) E) E
theorem xe_88_0 : xf_88_0 = zEx xb_88_0 := by
  unfold xf_88_0 xb_88_0
  rfl
theorem xc_88_0 : zCd 88 [0, 30, 31] 0 xb_88_0 := zc_iload_n xj_88 1 1 rfl rfl zf_ild_1 (zc_iload_n xj_88 2 2 rfl rfl zf_ild_2 (zc_invokestatic4 xj_88 5 60 182 2 35 0 2 rfl rfl rfl rfl (zc_if_eq xj_88 8 25 30 rfl rfl rfl (zc_aload_n xj_88 9 0 rfl rfl zf_ald_0 (zc_iload_n xj_88 10 1 rfl rfl zf_ild_1 (zc_iload_n xj_88 11 2 rfl rfl zf_ild_2 (zc_invokevirtual1 xj_88 14 64 86 2 36 5 4 rfl rfl rfl rfl (zc_iconst xj_88 15 (-1) 4294967295 rfl rfl rfl (zc_ic_ne xj_88 18 15 30 rfl rfl rfl (zc_aload_n xj_88 19 0 rfl rfl zf_ald_0 (zc_invokevirtual1 xj_88 22 68 87 0 38 5 2 rfl rfl rfl rfl (zc_iconst xj_88 23 (-1) 4294967295 rfl rfl rfl (zc_ic_eq xj_88 26 7 30 rfl rfl rfl (zc_iconst xj_88 27 1 1 rfl rfl rfl (zc_goto xj_88 28 4 31 rfl rfl rfl (trivial))))))))))))))))
noncomputable def xm_88 : Lean.RArray (zE → zKn) := .branch 30 (.leaf xf_88_0) (.branch 31 (.leaf xf_88_1) (.leaf xf_88_2))
theorem xa_88 : zCdAll 88 [0, 30, 31] xm_88 := zAll2_ok (P := fun t => ∃ c, zCd 88 [0, 30, 31] t c ∧ xm_88.get t = zEx c) ⟨⟨_, xc_88_0, xe_88_0⟩, ⟨_, xc_88_1, xe_88_1⟩, ⟨_, xc_88_2, xe_88_2⟩, trivial⟩
/-- SquareMesh$Told.isLoose -/
theorem xj_89 : ∀ pc, pI 89 pc = pJ_89 pc := fun _ => rfl
noncomputable def xb_89_2 : List zF := [zq_iret 1]
noncomputable def xf_89_2 : zE → zKn := fun E => zq_iret 1 (zNil) E
theorem xe_89_2 : xf_89_2 = zEx xb_89_2 := by
  unfold xf_89_2 xb_89_2
  rfl
theorem xc_89_2 : zCd 89 [0, 23, 24] 24 xb_89_2 := zc_ireturn1 xj_89 25 rfl rfl (trivial)
noncomputable def xb_89_1 : List zF := zq_k 0 :: xb_89_2
noncomputable def xf_89_1 : zE → zKn := fun E => zq_k 0 (xf_89_2 E) E
theorem xe_89_1 : xf_89_1 = zEx xb_89_1 := by
  unfold xf_89_1 xb_89_1
  rw [xe_89_2]
  rfl
theorem xc_89_1 : zCd 89 [0, 23, 24] 23 xb_89_1 := zc_iconst xj_89 24 0 0 rfl rfl rfl (xc_89_2)
noncomputable def xb_89_0 : List zF := [zq_aldg zG0, zq_ildg zG1, zq_calli 82 1 5 2, zq_if_eq 23, zq_aldg zG0, zq_getfg 5 zG3, zq_ildg zG1, zq_ild_ 1, zq_kl 0, zq_lcmp, zq_if_ne 23, zq_k 1, zq_goto 24]
noncomputable def xf_89_0 : zE → zKn := fun E => zq_aldg zG0 (zq_ildg zG1 (zq_calli 82 1 5 2 (zq_if_eq 23 (zq_aldg zG0 (zq_getfg 5 zG3 (zq_ildg zG1 (zq_ild_ 1 (zq_kl 0 (zq_lcmp (zq_if_ne 23 (zq_k 1 (zq_goto 24 (zNil) E) E) E) E) E) E) E) E) E) E) E) E) E
theorem xe_89_0 : xf_89_0 = zEx xb_89_0 := by
  unfold xf_89_0 xb_89_0
  rfl
theorem xc_89_0 : zCd 89 [0, 23, 24] 0 xb_89_0 := zc_aload_n xj_89 1 0 rfl rfl zf_ald_0 (zc_iload_n xj_89 2 1 rfl rfl zf_ild_1 (zc_invokevirtual1 xj_89 5 56 82 1 37 5 2 rfl rfl rfl rfl (zc_if_eq xj_89 8 18 23 rfl rfl rfl (zc_aload_n xj_89 9 0 rfl rfl zf_ald_0 (zc_getf xj_89 12 21 5 3 9 rfl rfl (zf_getf_3 _) (zc_iload_n xj_89 13 1 rfl rfl zf_ild_1 (zc_laload xj_89 14 rfl rfl (zc_lconst xj_89 15 0 rfl rfl (zc_lcmp xj_89 16 rfl rfl (zc_if_ne xj_89 19 7 23 rfl rfl rfl (zc_iconst xj_89 20 1 1 rfl rfl rfl (zc_goto xj_89 21 4 24 rfl rfl rfl (trivial)))))))))))))
noncomputable def xm_89 : Lean.RArray (zE → zKn) := .branch 23 (.leaf xf_89_0) (.branch 24 (.leaf xf_89_1) (.leaf xf_89_2))
theorem xa_89 : zCdAll 89 [0, 23, 24] xm_89 := zAll2_ok (P := fun t => ∃ c, zCd 89 [0, 23, 24] t c ∧ xm_89.get t = zEx c) ⟨⟨_, xc_89_0, xe_89_0⟩, ⟨_, xc_89_1, xe_89_1⟩, ⟨_, xc_89_2, xe_89_2⟩, trivial⟩
/-- SquareMesh$Told.isOnBorder -/
theorem xj_90 : ∀ pc, pI 90 pc = pJ_90 pc := fun _ => rfl
noncomputable def xb_90_3 : List zF := [zq_iret 1]
noncomputable def xf_90_3 : zE → zKn := fun E => zq_iret 1 (zNil) E
theorem xe_90_3 : xf_90_3 = zEx xb_90_3 := by
  unfold xf_90_3 xb_90_3
  rfl
theorem xc_90_3 : zCd 90 [0, 30, 34, 35] 35 xb_90_3 := zc_ireturn1 xj_90 36 rfl rfl (trivial)
noncomputable def xb_90_2 : List zF := zq_k 0 :: xb_90_3
noncomputable def xf_90_2 : zE → zKn := fun E => zq_k 0 (xf_90_3 E) E
theorem xe_90_2 : xf_90_2 = zEx xb_90_2 := by
  unfold xf_90_2 xb_90_2
  rw [xe_90_3]
  rfl
theorem xc_90_2 : zCd 90 [0, 30, 34, 35] 34 xb_90_2 := zc_iconst xj_90 35 0 0 rfl rfl rfl (xc_90_3)
noncomputable def xb_90_1 : List zF := [zq_k 1, zq_goto 35]
noncomputable def xf_90_1 : zE → zKn := fun E => zq_k 1 (zq_goto 35 (zNil) E) E
theorem xe_90_1 : xf_90_1 = zEx xb_90_1 := by
  unfold xf_90_1 xb_90_1
  rfl
theorem xc_90_1 : zCd 90 [0, 30, 34, 35] 30 xb_90_1 := zc_iconst xj_90 31 1 1 rfl rfl rfl (zc_goto xj_90 32 4 35 rfl rfl rfl (trivial))
noncomputable def xb_90_0 : List zF := zq_aldg zG0 :: zq_getfg 5 zG0 :: zq_ildg zG1 :: zq_ild_ 0 :: zq_calls 353 1 1 :: zq_k 1000 :: zq_ic_eq 30 :: zq_aldg zG0 :: zq_getfg 5 zG1 :: zq_ildg zG1 :: zq_ild_ 0 :: zq_calls 353 1 1 :: zq_k 1000 :: zq_ic_ne 34 :: xb_90_1
noncomputable def xf_90_0 : zE → zKn := fun E => zq_aldg zG0 (zq_getfg 5 zG0 (zq_ildg zG1 (zq_ild_ 0 (zq_calls 353 1 1 (zq_k 1000 (zq_ic_eq 30 (zq_aldg zG0 (zq_getfg 5 zG1 (zq_ildg zG1 (zq_ild_ 0 (zq_calls 353 1 1 (zq_k 1000 (zq_ic_ne 34 (xf_90_1 E) E) E) E) E) E) E) E) E) E) E) E) E) E) E
theorem xe_90_0 : xf_90_0 = zEx xb_90_0 := by
  unfold xf_90_0 xb_90_0
  rw [xe_90_1]
  rfl
theorem xc_90_0 : zCd 90 [0, 30, 34, 35] 0 xb_90_0 := zc_aload_n xj_90 1 0 rfl rfl zf_ald_0 (zc_getf xj_90 4 9 5 0 0 rfl rfl (zf_getf_0 _) (zc_iload_n xj_90 5 1 rfl rfl zf_ild_1 (zc_iaload xj_90 6 rfl rfl (zc_invokestatic2 xj_90 9 72 353 1 151 0 1 rfl rfl rfl rfl (zc_sipush xj_90 12 1000 1000 rfl rfl rfl (zc_ic_eq xj_90 15 18 30 rfl rfl rfl (zc_aload_n xj_90 16 0 rfl rfl zf_ald_0 (zc_getf xj_90 19 15 5 1 3 rfl rfl (zf_getf_1 _) (zc_iload_n xj_90 20 1 rfl rfl zf_ild_1 (zc_iaload xj_90 21 rfl rfl (zc_invokestatic2 xj_90 24 72 353 1 151 0 1 rfl rfl rfl rfl (zc_sipush xj_90 27 1000 1000 rfl rfl rfl (zc_ic_ne xj_90 30 7 34 rfl rfl rfl (xc_90_1))))))))))))))
noncomputable def xm_90 : Lean.RArray (zE → zKn) := .branch 34 (.branch 30 (.leaf xf_90_0) (.leaf xf_90_1)) (.branch 35 (.leaf xf_90_2) (.leaf xf_90_3))
theorem xa_90 : zCdAll 90 [0, 30, 34, 35] xm_90 := zAll2_ok (P := fun t => ∃ c, zCd 90 [0, 30, 34, 35] t c ∧ xm_90.get t = zEx c) ⟨⟨_, xc_90_0, xe_90_0⟩, ⟨_, xc_90_1, xe_90_1⟩, ⟨_, xc_90_2, xe_90_2⟩, ⟨_, xc_90_3, xe_90_3⟩, trivial⟩
/-- SquareMesh$Told.isBound -/
theorem xj_91 : ∀ pc, pI 91 pc = pJ_91 pc := fun _ => rfl
noncomputable def xb_91_2 : List zF := [zq_iret 1]
noncomputable def xf_91_2 : zE → zKn := fun E => zq_iret 1 (zNil) E
theorem xe_91_2 : xf_91_2 = zEx xb_91_2 := by
  unfold xf_91_2 xb_91_2
  rfl
theorem xc_91_2 : zCd 91 [0, 19, 20] 20 xb_91_2 := zc_ireturn1 xj_91 21 rfl rfl (trivial)
noncomputable def xb_91_1 : List zF := zq_k 0 :: xb_91_2
noncomputable def xf_91_1 : zE → zKn := fun E => zq_k 0 (xf_91_2 E) E
theorem xe_91_1 : xf_91_1 = zEx xb_91_1 := by
  unfold xf_91_1 xb_91_1
  rw [xe_91_2]
  rfl
theorem xc_91_1 : zCd 91 [0, 19, 20] 19 xb_91_1 := zc_iconst xj_91 20 0 0 rfl rfl rfl (xc_91_2)
noncomputable def xb_91_0 : List zF := [zq_aldg zG0, zq_getfg 5 zG3, zq_ildg zG1, zq_ild_ 1, zq_ildg zG2, zq_lushr, zq_kl 1, zq_land, zq_kl 0, zq_lcmp, zq_if_eq 19, zq_k 1, zq_goto 20]
noncomputable def xf_91_0 : zE → zKn := fun E => zq_aldg zG0 (zq_getfg 5 zG3 (zq_ildg zG1 (zq_ild_ 1 (zq_ildg zG2 (zq_lushr (zq_kl 1 (zq_land (zq_kl 0 (zq_lcmp (zq_if_eq 19 (zq_k 1 (zq_goto 20 (zNil) E) E) E) E) E) E) E) E) E) E) E) E) E
theorem xe_91_0 : xf_91_0 = zEx xb_91_0 := by
  unfold xf_91_0 xb_91_0
  rfl
theorem xc_91_0 : zCd 91 [0, 19, 20] 0 xb_91_0 := zc_aload_n xj_91 1 0 rfl rfl zf_ald_0 (zc_getf xj_91 4 21 5 3 9 rfl rfl (zf_getf_3 _) (zc_iload_n xj_91 5 1 rfl rfl zf_ild_1 (zc_laload xj_91 6 rfl rfl (zc_iload_n xj_91 7 2 rfl rfl zf_ild_2 (zc_lushr xj_91 8 rfl rfl (zc_lconst xj_91 9 1 rfl rfl (zc_land xj_91 10 rfl rfl (zc_lconst xj_91 11 0 rfl rfl (zc_lcmp xj_91 12 rfl rfl (zc_if_eq xj_91 15 7 19 rfl rfl rfl (zc_iconst xj_91 16 1 1 rfl rfl rfl (zc_goto xj_91 17 4 20 rfl rfl rfl (trivial)))))))))))))
noncomputable def xm_91 : Lean.RArray (zE → zKn) := .branch 19 (.leaf xf_91_0) (.branch 20 (.leaf xf_91_1) (.leaf xf_91_2))
theorem xa_91 : zCdAll 91 [0, 19, 20] xm_91 := zAll2_ok (P := fun t => ∃ c, zCd 91 [0, 19, 20] t c ∧ xm_91.get t = zEx c) ⟨⟨_, xc_91_0, xe_91_0⟩, ⟨_, xc_91_1, xe_91_1⟩, ⟨_, xc_91_2, xe_91_2⟩, trivial⟩
/-- SquareMesh$Told.bind -/
theorem xj_92 : ∀ pc, pI 92 pc = pJ_92 pc := fun _ => rfl
noncomputable def xb_92_0 : List zF := [zq_aldg zG0, zq_getfg 5 zG3, zq_ildg zG1, zq_dup2, zq_ild_ 1, zq_kl 1, zq_ildg zG2, zq_lshl, zq_lor, zq_last, zq_aldg zG0, zq_getfg 5 zG3, zq_ildg zG2, zq_dup2, zq_ild_ 1, zq_kl 1, zq_ildg zG1, zq_lshl, zq_lor, zq_last, zq_vret]
noncomputable def xf_92_0 : zE → zKn := fun E => zq_aldg zG0 (zq_getfg 5 zG3 (zq_ildg zG1 (zq_dup2 (zq_ild_ 1 (zq_kl 1 (zq_ildg zG2 (zq_lshl (zq_lor (zq_last (zq_aldg zG0 (zq_getfg 5 zG3 (zq_ildg zG2 (zq_dup2 (zq_ild_ 1 (zq_kl 1 (zq_ildg zG1 (zq_lshl (zq_lor (zq_last (zq_vret (zNil) E) E) E) E) E) E) E) E) E) E) E) E) E) E) E) E) E) E) E) E) E
theorem xe_92_0 : xf_92_0 = zEx xb_92_0 := by
  unfold xf_92_0 xb_92_0
  rfl
theorem xc_92_0 : zCd 92 [0] 0 xb_92_0 := zc_aload_n xj_92 1 0 rfl rfl zf_ald_0 (zc_getf xj_92 4 21 5 3 9 rfl rfl (zf_getf_3 _) (zc_iload_n xj_92 5 1 rfl rfl zf_ild_1 (zc_dup2 xj_92 6 rfl rfl (zc_laload xj_92 7 rfl rfl (zc_lconst xj_92 8 1 rfl rfl (zc_iload_n xj_92 9 2 rfl rfl zf_ild_2 (zc_lshl xj_92 10 rfl rfl (zc_lor xj_92 11 rfl rfl (zc_lastore xj_92 12 rfl rfl (zc_aload_n xj_92 13 0 rfl rfl zf_ald_0 (zc_getf xj_92 16 21 5 3 9 rfl rfl (zf_getf_3 _) (zc_iload_n xj_92 17 2 rfl rfl zf_ild_2 (zc_dup2 xj_92 18 rfl rfl (zc_laload xj_92 19 rfl rfl (zc_lconst xj_92 20 1 rfl rfl (zc_iload_n xj_92 21 1 rfl rfl zf_ild_1 (zc_lshl xj_92 22 rfl rfl (zc_lor xj_92 23 rfl rfl (zc_lastore xj_92 24 rfl rfl (zc_return_ xj_92 25 rfl rfl (trivial)))))))))))))))))))))
noncomputable def xm_92 : Lean.RArray (zE → zKn) := .leaf xf_92_0
theorem xa_92 : zCdAll 92 [0] xm_92 := zAll2_ok (P := fun t => ∃ c, zCd 92 [0] t c ∧ xm_92.get t = zEx c) ⟨⟨_, xc_92_0, xe_92_0⟩, trivial⟩
/-- SquareMesh$Told.unbind -/
theorem xj_93 : ∀ pc, pI 93 pc = pJ_93 pc := fun _ => rfl
noncomputable def xb_93_0 : List zF := [zq_aldg zG0, zq_getfg 5 zG3, zq_ildg zG1, zq_dup2, zq_ild_ 1, zq_kl 1, zq_ildg zG2, zq_lshl, zq_kl 18446744073709551615, zq_lxor, zq_land, zq_last, zq_aldg zG0, zq_getfg 5 zG3, zq_ildg zG2, zq_dup2, zq_ild_ 1, zq_kl 1, zq_ildg zG1, zq_lshl, zq_kl 18446744073709551615, zq_lxor, zq_land, zq_last, zq_vret]
noncomputable def xf_93_0 : zE → zKn := fun E => zq_aldg zG0 (zq_getfg 5 zG3 (zq_ildg zG1 (zq_dup2 (zq_ild_ 1 (zq_kl 1 (zq_ildg zG2 (zq_lshl (zq_kl 18446744073709551615 (zq_lxor (zq_land (zq_last (zq_aldg zG0 (zq_getfg 5 zG3 (zq_ildg zG2 (zq_dup2 (zq_ild_ 1 (zq_kl 1 (zq_ildg zG1 (zq_lshl (zq_kl 18446744073709551615 (zq_lxor (zq_land (zq_last (zq_vret (zNil) E) E) E) E) E) E) E) E) E) E) E) E) E) E) E) E) E) E) E) E) E) E) E) E) E
theorem xe_93_0 : xf_93_0 = zEx xb_93_0 := by
  unfold xf_93_0 xb_93_0
  rfl
theorem xc_93_0 : zCd 93 [0] 0 xb_93_0 := zc_aload_n xj_93 1 0 rfl rfl zf_ald_0 (zc_getf xj_93 4 21 5 3 9 rfl rfl (zf_getf_3 _) (zc_iload_n xj_93 5 1 rfl rfl zf_ild_1 (zc_dup2 xj_93 6 rfl rfl (zc_laload xj_93 7 rfl rfl (zc_lconst xj_93 8 1 rfl rfl (zc_iload_n xj_93 9 2 rfl rfl zf_ild_2 (zc_lshl xj_93 10 rfl rfl (zc_ldc2_w xj_93 13 54 18446744073709551615 0 rfl rfl rfl (zc_lxor xj_93 14 rfl rfl (zc_land xj_93 15 rfl rfl (zc_lastore xj_93 16 rfl rfl (zc_aload_n xj_93 17 0 rfl rfl zf_ald_0 (zc_getf xj_93 20 21 5 3 9 rfl rfl (zf_getf_3 _) (zc_iload_n xj_93 21 2 rfl rfl zf_ild_2 (zc_dup2 xj_93 22 rfl rfl (zc_laload xj_93 23 rfl rfl (zc_lconst xj_93 24 1 rfl rfl (zc_iload_n xj_93 25 1 rfl rfl zf_ild_1 (zc_lshl xj_93 26 rfl rfl (zc_ldc2_w xj_93 29 54 18446744073709551615 0 rfl rfl rfl (zc_lxor xj_93 30 rfl rfl (zc_land xj_93 31 rfl rfl (zc_lastore xj_93 32 rfl rfl (zc_return_ xj_93 33 rfl rfl (trivial)))))))))))))))))))))))))
noncomputable def xm_93 : Lean.RArray (zE → zKn) := .leaf xf_93_0
theorem xa_93 : zCdAll 93 [0] xm_93 := zAll2_ok (P := fun t => ∃ c, zCd 93 [0] t c ∧ xm_93.get t = zEx c) ⟨⟨_, xc_93_0, xe_93_0⟩, trivial⟩
/-- SquareMesh$Told.draw -/
theorem xj_94 : ∀ pc, pI 94 pc = pJ_94 pc := fun _ => rfl
noncomputable def xb_94_2 : List zF := [zq_iret 0]
noncomputable def xf_94_2 : zE → zKn := fun E => zq_iret 0 (zNil) E
theorem xe_94_2 : xf_94_2 = zEx xb_94_2 := by
  unfold xf_94_2 xb_94_2
  rfl
theorem xc_94_2 : zCd 94 [0, 41, 42] 42 xb_94_2 := zc_ireturn0 xj_94 43 rfl rfl (trivial)
noncomputable def xb_94_1 : List zF := zq_k 0 :: xb_94_2
noncomputable def xf_94_1 : zE → zKn := fun E => zq_k 0 (xf_94_2 E) E
theorem xe_94_1 : xf_94_1 = zEx xb_94_1 := by
  unfold xf_94_1 xb_94_1
  rw [xe_94_2]
  rfl
theorem xc_94_1 : zCd 94 [0, 41, 42] 41 xb_94_1 := zc_iconst xj_94 42 0 0 rfl rfl rfl (xc_94_2)
noncomputable def xb_94_0 : List zF := [zq_aldg zG0, zq_aldg zG0, zq_getfg 5 zG8, zq_k 827, zq_mul, zq_k 641, zq_add, zq_k 30047, zq_rem, zq_putf 5 8 0, zq_k 2, zq_ildg zG1, zq_mul, zq_k 1, zq_add, zq_istg zE2, zq_ildg zG2, zq_if_le 41, zq_aldg zG0, zq_getfg 5 zG8, zq_ildg zG2, zq_rem, zq_ildg zG1, zq_sub, zq_goto 42]
noncomputable def xf_94_0 : zE → zKn := fun E => zq_aldg zG0 (zq_aldg zG0 (zq_getfg 5 zG8 (zq_k 827 (zq_mul (zq_k 641 (zq_add (zq_k 30047 (zq_rem (zq_putf 5 8 0 (zq_k 2 (zq_ildg zG1 (zq_mul (zq_k 1 (zq_add (zq_istg zE2 (zq_ildg zG2 (zq_if_le 41 (zq_aldg zG0 (zq_getfg 5 zG8 (zq_ildg zG2 (zq_rem (zq_ildg zG1 (zq_sub (zq_goto 42 (zNil) E) E) E) E) E) E) E) E) E) E) E) E) E) E) E) E) E) E) E) E) E) E) E) E) E
theorem xe_94_0 : xf_94_0 = zEx xb_94_0 := by
  unfold xf_94_0 xb_94_0
  rfl
theorem xc_94_0 : zCd 94 [0, 41, 42] 0 xb_94_0 := zc_aload_n xj_94 1 0 rfl rfl zf_ald_0 (zc_aload_n xj_94 2 0 rfl rfl zf_ald_0 (zc_getf xj_94 5 45 5 8 22 rfl rfl (zf_getf_8 _) (zc_sipush xj_94 8 827 827 rfl rfl rfl (zc_imul xj_94 9 rfl rfl (zc_sipush xj_94 12 641 641 rfl rfl rfl (zc_iadd xj_94 13 rfl rfl (zc_sipush xj_94 16 30047 30047 rfl rfl rfl (zc_irem xj_94 17 rfl rfl (zc_putf xj_94 20 45 5 8 22 0 rfl rfl rfl (zc_iconst xj_94 21 2 2 rfl rfl rfl (zc_iload_n xj_94 22 1 rfl rfl zf_ild_1 (zc_imul xj_94 23 rfl rfl (zc_iconst xj_94 24 1 1 rfl rfl rfl (zc_iadd xj_94 25 rfl rfl (zc_istore_n xj_94 26 2 rfl rfl zf_ist_2 (zc_iload_n xj_94 27 2 rfl rfl zf_ild_2 (zc_if_le xj_94 30 14 41 rfl rfl rfl (zc_aload_n xj_94 31 0 rfl rfl zf_ald_0 (zc_getf xj_94 34 45 5 8 22 rfl rfl (zf_getf_8 _) (zc_iload_n xj_94 35 2 rfl rfl zf_ild_2 (zc_irem xj_94 36 rfl rfl (zc_iload_n xj_94 37 1 rfl rfl zf_ild_1 (zc_isub xj_94 38 rfl rfl (zc_goto xj_94 39 4 42 rfl rfl rfl (trivial)))))))))))))))))))))))))
noncomputable def xm_94 : Lean.RArray (zE → zKn) := .branch 41 (.leaf xf_94_0) (.branch 42 (.leaf xf_94_1) (.leaf xf_94_2))
theorem xa_94 : zCdAll 94 [0, 41, 42] xm_94 := zAll2_ok (P := fun t => ∃ c, zCd 94 [0, 41, 42] t c ∧ xm_94.get t = zEx c) ⟨⟨_, xc_94_0, xe_94_0⟩, ⟨_, xc_94_1, xe_94_1⟩, ⟨_, xc_94_2, xe_94_2⟩, trivial⟩
/-- SquareMesh$Told.side -/
theorem xj_95 : ∀ pc, pI 95 pc = pJ_95 pc := fun _ => rfl
noncomputable def xb_95_0 : List zF := [zq_aldg zG0, zq_getfg 5 zG0, zq_ildg zG2, zq_ild_ 0, zq_aldg zG0, zq_getfg 5 zG0, zq_ildg zG1, zq_ild_ 0, zq_sub, zq_ildg zG4, zq_aldg zG0, zq_getfg 5 zG1, zq_ildg zG1, zq_ild_ 0, zq_sub, zq_mul, zq_aldg zG0, zq_getfg 5 zG1, zq_ildg zG2, zq_ild_ 0, zq_aldg zG0, zq_getfg 5 zG1, zq_ildg zG1, zq_ild_ 0, zq_sub, zq_ildg zG3, zq_aldg zG0, zq_getfg 5 zG0, zq_ildg zG1, zq_ild_ 0, zq_sub, zq_mul, zq_sub, zq_iret 0]
noncomputable def xf_95_0 : zE → zKn := fun E => zq_aldg zG0 (zq_getfg 5 zG0 (zq_ildg zG2 (zq_ild_ 0 (zq_aldg zG0 (zq_getfg 5 zG0 (zq_ildg zG1 (zq_ild_ 0 (zq_sub (zq_ildg zG4 (zq_aldg zG0 (zq_getfg 5 zG1 (zq_ildg zG1 (zq_ild_ 0 (zq_sub (zq_mul (zq_aldg zG0 (zq_getfg 5 zG1 (zq_ildg zG2 (zq_ild_ 0 (zq_aldg zG0 (zq_getfg 5 zG1 (zq_ildg zG1 (zq_ild_ 0 (zq_sub (zq_ildg zG3 (zq_aldg zG0 (zq_getfg 5 zG0 (zq_ildg zG1 (zq_ild_ 0 (zq_sub (zq_mul (zq_sub (zq_iret 0 (zNil) E) E) E) E) E) E) E) E) E) E) E) E) E) E) E) E) E) E) E) E) E) E) E) E) E) E) E) E) E) E) E) E) E) E
set_option maxRecDepth 100000 in
theorem xe_95_0 : xf_95_0 = zEx xb_95_0 := by
  unfold xf_95_0 xb_95_0
  rfl
theorem xc_95_0 : zCd 95 [0] 0 xb_95_0 := zc_aload_n xj_95 1 0 rfl rfl zf_ald_0 (zc_getf xj_95 4 9 5 0 0 rfl rfl (zf_getf_0 _) (zc_iload_n xj_95 5 2 rfl rfl zf_ild_2 (zc_iaload xj_95 6 rfl rfl (zc_aload_n xj_95 7 0 rfl rfl zf_ald_0 (zc_getf xj_95 10 9 5 0 0 rfl rfl (zf_getf_0 _) (zc_iload_n xj_95 11 1 rfl rfl zf_ild_1 (zc_iaload xj_95 12 rfl rfl (zc_isub xj_95 13 rfl rfl (zc_iload xj_95 15 4 rfl rfl zf_ild_4 (zc_aload_n xj_95 16 0 rfl rfl zf_ald_0 (zc_getf xj_95 19 15 5 1 3 rfl rfl (zf_getf_1 _) (zc_iload_n xj_95 20 1 rfl rfl zf_ild_1 (zc_iaload xj_95 21 rfl rfl (zc_isub xj_95 22 rfl rfl (zc_imul xj_95 23 rfl rfl (zc_aload_n xj_95 24 0 rfl rfl zf_ald_0 (zc_getf xj_95 27 15 5 1 3 rfl rfl (zf_getf_1 _) (zc_iload_n xj_95 28 2 rfl rfl zf_ild_2 (zc_iaload xj_95 29 rfl rfl (zc_aload_n xj_95 30 0 rfl rfl zf_ald_0 (zc_getf xj_95 33 15 5 1 3 rfl rfl (zf_getf_1 _) (zc_iload_n xj_95 34 1 rfl rfl zf_ild_1 (zc_iaload xj_95 35 rfl rfl (zc_isub xj_95 36 rfl rfl (zc_iload_n xj_95 37 3 rfl rfl zf_ild_3 (zc_aload_n xj_95 38 0 rfl rfl zf_ald_0 (zc_getf xj_95 41 9 5 0 0 rfl rfl (zf_getf_0 _) (zc_iload_n xj_95 42 1 rfl rfl zf_ild_1 (zc_iaload xj_95 43 rfl rfl (zc_isub xj_95 44 rfl rfl (zc_imul xj_95 45 rfl rfl (zc_isub xj_95 46 rfl rfl (zc_ireturn0 xj_95 47 rfl rfl (trivial))))))))))))))))))))))))))))))))))
noncomputable def xm_95 : Lean.RArray (zE → zKn) := .leaf xf_95_0
theorem xa_95 : zCdAll 95 [0] xm_95 := zAll2_ok (P := fun t => ∃ c, zCd 95 [0] t c ∧ xm_95.get t = zEx c) ⟨⟨_, xc_95_0, xe_95_0⟩, trivial⟩
/-- SquareMesh$Told.side -/
theorem xj_96 : ∀ pc, pI 96 pc = pJ_96 pc := fun _ => rfl
noncomputable def xb_96_0 : List zF := [zq_aldg zG0, zq_ildg zG1, zq_ildg zG2, zq_aldg zG0, zq_getfg 5 zG0, zq_ildg zG3, zq_ild_ 0, zq_aldg zG0, zq_getfg 5 zG1, zq_ildg zG3, zq_ild_ 0, zq_calli 95 4 5 5, zq_iret 0]
noncomputable def xf_96_0 : zE → zKn := fun E => zq_aldg zG0 (zq_ildg zG1 (zq_ildg zG2 (zq_aldg zG0 (zq_getfg 5 zG0 (zq_ildg zG3 (zq_ild_ 0 (zq_aldg zG0 (zq_getfg 5 zG1 (zq_ildg zG3 (zq_ild_ 0 (zq_calli 95 4 5 5 (zq_iret 0 (zNil) E) E) E) E) E) E) E) E) E) E) E) E) E
theorem xe_96_0 : xf_96_0 = zEx xb_96_0 := by
  unfold xf_96_0 xb_96_0
  rfl
theorem xc_96_0 : zCd 96 [0] 0 xb_96_0 := zc_aload_n xj_96 1 0 rfl rfl zf_ald_0 (zc_iload_n xj_96 2 1 rfl rfl zf_ild_1 (zc_iload_n xj_96 3 2 rfl rfl zf_ild_2 (zc_aload_n xj_96 4 0 rfl rfl zf_ald_0 (zc_getf xj_96 7 9 5 0 0 rfl rfl (zf_getf_0 _) (zc_iload_n xj_96 8 3 rfl rfl zf_ild_3 (zc_iaload xj_96 9 rfl rfl (zc_aload_n xj_96 10 0 rfl rfl zf_ald_0 (zc_getf xj_96 13 15 5 1 3 rfl rfl (zf_getf_1 _) (zc_iload_n xj_96 14 3 rfl rfl zf_ild_3 (zc_iaload xj_96 15 rfl rfl (zc_invokevirtual1 xj_96 18 78 95 4 55 5 5 rfl rfl rfl rfl (zc_ireturn0 xj_96 19 rfl rfl (trivial)))))))))))))
noncomputable def xm_96 : Lean.RArray (zE → zKn) := .leaf xf_96_0
theorem xa_96 : zCdAll 96 [0] xm_96 := zAll2_ok (P := fun t => ∃ c, zCd 96 [0] t c ∧ xm_96.get t = zEx c) ⟨⟨_, xc_96_0, xe_96_0⟩, trivial⟩
/-- SquareMesh$Told.square -/
theorem xj_97 : ∀ pc, pI 97 pc = pJ_97 pc := fun _ => rfl
noncomputable def xb_97_0 : List zF := [zq_aldg zG0, zq_getfg 5 zG0, zq_ildg zG1, zq_ild_ 0, zq_aldg zG0, zq_getfg 5 zG0, zq_ildg zG2, zq_ild_ 0, zq_sub, zq_istg zE3, zq_aldg zG0, zq_getfg 5 zG1, zq_ildg zG1, zq_ild_ 0, zq_aldg zG0, zq_getfg 5 zG1, zq_ildg zG2, zq_ild_ 0, zq_sub, zq_istg zE4, zq_ildg zG3, zq_ildg zG3, zq_mul, zq_ildg zG4, zq_ildg zG4, zq_mul, zq_add, zq_iret 0]
noncomputable def xf_97_0 : zE → zKn := fun E => zq_aldg zG0 (zq_getfg 5 zG0 (zq_ildg zG1 (zq_ild_ 0 (zq_aldg zG0 (zq_getfg 5 zG0 (zq_ildg zG2 (zq_ild_ 0 (zq_sub (zq_istg zE3 (zq_aldg zG0 (zq_getfg 5 zG1 (zq_ildg zG1 (zq_ild_ 0 (zq_aldg zG0 (zq_getfg 5 zG1 (zq_ildg zG2 (zq_ild_ 0 (zq_sub (zq_istg zE4 (zq_ildg zG3 (zq_ildg zG3 (zq_mul (zq_ildg zG4 (zq_ildg zG4 (zq_mul (zq_add (zq_iret 0 (zNil) E) E) E) E) E) E) E) E) E) E) E) E) E) E) E) E) E) E) E) E) E) E) E) E) E) E) E) E
theorem xe_97_0 : xf_97_0 = zEx xb_97_0 := by
  unfold xf_97_0 xb_97_0
  rfl
theorem xc_97_0 : zCd 97 [0] 0 xb_97_0 := zc_aload_n xj_97 1 0 rfl rfl zf_ald_0 (zc_getf xj_97 4 9 5 0 0 rfl rfl (zf_getf_0 _) (zc_iload_n xj_97 5 1 rfl rfl zf_ild_1 (zc_iaload xj_97 6 rfl rfl (zc_aload_n xj_97 7 0 rfl rfl zf_ald_0 (zc_getf xj_97 10 9 5 0 0 rfl rfl (zf_getf_0 _) (zc_iload_n xj_97 11 2 rfl rfl zf_ild_2 (zc_iaload xj_97 12 rfl rfl (zc_isub xj_97 13 rfl rfl (zc_istore_n xj_97 14 3 rfl rfl zf_ist_3 (zc_aload_n xj_97 15 0 rfl rfl zf_ald_0 (zc_getf xj_97 18 15 5 1 3 rfl rfl (zf_getf_1 _) (zc_iload_n xj_97 19 1 rfl rfl zf_ild_1 (zc_iaload xj_97 20 rfl rfl (zc_aload_n xj_97 21 0 rfl rfl zf_ald_0 (zc_getf xj_97 24 15 5 1 3 rfl rfl (zf_getf_1 _) (zc_iload_n xj_97 25 2 rfl rfl zf_ild_2 (zc_iaload xj_97 26 rfl rfl (zc_isub xj_97 27 rfl rfl (zc_istore xj_97 29 4 rfl rfl zf_ist_4 (zc_iload_n xj_97 30 3 rfl rfl zf_ild_3 (zc_iload_n xj_97 31 3 rfl rfl zf_ild_3 (zc_imul xj_97 32 rfl rfl (zc_iload xj_97 34 4 rfl rfl zf_ild_4 (zc_iload xj_97 36 4 rfl rfl zf_ild_4 (zc_imul xj_97 37 rfl rfl (zc_iadd xj_97 38 rfl rfl (zc_ireturn0 xj_97 39 rfl rfl (trivial))))))))))))))))))))))))))))
noncomputable def xm_97 : Lean.RArray (zE → zKn) := .leaf xf_97_0
theorem xa_97 : zCdAll 97 [0] xm_97 := zAll2_ok (P := fun t => ∃ c, zCd 97 [0] t c ∧ xm_97.get t = zEx c) ⟨⟨_, xc_97_0, xe_97_0⟩, trivial⟩
/-- SquareMesh$Told.ahead -/
theorem xj_98 : ∀ pc, pI 98 pc = pJ_98 pc := fun _ => rfl
noncomputable def xb_98_5 : List zF := [zq_iret 0]
noncomputable def xf_98_5 : zE → zKn := fun E => zq_iret 0 (zNil) E
theorem xe_98_5 : xf_98_5 = zEx xb_98_5 := by
  unfold xf_98_5 xb_98_5
  rfl
theorem xc_98_5 : zCd 98 [0, 34, 35, 36, 55, 56] 56 xb_98_5 := zc_ireturn0 xj_98 57 rfl rfl (trivial)
noncomputable def xb_98_4 : List zF := zq_ildg zG2 :: xb_98_5
noncomputable def xf_98_4 : zE → zKn := fun E => zq_ildg zG2 (xf_98_5 E) E
theorem xe_98_4 : xf_98_4 = zEx xb_98_4 := by
  unfold xf_98_4 xb_98_4
  rw [xe_98_5]
  rfl
theorem xc_98_4 : zCd 98 [0, 34, 35, 36, 55, 56] 55 xb_98_4 := zc_iload_n xj_98 56 2 rfl rfl zf_ild_2 (xc_98_5)
noncomputable def xb_98_3 : List zF := [zq_aldg zG0, zq_getfg 5 zG1, zq_ildg zG1, zq_ild_ 0, zq_aldg zG0, zq_getfg 5 zG1, zq_ildg zG2, zq_ild_ 0, zq_ic_gt 55, zq_ildg zG1, zq_goto 56]
noncomputable def xf_98_3 : zE → zKn := fun E => zq_aldg zG0 (zq_getfg 5 zG1 (zq_ildg zG1 (zq_ild_ 0 (zq_aldg zG0 (zq_getfg 5 zG1 (zq_ildg zG2 (zq_ild_ 0 (zq_ic_gt 55 (zq_ildg zG1 (zq_goto 56 (zNil) E) E) E) E) E) E) E) E) E) E) E
theorem xe_98_3 : xf_98_3 = zEx xb_98_3 := by
  unfold xf_98_3 xb_98_3
  rfl
theorem xc_98_3 : zCd 98 [0, 34, 35, 36, 55, 56] 36 xb_98_3 := zc_aload_n xj_98 37 0 rfl rfl zf_ald_0 (zc_getf xj_98 40 15 5 1 3 rfl rfl (zf_getf_1 _) (zc_iload_n xj_98 41 1 rfl rfl zf_ild_1 (zc_iaload xj_98 42 rfl rfl (zc_aload_n xj_98 43 0 rfl rfl zf_ald_0 (zc_getf xj_98 46 15 5 1 3 rfl rfl (zf_getf_1 _) (zc_iload_n xj_98 47 2 rfl rfl zf_ild_2 (zc_iaload xj_98 48 rfl rfl (zc_ic_gt xj_98 51 7 55 rfl rfl rfl (zc_iload_n xj_98 52 1 rfl rfl zf_ild_1 (zc_goto xj_98 53 4 56 rfl rfl rfl (trivial)))))))))))
noncomputable def xb_98_2 : List zF := [zq_iret 0]
noncomputable def xf_98_2 : zE → zKn := fun E => zq_iret 0 (zNil) E
theorem xe_98_2 : xf_98_2 = zEx xb_98_2 := by
  unfold xf_98_2 xb_98_2
  rfl
theorem xc_98_2 : zCd 98 [0, 34, 35, 36, 55, 56] 35 xb_98_2 := zc_ireturn0 xj_98 36 rfl rfl (trivial)
noncomputable def xb_98_1 : List zF := zq_ildg zG2 :: xb_98_2
noncomputable def xf_98_1 : zE → zKn := fun E => zq_ildg zG2 (xf_98_2 E) E
theorem xe_98_1 : xf_98_1 = zEx xb_98_1 := by
  unfold xf_98_1 xb_98_1
  rw [xe_98_2]
  rfl
theorem xc_98_1 : zCd 98 [0, 34, 35, 36, 55, 56] 34 xb_98_1 := zc_iload_n xj_98 35 2 rfl rfl zf_ild_2 (xc_98_2)
noncomputable def xb_98_0 : List zF := [zq_aldg zG0, zq_getfg 5 zG0, zq_ildg zG1, zq_ild_ 0, zq_aldg zG0, zq_getfg 5 zG0, zq_ildg zG2, zq_ild_ 0, zq_ic_eq 36, zq_aldg zG0, zq_getfg 5 zG0, zq_ildg zG1, zq_ild_ 0, zq_aldg zG0, zq_getfg 5 zG0, zq_ildg zG2, zq_ild_ 0, zq_ic_ge 34, zq_ildg zG1, zq_goto 35]
noncomputable def xf_98_0 : zE → zKn := fun E => zq_aldg zG0 (zq_getfg 5 zG0 (zq_ildg zG1 (zq_ild_ 0 (zq_aldg zG0 (zq_getfg 5 zG0 (zq_ildg zG2 (zq_ild_ 0 (zq_ic_eq 36 (zq_aldg zG0 (zq_getfg 5 zG0 (zq_ildg zG1 (zq_ild_ 0 (zq_aldg zG0 (zq_getfg 5 zG0 (zq_ildg zG2 (zq_ild_ 0 (zq_ic_ge 34 (zq_ildg zG1 (zq_goto 35 (zNil) E) E) E) E) E) E) E) E) E) E) E) E) E) E) E) E) E) E) E) E
theorem xe_98_0 : xf_98_0 = zEx xb_98_0 := by
  unfold xf_98_0 xb_98_0
  rfl
theorem xc_98_0 : zCd 98 [0, 34, 35, 36, 55, 56] 0 xb_98_0 := zc_aload_n xj_98 1 0 rfl rfl zf_ald_0 (zc_getf xj_98 4 9 5 0 0 rfl rfl (zf_getf_0 _) (zc_iload_n xj_98 5 1 rfl rfl zf_ild_1 (zc_iaload xj_98 6 rfl rfl (zc_aload_n xj_98 7 0 rfl rfl zf_ald_0 (zc_getf xj_98 10 9 5 0 0 rfl rfl (zf_getf_0 _) (zc_iload_n xj_98 11 2 rfl rfl zf_ild_2 (zc_iaload xj_98 12 rfl rfl (zc_ic_eq xj_98 15 24 36 rfl rfl rfl (zc_aload_n xj_98 16 0 rfl rfl zf_ald_0 (zc_getf xj_98 19 9 5 0 0 rfl rfl (zf_getf_0 _) (zc_iload_n xj_98 20 1 rfl rfl zf_ild_1 (zc_iaload xj_98 21 rfl rfl (zc_aload_n xj_98 22 0 rfl rfl zf_ald_0 (zc_getf xj_98 25 9 5 0 0 rfl rfl (zf_getf_0 _) (zc_iload_n xj_98 26 2 rfl rfl zf_ild_2 (zc_iaload xj_98 27 rfl rfl (zc_ic_ge xj_98 30 7 34 rfl rfl rfl (zc_iload_n xj_98 31 1 rfl rfl zf_ild_1 (zc_goto xj_98 32 4 35 rfl rfl rfl (trivial))))))))))))))))))))
noncomputable def xm_98 : Lean.RArray (zE → zKn) := .branch 36 (.branch 34 (.leaf xf_98_0) (.branch 35 (.leaf xf_98_1) (.leaf xf_98_2))) (.branch 55 (.leaf xf_98_3) (.branch 56 (.leaf xf_98_4) (.leaf xf_98_5)))
theorem xa_98 : zCdAll 98 [0, 34, 35, 36, 55, 56] xm_98 := zAll2_ok (P := fun t => ∃ c, zCd 98 [0, 34, 35, 36, 55, 56] t c ∧ xm_98.get t = zEx c) ⟨⟨_, xc_98_0, xe_98_0⟩, ⟨_, xc_98_1, xe_98_1⟩, ⟨_, xc_98_2, xe_98_2⟩, ⟨_, xc_98_3, xe_98_3⟩, ⟨_, xc_98_4, xe_98_4⟩, ⟨_, xc_98_5, xe_98_5⟩, trivial⟩
/-- SquareMesh$Told.isBetween -/
theorem xj_99 : ∀ pc, pI 99 pc = pJ_99 pc := fun _ => rfl
noncomputable def xb_99_3 : List zF := [zq_iret 1]
noncomputable def xf_99_3 : zE → zKn := fun E => zq_iret 1 (zNil) E
theorem xe_99_3 : xf_99_3 = zEx xb_99_3 := by
  unfold xf_99_3 xb_99_3
  rfl
theorem xc_99_3 : zCd 99 [0, 12, 78, 79] 79 xb_99_3 := zc_ireturn1 xj_99 80 rfl rfl (trivial)
noncomputable def xb_99_2 : List zF := zq_k 0 :: xb_99_3
noncomputable def xf_99_2 : zE → zKn := fun E => zq_k 0 (xf_99_3 E) E
theorem xe_99_2 : xf_99_2 = zEx xb_99_2 := by
  unfold xf_99_2 xb_99_2
  rw [xe_99_3]
  rfl
theorem xc_99_2 : zCd 99 [0, 12, 78, 79] 78 xb_99_2 := zc_iconst xj_99 79 0 0 rfl rfl rfl (xc_99_3)
noncomputable def xb_99_1 : List zF := [zq_aldg zG0, zq_getfg 5 zG0, zq_ildg zG1, zq_ild_ 0, zq_aldg zG0, zq_getfg 5 zG0, zq_ildg zG3, zq_ild_ 0, zq_sub, zq_aldg zG0, zq_getfg 5 zG0, zq_ildg zG2, zq_ild_ 0, zq_aldg zG0, zq_getfg 5 zG0, zq_ildg zG3, zq_ild_ 0, zq_sub, zq_mul, zq_aldg zG0, zq_getfg 5 zG1, zq_ildg zG1, zq_ild_ 0, zq_aldg zG0, zq_getfg 5 zG1, zq_ildg zG3, zq_ild_ 0, zq_sub, zq_aldg zG0, zq_getfg 5 zG1, zq_ildg zG2, zq_ild_ 0, zq_aldg zG0, zq_getfg 5 zG1, zq_ildg zG3, zq_ild_ 0, zq_sub, zq_mul, zq_add, zq_istg zE4, zq_ildg zG4, zq_if_ge 78, zq_k 1, zq_goto 79]
noncomputable def xf_99_1 : zE → zKn := fun E => zq_aldg zG0 (zq_getfg 5 zG0 (zq_ildg zG1 (zq_ild_ 0 (zq_aldg zG0 (zq_getfg 5 zG0 (zq_ildg zG3 (zq_ild_ 0 (zq_sub (zq_aldg zG0 (zq_getfg 5 zG0 (zq_ildg zG2 (zq_ild_ 0 (zq_aldg zG0 (zq_getfg 5 zG0 (zq_ildg zG3 (zq_ild_ 0 (zq_sub (zq_mul (zq_aldg zG0 (zq_getfg 5 zG1 (zq_ildg zG1 (zq_ild_ 0 (zq_aldg zG0 (zq_getfg 5 zG1 (zq_ildg zG3 (zq_ild_ 0 (zq_sub (zq_aldg zG0 (zq_getfg 5 zG1 (zq_ildg zG2 (zq_ild_ 0 (zq_aldg zG0 (zq_getfg 5 zG1 (zq_ildg zG3 (zq_ild_ 0 (zq_sub (zq_mul (zq_add (zq_istg zE4 (zq_ildg zG4 (zq_if_ge 78 (zq_k 1 (zq_goto 79 (zNil) E) E) E) E) E) E) E) E) E) E) E) E) E) E) E) E) E) E) E) E) E) E) E) E) E) E) E) E) E) E) E) E) E) E) E) E) E) E) E) E) E) E) E) E
set_option maxRecDepth 100000 in
theorem xe_99_1 : xf_99_1 = zEx xb_99_1 := by
  unfold xf_99_1 xb_99_1
  rfl
theorem xc_99_1 : zCd 99 [0, 12, 78, 79] 12 xb_99_1 := zc_aload_n xj_99 13 0 rfl rfl zf_ald_0 (zc_getf xj_99 16 9 5 0 0 rfl rfl (zf_getf_0 _) (zc_iload_n xj_99 17 1 rfl rfl zf_ild_1 (zc_iaload xj_99 18 rfl rfl (zc_aload_n xj_99 19 0 rfl rfl zf_ald_0 (zc_getf xj_99 22 9 5 0 0 rfl rfl (zf_getf_0 _) (zc_iload_n xj_99 23 3 rfl rfl zf_ild_3 (zc_iaload xj_99 24 rfl rfl (zc_isub xj_99 25 rfl rfl (zc_aload_n xj_99 26 0 rfl rfl zf_ald_0 (zc_getf xj_99 29 9 5 0 0 rfl rfl (zf_getf_0 _) (zc_iload_n xj_99 30 2 rfl rfl zf_ild_2 (zc_iaload xj_99 31 rfl rfl (zc_aload_n xj_99 32 0 rfl rfl zf_ald_0 (zc_getf xj_99 35 9 5 0 0 rfl rfl (zf_getf_0 _) (zc_iload_n xj_99 36 3 rfl rfl zf_ild_3 (zc_iaload xj_99 37 rfl rfl (zc_isub xj_99 38 rfl rfl (zc_imul xj_99 39 rfl rfl (zc_aload_n xj_99 40 0 rfl rfl zf_ald_0 (zc_getf xj_99 43 15 5 1 3 rfl rfl (zf_getf_1 _) (zc_iload_n xj_99 44 1 rfl rfl zf_ild_1 (zc_iaload xj_99 45 rfl rfl (zc_aload_n xj_99 46 0 rfl rfl zf_ald_0 (zc_getf xj_99 49 15 5 1 3 rfl rfl (zf_getf_1 _) (zc_iload_n xj_99 50 3 rfl rfl zf_ild_3 (zc_iaload xj_99 51 rfl rfl (zc_isub xj_99 52 rfl rfl (zc_aload_n xj_99 53 0 rfl rfl zf_ald_0 (zc_getf xj_99 56 15 5 1 3 rfl rfl (zf_getf_1 _) (zc_iload_n xj_99 57 2 rfl rfl zf_ild_2 (zc_iaload xj_99 58 rfl rfl (zc_aload_n xj_99 59 0 rfl rfl zf_ald_0 (zc_getf xj_99 62 15 5 1 3 rfl rfl (zf_getf_1 _) (zc_iload_n xj_99 63 3 rfl rfl zf_ild_3 (zc_iaload xj_99 64 rfl rfl (zc_isub xj_99 65 rfl rfl (zc_imul xj_99 66 rfl rfl (zc_iadd xj_99 67 rfl rfl (zc_istore xj_99 69 4 rfl rfl zf_ist_4 (zc_iload xj_99 71 4 rfl rfl zf_ild_4 (zc_if_ge xj_99 74 7 78 rfl rfl rfl (zc_iconst xj_99 75 1 1 rfl rfl rfl (zc_goto xj_99 76 4 79 rfl rfl rfl (trivial))))))))))))))))))))))))))))))))))))))))))))
noncomputable def xb_99_0 : List zF := [zq_aldg zG0, zq_ildg zG1, zq_ildg zG2, zq_ildg zG3, zq_calli 96 3 5 4, zq_if_eq 12, zq_k 0, zq_iret 1]
noncomputable def xf_99_0 : zE → zKn := fun E => zq_aldg zG0 (zq_ildg zG1 (zq_ildg zG2 (zq_ildg zG3 (zq_calli 96 3 5 4 (zq_if_eq 12 (zq_k 0 (zq_iret 1 (zNil) E) E) E) E) E) E) E) E
theorem xe_99_0 : xf_99_0 = zEx xb_99_0 := by
  unfold xf_99_0 xb_99_0
  rfl
theorem xc_99_0 : zCd 99 [0, 12, 78, 79] 0 xb_99_0 := zc_aload_n xj_99 1 0 rfl rfl zf_ald_0 (zc_iload_n xj_99 2 1 rfl rfl zf_ild_1 (zc_iload_n xj_99 3 2 rfl rfl zf_ild_2 (zc_iload_n xj_99 4 3 rfl rfl zf_ild_3 (zc_invokevirtual1 xj_99 7 82 96 3 83 5 4 rfl rfl rfl rfl (zc_if_eq xj_99 10 5 12 rfl rfl rfl (zc_iconst xj_99 11 0 0 rfl rfl rfl (zc_ireturn1 xj_99 12 rfl rfl (trivial))))))))
noncomputable def xm_99 : Lean.RArray (zE → zKn) := .branch 78 (.branch 12 (.leaf xf_99_0) (.leaf xf_99_1)) (.branch 79 (.leaf xf_99_2) (.leaf xf_99_3))
theorem xa_99 : zCdAll 99 [0, 12, 78, 79] xm_99 := zAll2_ok (P := fun t => ∃ c, zCd 99 [0, 12, 78, 79] t c ∧ xm_99.get t = zEx c) ⟨⟨_, xc_99_0, xe_99_0⟩, ⟨_, xc_99_1, xe_99_1⟩, ⟨_, xc_99_2, xe_99_2⟩, ⟨_, xc_99_3, xe_99_3⟩, trivial⟩
/-- SquareMesh$Told.isCut -/
theorem xj_100 : ∀ pc, pI 100 pc = pJ_100 pc := fun _ => rfl
noncomputable def xb_100_1 : List zF := [zq_ildg zG3, zq_ildg zG4, zq_ildg zG5, zq_ildg zG6, zq_aldg zG0, zq_getfg 5 zG0, zq_ildg zG1, zq_ild_ 0, zq_aldg zG0, zq_getfg 5 zG1, zq_ildg zG1, zq_ild_ 0, zq_calls 183 6 6, zq_ildg zG3, zq_ildg zG4, zq_ildg zG5, zq_ildg zG6, zq_aldg zG0, zq_getfg 5 zG0, zq_ildg zG2, zq_ild_ 0, zq_aldg zG0, zq_getfg 5 zG1, zq_ildg zG2, zq_ild_ 0, zq_calls 183 6 6, zq_calls 184 2 2, zq_iret 1]
noncomputable def xf_100_1 : zE → zKn := fun E => zq_ildg zG3 (zq_ildg zG4 (zq_ildg zG5 (zq_ildg zG6 (zq_aldg zG0 (zq_getfg 5 zG0 (zq_ildg zG1 (zq_ild_ 0 (zq_aldg zG0 (zq_getfg 5 zG1 (zq_ildg zG1 (zq_ild_ 0 (zq_calls 183 6 6 (zq_ildg zG3 (zq_ildg zG4 (zq_ildg zG5 (zq_ildg zG6 (zq_aldg zG0 (zq_getfg 5 zG0 (zq_ildg zG2 (zq_ild_ 0 (zq_aldg zG0 (zq_getfg 5 zG1 (zq_ildg zG2 (zq_ild_ 0 (zq_calls 183 6 6 (zq_calls 184 2 2 (zq_iret 1 (zNil) E) E) E) E) E) E) E) E) E) E) E) E) E) E) E) E) E) E) E) E) E) E) E) E) E) E) E) E
theorem xe_100_1 : xf_100_1 = zEx xb_100_1 := by
  unfold xf_100_1 xb_100_1
  rfl
theorem xc_100_1 : zCd 100 [0, 27] 27 xb_100_1 := zc_iload_n xj_100 28 3 rfl rfl zf_ild_3 (zc_iload xj_100 30 4 rfl rfl zf_ild_4 (zc_iload xj_100 32 5 rfl rfl zf_ild_5 (zc_iload xj_100 34 6 rfl rfl zf_ild_6 (zc_aload_n xj_100 35 0 rfl rfl zf_ald_0 (zc_getf xj_100 38 9 5 0 0 rfl rfl (zf_getf_0 _) (zc_iload_n xj_100 39 1 rfl rfl zf_ild_1 (zc_iaload xj_100 40 rfl rfl (zc_aload_n xj_100 41 0 rfl rfl zf_ald_0 (zc_getf xj_100 44 15 5 1 3 rfl rfl (zf_getf_1 _) (zc_iload_n xj_100 45 1 rfl rfl zf_ild_1 (zc_iaload xj_100 46 rfl rfl (zc_invokestatic4 xj_100 49 88 183 6 87 0 6 rfl rfl rfl rfl (zc_iload_n xj_100 50 3 rfl rfl zf_ild_3 (zc_iload xj_100 52 4 rfl rfl zf_ild_4 (zc_iload xj_100 54 5 rfl rfl zf_ild_5 (zc_iload xj_100 56 6 rfl rfl zf_ild_6 (zc_aload_n xj_100 57 0 rfl rfl zf_ald_0 (zc_getf xj_100 60 9 5 0 0 rfl rfl (zf_getf_0 _) (zc_iload_n xj_100 61 2 rfl rfl zf_ild_2 (zc_iaload xj_100 62 rfl rfl (zc_aload_n xj_100 63 0 rfl rfl zf_ald_0 (zc_getf xj_100 66 15 5 1 3 rfl rfl (zf_getf_1 _) (zc_iload_n xj_100 67 2 rfl rfl zf_ild_2 (zc_iaload xj_100 68 rfl rfl (zc_invokestatic4 xj_100 71 88 183 6 87 0 6 rfl rfl rfl rfl (zc_invokestatic4 xj_100 74 85 184 2 86 0 2 rfl rfl rfl rfl (zc_ireturn1 xj_100 75 rfl rfl (trivial))))))))))))))))))))))))))))
noncomputable def xb_100_0 : List zF := [zq_aldg zG0, zq_ildg zG1, zq_ildg zG2, zq_ildg zG3, zq_ildg zG4, zq_calli 95 4 5 5, zq_aldg zG0, zq_ildg zG1, zq_ildg zG2, zq_ildg zG5, zq_ildg zG6, zq_calli 95 4 5 5, zq_calls 184 2 2, zq_if_ne 27, zq_k 0, zq_iret 1]
noncomputable def xf_100_0 : zE → zKn := fun E => zq_aldg zG0 (zq_ildg zG1 (zq_ildg zG2 (zq_ildg zG3 (zq_ildg zG4 (zq_calli 95 4 5 5 (zq_aldg zG0 (zq_ildg zG1 (zq_ildg zG2 (zq_ildg zG5 (zq_ildg zG6 (zq_calli 95 4 5 5 (zq_calls 184 2 2 (zq_if_ne 27 (zq_k 0 (zq_iret 1 (zNil) E) E) E) E) E) E) E) E) E) E) E) E) E) E) E) E
theorem xe_100_0 : xf_100_0 = zEx xb_100_0 := by
  unfold xf_100_0 xb_100_0
  rfl
theorem xc_100_0 : zCd 100 [0, 27] 0 xb_100_0 := zc_aload_n xj_100 1 0 rfl rfl zf_ald_0 (zc_iload_n xj_100 2 1 rfl rfl zf_ild_1 (zc_iload_n xj_100 3 2 rfl rfl zf_ild_2 (zc_iload_n xj_100 4 3 rfl rfl zf_ild_3 (zc_iload xj_100 6 4 rfl rfl zf_ild_4 (zc_invokevirtual1 xj_100 9 78 95 4 55 5 5 rfl rfl rfl rfl (zc_aload_n xj_100 10 0 rfl rfl zf_ald_0 (zc_iload_n xj_100 11 1 rfl rfl zf_ild_1 (zc_iload_n xj_100 12 2 rfl rfl zf_ild_2 (zc_iload xj_100 14 5 rfl rfl zf_ild_5 (zc_iload xj_100 16 6 rfl rfl zf_ild_6 (zc_invokevirtual1 xj_100 19 78 95 4 55 5 5 rfl rfl rfl rfl (zc_invokestatic4 xj_100 22 85 184 2 86 0 2 rfl rfl rfl rfl (zc_if_ne xj_100 25 5 27 rfl rfl rfl (zc_iconst xj_100 26 0 0 rfl rfl rfl (zc_ireturn1 xj_100 27 rfl rfl (trivial))))))))))))))))
noncomputable def xm_100 : Lean.RArray (zE → zKn) := .branch 27 (.leaf xf_100_0) (.leaf xf_100_1)
theorem xa_100 : zCdAll 100 [0, 27] xm_100 := zAll2_ok (P := fun t => ∃ c, zCd 100 [0, 27] t c ∧ xm_100.get t = zEx c) ⟨⟨_, xc_100_0, xe_100_0⟩, ⟨_, xc_100_1, xe_100_1⟩, trivial⟩
/-- SquareMesh$Told.isCutBy -/
theorem xj_101 : ∀ pc, pI 101 pc = pJ_101 pc := fun _ => rfl
noncomputable def xb_101_0 : List zF := [zq_aldg zG0, zq_ildg zG1, zq_ildg zG2, zq_aldg zG0, zq_getfg 5 zG0, zq_ildg zG3, zq_ild_ 0, zq_aldg zG0, zq_getfg 5 zG1, zq_ildg zG3, zq_ild_ 0, zq_aldg zG0, zq_getfg 5 zG0, zq_ildg zG4, zq_ild_ 0, zq_aldg zG0, zq_getfg 5 zG1, zq_ildg zG4, zq_ild_ 0, zq_calli 100 6 5 7, zq_iret 1]
noncomputable def xf_101_0 : zE → zKn := fun E => zq_aldg zG0 (zq_ildg zG1 (zq_ildg zG2 (zq_aldg zG0 (zq_getfg 5 zG0 (zq_ildg zG3 (zq_ild_ 0 (zq_aldg zG0 (zq_getfg 5 zG1 (zq_ildg zG3 (zq_ild_ 0 (zq_aldg zG0 (zq_getfg 5 zG0 (zq_ildg zG4 (zq_ild_ 0 (zq_aldg zG0 (zq_getfg 5 zG1 (zq_ildg zG4 (zq_ild_ 0 (zq_calli 100 6 5 7 (zq_iret 1 (zNil) E) E) E) E) E) E) E) E) E) E) E) E) E) E) E) E) E) E) E) E) E
theorem xe_101_0 : xf_101_0 = zEx xb_101_0 := by
  unfold xf_101_0 xb_101_0
  rfl
theorem xc_101_0 : zCd 101 [0] 0 xb_101_0 := zc_aload_n xj_101 1 0 rfl rfl zf_ald_0 (zc_iload_n xj_101 2 1 rfl rfl zf_ild_1 (zc_iload_n xj_101 3 2 rfl rfl zf_ild_2 (zc_aload_n xj_101 4 0 rfl rfl zf_ald_0 (zc_getf xj_101 7 9 5 0 0 rfl rfl (zf_getf_0 _) (zc_iload_n xj_101 8 3 rfl rfl zf_ild_3 (zc_iaload xj_101 9 rfl rfl (zc_aload_n xj_101 10 0 rfl rfl zf_ald_0 (zc_getf xj_101 13 15 5 1 3 rfl rfl (zf_getf_1 _) (zc_iload_n xj_101 14 3 rfl rfl zf_ild_3 (zc_iaload xj_101 15 rfl rfl (zc_aload_n xj_101 16 0 rfl rfl zf_ald_0 (zc_getf xj_101 19 9 5 0 0 rfl rfl (zf_getf_0 _) (zc_iload xj_101 21 4 rfl rfl zf_ild_4 (zc_iaload xj_101 22 rfl rfl (zc_aload_n xj_101 23 0 rfl rfl zf_ald_0 (zc_getf xj_101 26 15 5 1 3 rfl rfl (zf_getf_1 _) (zc_iload xj_101 28 4 rfl rfl zf_ild_4 (zc_iaload xj_101 29 rfl rfl (zc_invokevirtual1 xj_101 32 92 100 6 85 5 7 rfl rfl rfl rfl (zc_ireturn1 xj_101 33 rfl rfl (trivial)))))))))))))))))))))
noncomputable def xm_101 : Lean.RArray (zE → zKn) := .leaf xf_101_0
theorem xa_101 : zCdAll 101 [0] xm_101 := zAll2_ok (P := fun t => ∃ c, zCd 101 [0] t c ∧ xm_101.get t = zEx c) ⟨⟨_, xc_101_0, xe_101_0⟩, trivial⟩
/-- SquareMesh$Tree.<init> -/
theorem xj_102 : ∀ pc, pI 102 pc = pJ_102 pc := fun _ => rfl
noncomputable def xb_102_0 : List zF := [zq_aldg zG0, zq_call0, zq_aldg zG0, zq_k 40, zq_newa 0, zq_putf 6 0 2, zq_aldg zG0, zq_k 40, zq_newa 0, zq_putf 6 2 2, zq_vret]
noncomputable def xf_102_0 : zE → zKn := fun E => zq_aldg zG0 (zq_call0 (zq_aldg zG0 (zq_k 40 (zq_newa 0 (zq_putf 6 0 2 (zq_aldg zG0 (zq_k 40 (zq_newa 0 (zq_putf 6 2 2 (zq_vret (zNil) E) E) E) E) E) E) E) E) E) E) E
theorem xe_102_0 : xf_102_0 = zEx xb_102_0 := by
  unfold xf_102_0 xb_102_0
  rfl
theorem xc_102_0 : zCd 102 [0] 0 xb_102_0 := zc_aload_n xj_102 1 0 rfl rfl zf_ald_0 (zc_invokespecial0 xj_102 4 3 0 0 15 0 0 rfl rfl (zc_aload_n xj_102 5 0 rfl rfl zf_ald_0 (zc_bipush xj_102 7 40 40 rfl rfl rfl (zc_any xj_102 9 (.newarray .int) [0] rfl rfl (zq_newa 0) rfl rfl (zc_putf xj_102 12 9 6 0 75 2 rfl rfl rfl (zc_aload_n xj_102 13 0 rfl rfl zf_ald_0 (zc_bipush xj_102 15 40 40 rfl rfl rfl (zc_any xj_102 17 (.newarray .int) [0] rfl rfl (zq_newa 0) rfl rfl (zc_putf xj_102 20 15 6 2 79 2 rfl rfl rfl (zc_return_ xj_102 21 rfl rfl (trivial)))))))))))
noncomputable def xm_102 : Lean.RArray (zE → zKn) := .leaf xf_102_0
theorem xa_102 : zCdAll 102 [0] xm_102 := zAll2_ok (P := fun t => ∃ c, zCd 102 [0] t c ∧ xm_102.get t = zEx c) ⟨⟨_, xc_102_0, xe_102_0⟩, trivial⟩
/-- SquareMesh$Tree.grow -/
theorem xj_103 : ∀ pc, pI 103 pc = pJ_103 pc := fun _ => rfl
noncomputable def xb_103_5 : List zF := [zq_vret]
noncomputable def xf_103_5 : zE → zKn := fun E => zq_vret (zNil) E
theorem xe_103_5 : xf_103_5 = zEx xb_103_5 := by
  unfold xf_103_5 xb_103_5
  rfl
theorem xc_103_5 : zCd 103 [0, 2, 21, 28, 46, 104] 104 xb_103_5 := zc_return_ xj_103 105 rfl rfl (trivial)
noncomputable def xb_103_4 : List zF := [zq_aldg zG0, zq_getfg 6 zG0, zq_aldg zG0, zq_getfg 6 zG1, zq_ildg zG3, zq_iast, zq_aldg zG0, zq_dup, zq_getfg 6 zG1, zq_k 1, zq_add, zq_putf 6 1 0, zq_aldg zG0, zq_aldg zG0, zq_getfg 6 zG2, zq_aldg zG1, zq_getfg 1 zG4, zq_k 2, zq_ildg zG3, zq_mul, zq_ild_ 0, zq_ild_ 0, zq_aldg zG0, zq_getfg 6 zG2, zq_aldg zG1, zq_getfg 1 zG4, zq_k 2, zq_ildg zG3, zq_mul, zq_k 1, zq_add, zq_ild_ 0, zq_ild_ 0, zq_calli 105 2 6 4, zq_incg zG2 zE2 1, zq_goto 28]
noncomputable def xf_103_4 : zE → zKn := fun E => zq_aldg zG0 (zq_getfg 6 zG0 (zq_aldg zG0 (zq_getfg 6 zG1 (zq_ildg zG3 (zq_iast (zq_aldg zG0 (zq_dup (zq_getfg 6 zG1 (zq_k 1 (zq_add (zq_putf 6 1 0 (zq_aldg zG0 (zq_aldg zG0 (zq_getfg 6 zG2 (zq_aldg zG1 (zq_getfg 1 zG4 (zq_k 2 (zq_ildg zG3 (zq_mul (zq_ild_ 0 (zq_ild_ 0 (zq_aldg zG0 (zq_getfg 6 zG2 (zq_aldg zG1 (zq_getfg 1 zG4 (zq_k 2 (zq_ildg zG3 (zq_mul (zq_k 1 (zq_add (zq_ild_ 0 (zq_ild_ 0 (zq_calli 105 2 6 4 (zq_incg zG2 zE2 1 (zq_goto 28 (zNil) E) E) E) E) E) E) E) E) E) E) E) E) E) E) E) E) E) E) E) E) E) E) E) E) E) E) E) E) E) E) E) E) E) E) E) E
set_option maxRecDepth 100000 in
theorem xe_103_4 : xf_103_4 = zEx xb_103_4 := by
  unfold xf_103_4 xb_103_4
  rfl
theorem xc_103_4 : zCd 103 [0, 2, 21, 28, 46, 104] 46 xb_103_4 := zc_aload_n xj_103 47 0 rfl rfl zf_ald_0 (zc_getf xj_103 50 9 6 0 75 rfl rfl (zf_getf_0 _) (zc_aload_n xj_103 51 0 rfl rfl zf_ald_0 (zc_getf xj_103 54 18 6 1 77 rfl rfl (zf_getf_1 _) (zc_iload_n xj_103 55 3 rfl rfl zf_ild_3 (zc_iastore xj_103 56 rfl rfl (zc_aload_n xj_103 57 0 rfl rfl zf_ald_0 (zc_dup xj_103 58 rfl rfl (zc_getf xj_103 61 18 6 1 77 rfl rfl (zf_getf_1 _) (zc_iconst xj_103 62 1 1 rfl rfl rfl (zc_iadd xj_103 63 rfl rfl (zc_putf xj_103 66 18 6 1 77 0 rfl rfl rfl (zc_aload_n xj_103 67 0 rfl rfl zf_ald_0 (zc_aload_n xj_103 68 0 rfl rfl zf_ald_0 (zc_getf xj_103 71 15 6 2 79 rfl rfl (zf_getf_2 _) (zc_aload_n xj_103 72 1 rfl rfl zf_ald_1 (zc_getf xj_103 75 26 1 4 36 rfl rfl (zf_getf_4 _) (zc_iconst xj_103 76 2 2 rfl rfl rfl (zc_iload_n xj_103 77 3 rfl rfl zf_ild_3 (zc_imul xj_103 78 rfl rfl (zc_iaload xj_103 79 rfl rfl (zc_iaload xj_103 80 rfl rfl (zc_aload_n xj_103 81 0 rfl rfl zf_ald_0 (zc_getf xj_103 84 15 6 2 79 rfl rfl (zf_getf_2 _) (zc_aload_n xj_103 85 1 rfl rfl zf_ald_1 (zc_getf xj_103 88 26 1 4 36 rfl rfl (zf_getf_4 _) (zc_iconst xj_103 89 2 2 rfl rfl rfl (zc_iload_n xj_103 90 3 rfl rfl zf_ild_3 (zc_imul xj_103 91 rfl rfl (zc_iconst xj_103 92 1 1 rfl rfl rfl (zc_iadd xj_103 93 rfl rfl (zc_iaload xj_103 94 rfl rfl (zc_iaload xj_103 95 rfl rfl (zc_invokevirtual1 xj_103 98 31 105 2 207 6 4 rfl rfl rfl rfl (zc_iinc xj_103 101 2 1 1 rfl rfl rfl (zf_inc_2 _) (zc_goto xj_103 102 (-73) 28 rfl rfl rfl (trivial))))))))))))))))))))))))))))))))))))
noncomputable def xb_103_3 : List zF := [zq_ildg zG2, zq_k 40, zq_ic_ge 104, zq_aldg zG0, zq_aldg zG1, zq_calli 104 1 6 6, zq_istg zE3, zq_ildg zG3, zq_k 4294967295, zq_ic_ne 46, zq_vret]
noncomputable def xf_103_3 : zE → zKn := fun E => zq_ildg zG2 (zq_k 40 (zq_ic_ge 104 (zq_aldg zG0 (zq_aldg zG1 (zq_calli 104 1 6 6 (zq_istg zE3 (zq_ildg zG3 (zq_k 4294967295 (zq_ic_ne 46 (zq_vret (zNil) E) E) E) E) E) E) E) E) E) E) E
theorem xe_103_3 : xf_103_3 = zEx xb_103_3 := by
  unfold xf_103_3 xb_103_3
  rfl
theorem xc_103_3 : zCd 103 [0, 2, 21, 28, 46, 104] 28 xb_103_3 := zc_iload_n xj_103 29 2 rfl rfl zf_ild_2 (zc_bipush xj_103 31 40 40 rfl rfl rfl (zc_ic_ge xj_103 34 73 104 rfl rfl rfl (zc_aload_n xj_103 35 0 rfl rfl zf_ald_0 (zc_aload_n xj_103 36 1 rfl rfl zf_ald_1 (zc_invokevirtual1 xj_103 39 22 104 1 205 6 6 rfl rfl rfl rfl (zc_istore_n xj_103 40 3 rfl rfl zf_ist_3 (zc_iload_n xj_103 41 3 rfl rfl zf_ild_3 (zc_iconst xj_103 42 (-1) 4294967295 rfl rfl rfl (zc_ic_ne xj_103 45 4 46 rfl rfl rfl (zc_return_ xj_103 46 rfl rfl (trivial)))))))))))
noncomputable def xb_103_2 : List zF := zq_aldg zG0 :: zq_k 0 :: zq_putf 6 1 0 :: zq_k 1 :: zq_istg zE2 :: xb_103_3
noncomputable def xf_103_2 : zE → zKn := fun E => zq_aldg zG0 (zq_k 0 (zq_putf 6 1 0 (zq_k 1 (zq_istg zE2 (xf_103_3 E) E) E) E) E) E
theorem xe_103_2 : xf_103_2 = zEx xb_103_2 := by
  unfold xf_103_2 xb_103_2
  rw [xe_103_3]
  rfl
theorem xc_103_2 : zCd 103 [0, 2, 21, 28, 46, 104] 21 xb_103_2 := zc_aload_n xj_103 22 0 rfl rfl zf_ald_0 (zc_iconst xj_103 23 0 0 rfl rfl rfl (zc_putf xj_103 26 18 6 1 77 0 rfl rfl rfl (zc_iconst xj_103 27 1 1 rfl rfl rfl (zc_istore_n xj_103 28 2 rfl rfl zf_ist_2 (xc_103_3)))))
noncomputable def xb_103_1 : List zF := [zq_ildg zG2, zq_k 40, zq_ic_ge 21, zq_aldg zG0, zq_getfg 6 zG2, zq_ildg zG2, zq_ildg zG2, zq_iast, zq_incg zG2 zE2 1, zq_goto 2]
noncomputable def xf_103_1 : zE → zKn := fun E => zq_ildg zG2 (zq_k 40 (zq_ic_ge 21 (zq_aldg zG0 (zq_getfg 6 zG2 (zq_ildg zG2 (zq_ildg zG2 (zq_iast (zq_incg zG2 zE2 1 (zq_goto 2 (zNil) E) E) E) E) E) E) E) E) E) E
theorem xe_103_1 : xf_103_1 = zEx xb_103_1 := by
  unfold xf_103_1 xb_103_1
  rfl
theorem xc_103_1 : zCd 103 [0, 2, 21, 28, 46, 104] 2 xb_103_1 := zc_iload_n xj_103 3 2 rfl rfl zf_ild_2 (zc_bipush xj_103 5 40 40 rfl rfl rfl (zc_ic_ge xj_103 8 16 21 rfl rfl rfl (zc_aload_n xj_103 9 0 rfl rfl zf_ald_0 (zc_getf xj_103 12 15 6 2 79 rfl rfl (zf_getf_2 _) (zc_iload_n xj_103 13 2 rfl rfl zf_ild_2 (zc_iload_n xj_103 14 2 rfl rfl zf_ild_2 (zc_iastore xj_103 15 rfl rfl (zc_iinc xj_103 18 2 1 1 rfl rfl rfl (zf_inc_2 _) (zc_goto xj_103 19 (-16) 2 rfl rfl rfl (trivial))))))))))
noncomputable def xb_103_0 : List zF := zq_k 0 :: zq_istg zE2 :: xb_103_1
noncomputable def xf_103_0 : zE → zKn := fun E => zq_k 0 (zq_istg zE2 (xf_103_1 E) E) E
theorem xe_103_0 : xf_103_0 = zEx xb_103_0 := by
  unfold xf_103_0 xb_103_0
  rw [xe_103_1]
  rfl
theorem xc_103_0 : zCd 103 [0, 2, 21, 28, 46, 104] 0 xb_103_0 := zc_iconst xj_103 1 0 0 rfl rfl rfl (zc_istore_n xj_103 2 2 rfl rfl zf_ist_2 (xc_103_1))
noncomputable def xm_103 : Lean.RArray (zE → zKn) := .branch 28 (.branch 2 (.leaf xf_103_0) (.branch 21 (.leaf xf_103_1) (.leaf xf_103_2))) (.branch 46 (.leaf xf_103_3) (.branch 104 (.leaf xf_103_4) (.leaf xf_103_5)))
theorem xa_103 : zCdAll 103 [0, 2, 21, 28, 46, 104] xm_103 := zAll2_ok (P := fun t => ∃ c, zCd 103 [0, 2, 21, 28, 46, 104] t c ∧ xm_103.get t = zEx c) ⟨⟨_, xc_103_0, xe_103_0⟩, ⟨_, xc_103_1, xe_103_1⟩, ⟨_, xc_103_2, xe_103_2⟩, ⟨_, xc_103_3, xe_103_3⟩, ⟨_, xc_103_4, xe_103_4⟩, ⟨_, xc_103_5, xe_103_5⟩, trivial⟩
/-- SquareMesh$Tree.leastJoining -/
theorem xj_104 : ∀ pc, pI 104 pc = pJ_104 pc := fun _ => rfl
noncomputable def xb_104_4 : List zF := [zq_ildg zG2, zq_iret 0]
noncomputable def xf_104_4 : zE → zKn := fun E => zq_ildg zG2 (zq_iret 0 (zNil) E) E
theorem xe_104_4 : xf_104_4 = zEx xb_104_4 := by
  unfold xf_104_4 xb_104_4
  rfl
theorem xc_104_4 : zCd 104 [0, 7, 68, 74, 80] 80 xb_104_4 := zc_iload_n xj_104 81 2 rfl rfl zf_ild_2 (zc_ireturn0 xj_104 82 rfl rfl (trivial))
noncomputable def xb_104_3 : List zF := [zq_incg zG4 zE4 1, zq_goto 7]
noncomputable def xf_104_3 : zE → zKn := fun E => zq_incg zG4 zE4 1 (zq_goto 7 (zNil) E) E
theorem xe_104_3 : xf_104_3 = zEx xb_104_3 := by
  unfold xf_104_3 xb_104_3
  rfl
theorem xc_104_3 : zCd 104 [0, 7, 68, 74, 80] 74 xb_104_3 := zc_iinc xj_104 77 4 1 1 rfl rfl rfl (zf_inc_4 _) (zc_goto xj_104 78 (-70) 7 rfl rfl rfl (trivial))
noncomputable def xb_104_2 : List zF := zq_ildg zG4 :: zq_istg zE2 :: zq_ildg zG5 :: zq_istg zE3 :: xb_104_3
noncomputable def xf_104_2 : zE → zKn := fun E => zq_ildg zG4 (zq_istg zE2 (zq_ildg zG5 (zq_istg zE3 (xf_104_3 E) E) E) E) E
theorem xe_104_2 : xf_104_2 = zEx xb_104_2 := by
  unfold xf_104_2 xb_104_2
  rw [xe_104_3]
  rfl
theorem xc_104_2 : zCd 104 [0, 7, 68, 74, 80] 68 xb_104_2 := zc_iload xj_104 70 4 rfl rfl zf_ild_4 (zc_istore_n xj_104 71 2 rfl rfl zf_ist_2 (zc_iload xj_104 73 5 rfl rfl zf_ild_5 (zc_istore_n xj_104 74 3 rfl rfl zf_ist_3 (xc_104_3))))
noncomputable def xb_104_1 : List zF := zq_ildg zG4 :: zq_aldg zG1 :: zq_getfg 1 zG8 :: zq_ic_ge 80 :: zq_aldg zG0 :: zq_getfg 6 zG2 :: zq_aldg zG1 :: zq_getfg 1 zG4 :: zq_k 2 :: zq_ildg zG4 :: zq_mul :: zq_ild_ 0 :: zq_ild_ 0 :: zq_aldg zG0 :: zq_getfg 6 zG2 :: zq_aldg zG1 :: zq_getfg 1 zG4 :: zq_k 2 :: zq_ildg zG4 :: zq_mul :: zq_k 1 :: zq_add :: zq_ild_ 0 :: zq_ild_ 0 :: zq_ic_eq 74 :: zq_aldg zG1 :: zq_ildg zG4 :: zq_calli 42 1 1 2 :: zq_istg zE5 :: zq_ildg zG2 :: zq_k 4294967295 :: zq_ic_eq 68 :: zq_ildg zG5 :: zq_ildg zG3 :: zq_ic_ge 74 :: xb_104_2
noncomputable def xf_104_1 : zE → zKn := fun E => zq_ildg zG4 (zq_aldg zG1 (zq_getfg 1 zG8 (zq_ic_ge 80 (zq_aldg zG0 (zq_getfg 6 zG2 (zq_aldg zG1 (zq_getfg 1 zG4 (zq_k 2 (zq_ildg zG4 (zq_mul (zq_ild_ 0 (zq_ild_ 0 (zq_aldg zG0 (zq_getfg 6 zG2 (zq_aldg zG1 (zq_getfg 1 zG4 (zq_k 2 (zq_ildg zG4 (zq_mul (zq_k 1 (zq_add (zq_ild_ 0 (zq_ild_ 0 (zq_ic_eq 74 (zq_aldg zG1 (zq_ildg zG4 (zq_calli 42 1 1 2 (zq_istg zE5 (zq_ildg zG2 (zq_k 4294967295 (zq_ic_eq 68 (zq_ildg zG5 (zq_ildg zG3 (zq_ic_ge 74 (xf_104_2 E) E) E) E) E) E) E) E) E) E) E) E) E) E) E) E) E) E) E) E) E) E) E) E) E) E) E) E) E) E) E) E) E) E) E) E
set_option maxRecDepth 100000 in
theorem xe_104_1 : xf_104_1 = zEx xb_104_1 := by
  unfold xf_104_1 xb_104_1
  rw [xe_104_2]
  rfl
theorem xc_104_1 : zCd 104 [0, 7, 68, 74, 80] 7 xb_104_1 := zc_iload xj_104 9 4 rfl rfl zf_ild_4 (zc_aload_n xj_104 10 1 rfl rfl zf_ald_1 (zc_getf xj_104 13 35 1 8 48 rfl rfl (zf_getf_8 _) (zc_ic_ge xj_104 16 67 80 rfl rfl rfl (zc_aload_n xj_104 17 0 rfl rfl zf_ald_0 (zc_getf xj_104 20 15 6 2 79 rfl rfl (zf_getf_2 _) (zc_aload_n xj_104 21 1 rfl rfl zf_ald_1 (zc_getf xj_104 24 26 1 4 36 rfl rfl (zf_getf_4 _) (zc_iconst xj_104 25 2 2 rfl rfl rfl (zc_iload xj_104 27 4 rfl rfl zf_ild_4 (zc_imul xj_104 28 rfl rfl (zc_iaload xj_104 29 rfl rfl (zc_iaload xj_104 30 rfl rfl (zc_aload_n xj_104 31 0 rfl rfl zf_ald_0 (zc_getf xj_104 34 15 6 2 79 rfl rfl (zf_getf_2 _) (zc_aload_n xj_104 35 1 rfl rfl zf_ald_1 (zc_getf xj_104 38 26 1 4 36 rfl rfl (zf_getf_4 _) (zc_iconst xj_104 39 2 2 rfl rfl rfl (zc_iload xj_104 41 4 rfl rfl zf_ild_4 (zc_imul xj_104 42 rfl rfl (zc_iconst xj_104 43 1 1 rfl rfl rfl (zc_iadd xj_104 44 rfl rfl (zc_iaload xj_104 45 rfl rfl (zc_iaload xj_104 46 rfl rfl (zc_ic_eq xj_104 49 28 74 rfl rfl rfl (zc_aload_n xj_104 50 1 rfl rfl zf_ald_1 (zc_iload xj_104 52 4 rfl rfl zf_ild_4 (zc_invokevirtual1 xj_104 55 38 42 1 206 1 2 rfl rfl rfl rfl (zc_istore xj_104 57 5 rfl rfl zf_ist_5 (zc_iload_n xj_104 58 2 rfl rfl zf_ild_2 (zc_iconst xj_104 59 (-1) 4294967295 rfl rfl rfl (zc_ic_eq xj_104 62 9 68 rfl rfl rfl (zc_iload xj_104 64 5 rfl rfl zf_ild_5 (zc_iload_n xj_104 65 3 rfl rfl zf_ild_3 (zc_ic_ge xj_104 68 9 74 rfl rfl rfl (xc_104_2)))))))))))))))))))))))))))))))))))
noncomputable def xb_104_0 : List zF := zq_k 4294967295 :: zq_istg zE2 :: zq_k 0 :: zq_istg zE3 :: zq_k 0 :: zq_istg zE4 :: xb_104_1
noncomputable def xf_104_0 : zE → zKn := fun E => zq_k 4294967295 (zq_istg zE2 (zq_k 0 (zq_istg zE3 (zq_k 0 (zq_istg zE4 (xf_104_1 E) E) E) E) E) E) E
theorem xe_104_0 : xf_104_0 = zEx xb_104_0 := by
  unfold xf_104_0 xb_104_0
  rw [xe_104_1]
  rfl
theorem xc_104_0 : zCd 104 [0, 7, 68, 74, 80] 0 xb_104_0 := zc_iconst xj_104 1 (-1) 4294967295 rfl rfl rfl (zc_istore_n xj_104 2 2 rfl rfl zf_ist_2 (zc_iconst xj_104 3 0 0 rfl rfl rfl (zc_istore_n xj_104 4 3 rfl rfl zf_ist_3 (zc_iconst xj_104 5 0 0 rfl rfl rfl (zc_istore xj_104 7 4 rfl rfl zf_ist_4 (xc_104_1))))))
noncomputable def xm_104 : Lean.RArray (zE → zKn) := .branch 68 (.branch 7 (.leaf xf_104_0) (.leaf xf_104_1)) (.branch 74 (.leaf xf_104_2) (.branch 80 (.leaf xf_104_3) (.leaf xf_104_4)))
theorem xa_104 : zCdAll 104 [0, 7, 68, 74, 80] xm_104 := zAll2_ok (P := fun t => ∃ c, zCd 104 [0, 7, 68, 74, 80] t c ∧ xm_104.get t = zEx c) ⟨⟨_, xc_104_0, xe_104_0⟩, ⟨_, xc_104_1, xe_104_1⟩, ⟨_, xc_104_2, xe_104_2⟩, ⟨_, xc_104_3, xe_104_3⟩, ⟨_, xc_104_4, xe_104_4⟩, trivial⟩
/-- SquareMesh$Tree.unite -/
theorem xj_105 : ∀ pc, pI 105 pc = pJ_105 pc := fun _ => rfl
noncomputable def xb_105_3 : List zF := [zq_vret]
noncomputable def xf_105_3 : zE → zKn := fun E => zq_vret (zNil) E
theorem xe_105_3 : xf_105_3 = zEx xb_105_3 := by
  unfold xf_105_3 xb_105_3
  rfl
theorem xc_105_3 : zCd 105 [0, 2, 25, 31] 31 xb_105_3 := zc_return_ xj_105 32 rfl rfl (trivial)
noncomputable def xb_105_2 : List zF := [zq_incg zG3 zE3 1, zq_goto 2]
noncomputable def xf_105_2 : zE → zKn := fun E => zq_incg zG3 zE3 1 (zq_goto 2 (zNil) E) E
theorem xe_105_2 : xf_105_2 = zEx xb_105_2 := by
  unfold xf_105_2 xb_105_2
  rfl
theorem xc_105_2 : zCd 105 [0, 2, 25, 31] 25 xb_105_2 := zc_iinc xj_105 28 3 1 1 rfl rfl rfl (zf_inc_3 _) (zc_goto xj_105 29 (-26) 2 rfl rfl rfl (trivial))
noncomputable def xb_105_1 : List zF := zq_ildg zG3 :: zq_k 40 :: zq_ic_ge 31 :: zq_aldg zG0 :: zq_getfg 6 zG2 :: zq_ildg zG3 :: zq_ild_ 0 :: zq_ildg zG2 :: zq_ic_ne 25 :: zq_aldg zG0 :: zq_getfg 6 zG2 :: zq_ildg zG3 :: zq_ildg zG1 :: zq_iast :: xb_105_2
noncomputable def xf_105_1 : zE → zKn := fun E => zq_ildg zG3 (zq_k 40 (zq_ic_ge 31 (zq_aldg zG0 (zq_getfg 6 zG2 (zq_ildg zG3 (zq_ild_ 0 (zq_ildg zG2 (zq_ic_ne 25 (zq_aldg zG0 (zq_getfg 6 zG2 (zq_ildg zG3 (zq_ildg zG1 (zq_iast (xf_105_2 E) E) E) E) E) E) E) E) E) E) E) E) E) E) E
theorem xe_105_1 : xf_105_1 = zEx xb_105_1 := by
  unfold xf_105_1 xb_105_1
  rw [xe_105_2]
  rfl
theorem xc_105_1 : zCd 105 [0, 2, 25, 31] 2 xb_105_1 := zc_iload_n xj_105 3 3 rfl rfl zf_ild_3 (zc_bipush xj_105 5 40 40 rfl rfl rfl (zc_ic_ge xj_105 8 26 31 rfl rfl rfl (zc_aload_n xj_105 9 0 rfl rfl zf_ald_0 (zc_getf xj_105 12 15 6 2 79 rfl rfl (zf_getf_2 _) (zc_iload_n xj_105 13 3 rfl rfl zf_ild_3 (zc_iaload xj_105 14 rfl rfl (zc_iload_n xj_105 15 2 rfl rfl zf_ild_2 (zc_ic_ne xj_105 18 10 25 rfl rfl rfl (zc_aload_n xj_105 19 0 rfl rfl zf_ald_0 (zc_getf xj_105 22 15 6 2 79 rfl rfl (zf_getf_2 _) (zc_iload_n xj_105 23 3 rfl rfl zf_ild_3 (zc_iload_n xj_105 24 1 rfl rfl zf_ild_1 (zc_iastore xj_105 25 rfl rfl (xc_105_2))))))))))))))
noncomputable def xb_105_0 : List zF := zq_k 0 :: zq_istg zE3 :: xb_105_1
noncomputable def xf_105_0 : zE → zKn := fun E => zq_k 0 (zq_istg zE3 (xf_105_1 E) E) E
theorem xe_105_0 : xf_105_0 = zEx xb_105_0 := by
  unfold xf_105_0 xb_105_0
  rw [xe_105_1]
  rfl
theorem xc_105_0 : zCd 105 [0, 2, 25, 31] 0 xb_105_0 := zc_iconst xj_105 1 0 0 rfl rfl rfl (zc_istore_n xj_105 2 3 rfl rfl zf_ist_3 (xc_105_1))
noncomputable def xm_105 : Lean.RArray (zE → zKn) := .branch 25 (.branch 2 (.leaf xf_105_0) (.leaf xf_105_1)) (.branch 31 (.leaf xf_105_2) (.leaf xf_105_3))
theorem xa_105 : zCdAll 105 [0, 2, 25, 31] xm_105 := zAll2_ok (P := fun t => ∃ c, zCd 105 [0, 2, 25, 31] t c ∧ xm_105.get t = zEx c) ⟨⟨_, xc_105_0, xe_105_0⟩, ⟨_, xc_105_1, xe_105_1⟩, ⟨_, xc_105_2, xe_105_2⟩, ⟨_, xc_105_3, xe_105_3⟩, trivial⟩
/-- SquareMesh$Ways.<init> -/
theorem xj_106 : ∀ pc, pI 106 pc = pJ_106 pc := fun _ => rfl
noncomputable def xb_106_0 : List zF := [zq_aldg zG0, zq_call0, zq_aldg zG0, zq_k 40, zq_newa 0, zq_putf 7 0 2, zq_aldg zG0, zq_k 113, zq_newa 0, zq_putf 7 1 2, zq_vret]
noncomputable def xf_106_0 : zE → zKn := fun E => zq_aldg zG0 (zq_call0 (zq_aldg zG0 (zq_k 40 (zq_newa 0 (zq_putf 7 0 2 (zq_aldg zG0 (zq_k 113 (zq_newa 0 (zq_putf 7 1 2 (zq_vret (zNil) E) E) E) E) E) E) E) E) E) E) E
theorem xe_106_0 : xf_106_0 = zEx xb_106_0 := by
  unfold xf_106_0 xb_106_0
  rfl
theorem xc_106_0 : zCd 106 [0] 0 xb_106_0 := zc_aload_n xj_106 1 0 rfl rfl zf_ald_0 (zc_invokespecial0 xj_106 4 3 0 0 11 0 0 rfl rfl (zc_aload_n xj_106 5 0 rfl rfl zf_ald_0 (zc_bipush xj_106 7 40 40 rfl rfl rfl (zc_any xj_106 9 (.newarray .int) [0] rfl rfl (zq_newa 0) rfl rfl (zc_putf xj_106 12 9 7 0 67 2 rfl rfl rfl (zc_aload_n xj_106 13 0 rfl rfl zf_ald_0 (zc_bipush xj_106 15 113 113 rfl rfl rfl (zc_any xj_106 17 (.newarray .int) [0] rfl rfl (zq_newa 0) rfl rfl (zc_putf xj_106 20 15 7 1 69 2 rfl rfl rfl (zc_return_ xj_106 21 rfl rfl (trivial)))))))))))
noncomputable def xm_106 : Lean.RArray (zE → zKn) := .leaf xf_106_0
theorem xa_106 : zCdAll 106 [0] xm_106 := zAll2_ok (P := fun t => ∃ c, zCd 106 [0] t c ∧ xm_106.get t = zEx c) ⟨⟨_, xc_106_0, xe_106_0⟩, trivial⟩
/-- SquareMesh$Ways.ringOf -/
theorem xj_107 : ∀ pc, pI 107 pc = pJ_107 pc := fun _ => rfl
noncomputable def xb_107_2 : List zF := [zq_lldg zG4, zq_lret]
noncomputable def xf_107_2 : zE → zKn := fun E => zq_lldg zG4 (zq_lret (zNil) E) E
theorem xe_107_2 : xf_107_2 = zEx xb_107_2 := by
  unfold xf_107_2 xb_107_2
  rfl
theorem xc_107_2 : zCd 107 [0, 12, 53] 53 xb_107_2 := zc_lload xj_107 55 4 rfl rfl zf_lld_4 (zc_lreturn xj_107 56 rfl rfl (trivial))
noncomputable def xb_107_1 : List zF := [zq_ildg zG8, zq_ildg zG3, zq_ic_ge 53, zq_ildg zG8, zq_k 40, zq_ic_ge 53, zq_aldg zG1, zq_lldg zG4, zq_calls 108 2 6, zq_lldg zG6, zq_kl 18446744073709551615, zq_lxor, zq_land, zq_lst 4, zq_lldg zG6, zq_lldg zG4, zq_lor, zq_lst 6, zq_incg zG8 zE8 1, zq_goto 12]
noncomputable def xf_107_1 : zE → zKn := fun E => zq_ildg zG8 (zq_ildg zG3 (zq_ic_ge 53 (zq_ildg zG8 (zq_k 40 (zq_ic_ge 53 (zq_aldg zG1 (zq_lldg zG4 (zq_calls 108 2 6 (zq_lldg zG6 (zq_kl 18446744073709551615 (zq_lxor (zq_land (zq_lst 4 (zq_lldg zG6 (zq_lldg zG4 (zq_lor (zq_lst 6 (zq_incg zG8 zE8 1 (zq_goto 12 (zNil) E) E) E) E) E) E) E) E) E) E) E) E) E) E) E) E) E) E) E) E
theorem xe_107_1 : xf_107_1 = zEx xb_107_1 := by
  unfold xf_107_1 xb_107_1
  rfl
theorem xc_107_1 : zCd 107 [0, 12, 53] 12 xb_107_1 := zc_iload xj_107 14 8 rfl rfl zf_ild_8 (zc_iload_n xj_107 15 3 rfl rfl zf_ild_3 (zc_ic_ge xj_107 18 38 53 rfl rfl rfl (zc_iload xj_107 20 8 rfl rfl zf_ild_8 (zc_bipush xj_107 22 40 40 rfl rfl rfl (zc_ic_ge xj_107 25 31 53 rfl rfl rfl (zc_aload_n xj_107 26 1 rfl rfl zf_ald_1 (zc_lload xj_107 28 4 rfl rfl zf_lld_4 (zc_invokestatic2 xj_107 31 18 108 2 177 0 6 rfl rfl rfl rfl (zc_lload xj_107 33 6 rfl rfl zf_lld_6 (zc_ldc2_w xj_107 36 22 18446744073709551615 5 rfl rfl rfl (zc_lxor xj_107 37 rfl rfl (zc_land xj_107 38 rfl rfl (zc_lstore xj_107 40 4 rfl rfl rfl (zc_lload xj_107 42 6 rfl rfl zf_lld_6 (zc_lload xj_107 44 4 rfl rfl zf_lld_4 (zc_lor xj_107 45 rfl rfl (zc_lstore xj_107 47 6 rfl rfl rfl (zc_iinc xj_107 50 8 1 1 rfl rfl rfl (zf_inc_8 _) (zc_goto xj_107 51 (-38) 12 rfl rfl rfl (trivial))))))))))))))))))))
noncomputable def xb_107_0 : List zF := zq_kl 1 :: zq_ildg zG2 :: zq_lshl :: zq_lst 4 :: zq_lldg zG4 :: zq_lst 6 :: zq_k 0 :: zq_istg zE8 :: xb_107_1
noncomputable def xf_107_0 : zE → zKn := fun E => zq_kl 1 (zq_ildg zG2 (zq_lshl (zq_lst 4 (zq_lldg zG4 (zq_lst 6 (zq_k 0 (zq_istg zE8 (xf_107_1 E) E) E) E) E) E) E) E) E
theorem xe_107_0 : xf_107_0 = zEx xb_107_0 := by
  unfold xf_107_0 xb_107_0
  rw [xe_107_1]
  rfl
theorem xc_107_0 : zCd 107 [0, 12, 53] 0 xb_107_0 := zc_lconst xj_107 1 1 rfl rfl (zc_iload_n xj_107 2 2 rfl rfl zf_ild_2 (zc_lshl xj_107 3 rfl rfl (zc_lstore xj_107 5 4 rfl rfl rfl (zc_lload xj_107 7 4 rfl rfl zf_lld_4 (zc_lstore xj_107 9 6 rfl rfl rfl (zc_iconst xj_107 10 0 0 rfl rfl rfl (zc_istore xj_107 12 8 rfl rfl zf_ist_8 (xc_107_1))))))))
noncomputable def xm_107 : Lean.RArray (zE → zKn) := .branch 12 (.leaf xf_107_0) (.branch 53 (.leaf xf_107_1) (.leaf xf_107_2))
theorem xa_107 : zCdAll 107 [0, 12, 53] xm_107 := zAll2_ok (P := fun t => ∃ c, zCd 107 [0, 12, 53] t c ∧ xm_107.get t = zEx c) ⟨⟨_, xc_107_0, xe_107_0⟩, ⟨_, xc_107_1, xe_107_1⟩, ⟨_, xc_107_2, xe_107_2⟩, trivial⟩
/-- SquareMesh$Ways.nextTo -/
theorem xj_108 : ∀ pc, pI 108 pc = pJ_108 pc := fun _ => rfl
noncomputable def xb_108_3 : List zF := [zq_lldg zG3, zq_lret]
noncomputable def xf_108_3 : zE → zKn := fun E => zq_lldg zG3 (zq_lret (zNil) E) E
theorem xe_108_3 : xf_108_3 = zEx xb_108_3 := by
  unfold xf_108_3 xb_108_3
  rfl
theorem xc_108_3 : zCd 108 [0, 5, 33, 39] 39 xb_108_3 := zc_lload_n xj_108 40 3 rfl rfl zf_lld_3 (zc_lreturn xj_108 41 rfl rfl (trivial))
noncomputable def xb_108_2 : List zF := [zq_incg zG5 zE5 1, zq_goto 5]
noncomputable def xf_108_2 : zE → zKn := fun E => zq_incg zG5 zE5 1 (zq_goto 5 (zNil) E) E
theorem xe_108_2 : xf_108_2 = zEx xb_108_2 := by
  unfold xf_108_2 xb_108_2
  rfl
theorem xc_108_2 : zCd 108 [0, 5, 33, 39] 33 xb_108_2 := zc_iinc xj_108 36 5 1 1 rfl rfl rfl (zf_inc_5 _) (zc_goto xj_108 37 (-31) 5 rfl rfl rfl (trivial))
noncomputable def xb_108_1 : List zF := zq_ildg zG5 :: zq_k 40 :: zq_ic_ge 39 :: zq_lldg zG1 :: zq_ildg zG5 :: zq_lushr :: zq_kl 1 :: zq_land :: zq_kl 0 :: zq_lcmp :: zq_if_eq 33 :: zq_lldg zG3 :: zq_aldg zG0 :: zq_getfg 1 zG5 :: zq_ildg zG5 :: zq_ild_ 1 :: zq_lor :: zq_lst 3 :: xb_108_2
noncomputable def xf_108_1 : zE → zKn := fun E => zq_ildg zG5 (zq_k 40 (zq_ic_ge 39 (zq_lldg zG1 (zq_ildg zG5 (zq_lushr (zq_kl 1 (zq_land (zq_kl 0 (zq_lcmp (zq_if_eq 33 (zq_lldg zG3 (zq_aldg zG0 (zq_getfg 1 zG5 (zq_ildg zG5 (zq_ild_ 1 (zq_lor (zq_lst 3 (xf_108_2 E) E) E) E) E) E) E) E) E) E) E) E) E) E) E) E) E) E) E
theorem xe_108_1 : xf_108_1 = zEx xb_108_1 := by
  unfold xf_108_1 xb_108_1
  rw [xe_108_2]
  rfl
theorem xc_108_1 : zCd 108 [0, 5, 33, 39] 5 xb_108_1 := zc_iload xj_108 7 5 rfl rfl zf_ild_5 (zc_bipush xj_108 9 40 40 rfl rfl rfl (zc_ic_ge xj_108 12 30 39 rfl rfl rfl (zc_lload_n xj_108 13 1 rfl rfl zf_lld_1 (zc_iload xj_108 15 5 rfl rfl zf_ild_5 (zc_lushr xj_108 16 rfl rfl (zc_lconst xj_108 17 1 rfl rfl (zc_land xj_108 18 rfl rfl (zc_lconst xj_108 19 0 rfl rfl (zc_lcmp xj_108 20 rfl rfl (zc_if_eq xj_108 23 13 33 rfl rfl rfl (zc_lload_n xj_108 24 3 rfl rfl zf_lld_3 (zc_aload_n xj_108 25 0 rfl rfl zf_ald_0 (zc_getf xj_108 28 24 1 5 40 rfl rfl (zf_getf_5 _) (zc_iload xj_108 30 5 rfl rfl zf_ild_5 (zc_laload xj_108 31 rfl rfl (zc_lor xj_108 32 rfl rfl (zc_lstore_n xj_108 33 3 rfl rfl rfl (xc_108_2))))))))))))))))))
noncomputable def xb_108_0 : List zF := zq_kl 0 :: zq_lst 3 :: zq_k 0 :: zq_istg zE5 :: xb_108_1
noncomputable def xf_108_0 : zE → zKn := fun E => zq_kl 0 (zq_lst 3 (zq_k 0 (zq_istg zE5 (xf_108_1 E) E) E) E) E
theorem xe_108_0 : xf_108_0 = zEx xb_108_0 := by
  unfold xf_108_0 xb_108_0
  rw [xe_108_1]
  rfl
theorem xc_108_0 : zCd 108 [0, 5, 33, 39] 0 xb_108_0 := zc_lconst xj_108 1 0 rfl rfl (zc_lstore_n xj_108 2 3 rfl rfl rfl (zc_iconst xj_108 3 0 0 rfl rfl rfl (zc_istore xj_108 5 5 rfl rfl zf_ist_5 (xc_108_1))))
noncomputable def xm_108 : Lean.RArray (zE → zKn) := .branch 33 (.branch 5 (.leaf xf_108_0) (.leaf xf_108_1)) (.branch 39 (.leaf xf_108_2) (.leaf xf_108_3))
theorem xa_108 : zCdAll 108 [0, 5, 33, 39] xm_108 := zAll2_ok (P := fun t => ∃ c, zCd 108 [0, 5, 33, 39] t c ∧ xm_108.get t = zEx c) ⟨⟨_, xc_108_0, xe_108_0⟩, ⟨_, xc_108_1, xe_108_1⟩, ⟨_, xc_108_2, xe_108_2⟩, ⟨_, xc_108_3, xe_108_3⟩, trivial⟩
/-- SquareMesh$Ways.countTo -/
theorem xj_109 : ∀ pc, pI 109 pc = pJ_109 pc := fun _ => rfl
noncomputable def xb_109_5 : List zF := [zq_ildg zG7, zq_iret 0]
noncomputable def xf_109_5 : zE → zKn := fun E => zq_ildg zG7 (zq_iret 0 (zNil) E) E
theorem xe_109_5 : xf_109_5 = zEx xb_109_5 := by
  unfold xf_109_5 xb_109_5
  rfl
theorem xc_109_5 : zCd 109 [0, 28, 63, 94, 100, 106] 106 xb_109_5 := zc_iload xj_109 108 7 rfl rfl zf_ild_7 (zc_ireturn0 xj_109 109 rfl rfl (trivial))
noncomputable def xb_109_4 : List zF := [zq_incg zG8 zE8 1, zq_goto 28]
noncomputable def xf_109_4 : zE → zKn := fun E => zq_incg zG8 zE8 1 (zq_goto 28 (zNil) E) E
theorem xe_109_4 : xf_109_4 = zEx xb_109_4 := by
  unfold xf_109_4 xb_109_4
  rfl
theorem xc_109_4 : zCd 109 [0, 28, 63, 94, 100, 106] 100 xb_109_4 := zc_iinc xj_109 103 8 1 1 rfl rfl rfl (zf_inc_8 _) (zc_goto xj_109 104 (-75) 28 rfl rfl rfl (trivial))
noncomputable def xb_109_3 : List zF := [zq_incg zG9 zE9 1, zq_goto 63]
noncomputable def xf_109_3 : zE → zKn := fun E => zq_incg zG9 zE9 1 (zq_goto 63 (zNil) E) E
theorem xe_109_3 : xf_109_3 = zEx xb_109_3 := by
  unfold xf_109_3 xb_109_3
  rfl
theorem xc_109_3 : zCd 109 [0, 28, 63, 94, 100, 106] 94 xb_109_3 := zc_iinc xj_109 97 9 1 1 rfl rfl rfl (zf_inc_9 _) (zc_goto xj_109 98 (-34) 63 rfl rfl rfl (trivial))
noncomputable def xb_109_2 : List zF := zq_ildg zG9 :: zq_k 40 :: zq_ic_ge 100 :: zq_lldg zG3 :: zq_ildg zG9 :: zq_lushr :: zq_kl 1 :: zq_land :: zq_kl 0 :: zq_lcmp :: zq_if_eq 94 :: zq_aldg zG0 :: zq_getfg 7 zG0 :: zq_ildg zG9 :: zq_ildg zG8 :: zq_iast :: zq_ildg zG8 :: zq_istg zE7 :: xb_109_3
noncomputable def xf_109_2 : zE → zKn := fun E => zq_ildg zG9 (zq_k 40 (zq_ic_ge 100 (zq_lldg zG3 (zq_ildg zG9 (zq_lushr (zq_kl 1 (zq_land (zq_kl 0 (zq_lcmp (zq_if_eq 94 (zq_aldg zG0 (zq_getfg 7 zG0 (zq_ildg zG9 (zq_ildg zG8 (zq_iast (zq_ildg zG8 (zq_istg zE7 (xf_109_3 E) E) E) E) E) E) E) E) E) E) E) E) E) E) E) E) E) E) E
theorem xe_109_2 : xf_109_2 = zEx xb_109_2 := by
  unfold xf_109_2 xb_109_2
  rw [xe_109_3]
  rfl
theorem xc_109_2 : zCd 109 [0, 28, 63, 94, 100, 106] 63 xb_109_2 := zc_iload xj_109 65 9 rfl rfl zf_ild_9 (zc_bipush xj_109 67 40 40 rfl rfl rfl (zc_ic_ge xj_109 70 33 100 rfl rfl rfl (zc_lload_n xj_109 71 3 rfl rfl zf_lld_3 (zc_iload xj_109 73 9 rfl rfl zf_ild_9 (zc_lushr xj_109 74 rfl rfl (zc_lconst xj_109 75 1 rfl rfl (zc_land xj_109 76 rfl rfl (zc_lconst xj_109 77 0 rfl rfl (zc_lcmp xj_109 78 rfl rfl (zc_if_eq xj_109 81 16 94 rfl rfl rfl (zc_aload_n xj_109 82 0 rfl rfl zf_ald_0 (zc_getf xj_109 85 9 7 0 67 rfl rfl (zf_getf_0 _) (zc_iload xj_109 87 9 rfl rfl zf_ild_9 (zc_iload xj_109 89 8 rfl rfl zf_ild_8 (zc_iastore xj_109 90 rfl rfl (zc_iload xj_109 92 8 rfl rfl zf_ild_8 (zc_istore xj_109 94 7 rfl rfl zf_ist_7 (xc_109_3))))))))))))))))))
noncomputable def xb_109_1 : List zF := zq_ildg zG8 :: zq_k 40 :: zq_ic_ge 106 :: zq_lldg zG3 :: zq_kl 0 :: zq_lcmp :: zq_if_eq 106 :: zq_aldg zG1 :: zq_lldg zG3 :: zq_calls 108 2 6 :: zq_lldg zG5 :: zq_kl 18446744073709551615 :: zq_lxor :: zq_land :: zq_lst 3 :: zq_lldg zG5 :: zq_lldg zG3 :: zq_lor :: zq_lst 5 :: zq_k 0 :: zq_istg zE9 :: xb_109_2
noncomputable def xf_109_1 : zE → zKn := fun E => zq_ildg zG8 (zq_k 40 (zq_ic_ge 106 (zq_lldg zG3 (zq_kl 0 (zq_lcmp (zq_if_eq 106 (zq_aldg zG1 (zq_lldg zG3 (zq_calls 108 2 6 (zq_lldg zG5 (zq_kl 18446744073709551615 (zq_lxor (zq_land (zq_lst 3 (zq_lldg zG5 (zq_lldg zG3 (zq_lor (zq_lst 5 (zq_k 0 (zq_istg zE9 (xf_109_2 E) E) E) E) E) E) E) E) E) E) E) E) E) E) E) E) E) E) E) E) E) E
theorem xe_109_1 : xf_109_1 = zEx xb_109_1 := by
  unfold xf_109_1 xb_109_1
  rw [xe_109_2]
  rfl
theorem xc_109_1 : zCd 109 [0, 28, 63, 94, 100, 106] 28 xb_109_1 := zc_iload xj_109 30 8 rfl rfl zf_ild_8 (zc_bipush xj_109 32 40 40 rfl rfl rfl (zc_ic_ge xj_109 35 74 106 rfl rfl rfl (zc_lload_n xj_109 36 3 rfl rfl zf_lld_3 (zc_lconst xj_109 37 0 rfl rfl (zc_lcmp xj_109 38 rfl rfl (zc_if_eq xj_109 41 68 106 rfl rfl rfl (zc_aload_n xj_109 42 1 rfl rfl zf_ald_1 (zc_lload_n xj_109 43 3 rfl rfl zf_lld_3 (zc_invokestatic2 xj_109 46 18 108 2 177 0 6 rfl rfl rfl rfl (zc_lload xj_109 48 5 rfl rfl zf_lld_5 (zc_ldc2_w xj_109 51 22 18446744073709551615 5 rfl rfl rfl (zc_lxor xj_109 52 rfl rfl (zc_land xj_109 53 rfl rfl (zc_lstore_n xj_109 54 3 rfl rfl rfl (zc_lload xj_109 56 5 rfl rfl zf_lld_5 (zc_lload_n xj_109 57 3 rfl rfl zf_lld_3 (zc_lor xj_109 58 rfl rfl (zc_lstore xj_109 60 5 rfl rfl rfl (zc_iconst xj_109 61 0 0 rfl rfl rfl (zc_istore xj_109 63 9 rfl rfl zf_ist_9 (xc_109_2)))))))))))))))))))))
noncomputable def xb_109_0 : List zF := zq_kl 1 :: zq_ildg zG2 :: zq_lshl :: zq_lst 3 :: zq_lldg zG3 :: zq_lst 5 :: zq_k 0 :: zq_istg zE7 :: zq_aldg zG0 :: zq_getfg 7 zG0 :: zq_k 4294967295 :: zq_fill :: zq_aldg zG0 :: zq_getfg 7 zG0 :: zq_ildg zG2 :: zq_k 0 :: zq_iast :: zq_k 1 :: zq_istg zE8 :: xb_109_1
noncomputable def xf_109_0 : zE → zKn := fun E => zq_kl 1 (zq_ildg zG2 (zq_lshl (zq_lst 3 (zq_lldg zG3 (zq_lst 5 (zq_k 0 (zq_istg zE7 (zq_aldg zG0 (zq_getfg 7 zG0 (zq_k 4294967295 (zq_fill (zq_aldg zG0 (zq_getfg 7 zG0 (zq_ildg zG2 (zq_k 0 (zq_iast (zq_k 1 (zq_istg zE8 (xf_109_1 E) E) E) E) E) E) E) E) E) E) E) E) E) E) E) E) E) E) E) E
theorem xe_109_0 : xf_109_0 = zEx xb_109_0 := by
  unfold xf_109_0 xb_109_0
  rw [xe_109_1]
  rfl
theorem xc_109_0 : zCd 109 [0, 28, 63, 94, 100, 106] 0 xb_109_0 := zc_lconst xj_109 1 1 rfl rfl (zc_iload_n xj_109 2 2 rfl rfl zf_ild_2 (zc_lshl xj_109 3 rfl rfl (zc_lstore_n xj_109 4 3 rfl rfl rfl (zc_lload_n xj_109 5 3 rfl rfl zf_lld_3 (zc_lstore xj_109 7 5 rfl rfl rfl (zc_iconst xj_109 8 0 0 rfl rfl rfl (zc_istore xj_109 10 7 rfl rfl zf_ist_7 (zc_aload_n xj_109 11 0 rfl rfl zf_ald_0 (zc_getf xj_109 14 9 7 0 67 rfl rfl (zf_getf_0 _) (zc_iconst xj_109 15 (-1) 4294967295 rfl rfl rfl (zc_any xj_109 18 (.invokestatic 30) [2, 356, 2, 210, 0, 4] rfl rfl (zq_fill) rfl rfl (zc_aload_n xj_109 19 0 rfl rfl zf_ald_0 (zc_getf xj_109 22 9 7 0 67 rfl rfl (zf_getf_0 _) (zc_iload_n xj_109 23 2 rfl rfl zf_ild_2 (zc_iconst xj_109 24 0 0 rfl rfl rfl (zc_iastore xj_109 25 rfl rfl (zc_iconst xj_109 26 1 1 rfl rfl rfl (zc_istore xj_109 28 8 rfl rfl zf_ist_8 (xc_109_1)))))))))))))))))))
noncomputable def xm_109 : Lean.RArray (zE → zKn) := .branch 94 (.branch 28 (.leaf xf_109_0) (.branch 63 (.leaf xf_109_1) (.leaf xf_109_2))) (.branch 100 (.leaf xf_109_3) (.branch 106 (.leaf xf_109_4) (.leaf xf_109_5)))
theorem xa_109 : zCdAll 109 [0, 28, 63, 94, 100, 106] xm_109 := zAll2_ok (P := fun t => ∃ c, zCd 109 [0, 28, 63, 94, 100, 106] t c ∧ xm_109.get t = zEx c) ⟨⟨_, xc_109_0, xe_109_0⟩, ⟨_, xc_109_1, xe_109_1⟩, ⟨_, xc_109_2, xe_109_2⟩, ⟨_, xc_109_3, xe_109_3⟩, ⟨_, xc_109_4, xe_109_4⟩, ⟨_, xc_109_5, xe_109_5⟩, trivial⟩
/-- SquareMesh$Ways.measureTo -/
theorem xj_110 : ∀ pc, pI 110 pc = pJ_110 pc := fun _ => rfl
noncomputable def xb_110_9 : List zF := [zq_vret]
noncomputable def xf_110_9 : zE → zKn := fun E => zq_vret (zNil) E
theorem xe_110_9 : xf_110_9 = zEx xb_110_9 := by
  unfold xf_110_9 xb_110_9
  rfl
theorem xc_110_9 : zCd 110 [0, 2, 30, 50, 66, 147, 151, 152, 159, 165] 165 xb_110_9 := zc_return_ xj_110 166 rfl rfl (trivial)
noncomputable def xb_110_8 : List zF := [zq_incg zG4 zE4 1, zq_goto 50]
noncomputable def xf_110_8 : zE → zKn := fun E => zq_incg zG4 zE4 1 (zq_goto 50 (zNil) E) E
theorem xe_110_8 : xf_110_8 = zEx xb_110_8 := by
  unfold xf_110_8 xb_110_8
  rfl
theorem xc_110_8 : zCd 110 [0, 2, 30, 50, 66, 147, 151, 152, 159, 165] 159 xb_110_8 := zc_iinc xj_110 162 4 1 1 rfl rfl rfl (zf_inc_4 _) (zc_goto xj_110 163 (-112) 50 rfl rfl rfl (trivial))
noncomputable def xb_110_7 : List zF := [zq_istg zE3, zq_incg zG5 zE5 1, zq_goto 66]
noncomputable def xf_110_7 : zE → zKn := fun E => zq_istg zE3 (zq_incg zG5 zE5 1 (zq_goto 66 (zNil) E) E) E
theorem xe_110_7 : xf_110_7 = zEx xb_110_7 := by
  unfold xf_110_7 xb_110_7
  rfl
theorem xc_110_7 : zCd 110 [0, 2, 30, 50, 66, 147, 151, 152, 159, 165] 152 xb_110_7 := zc_istore_n xj_110 153 3 rfl rfl zf_ist_3 (zc_iinc xj_110 156 5 1 1 rfl rfl rfl (zf_inc_5 _) (zc_goto xj_110 157 (-90) 66 rfl rfl rfl (trivial)))
noncomputable def xb_110_6 : List zF := zq_k 0 :: xb_110_7
noncomputable def xf_110_6 : zE → zKn := fun E => zq_k 0 (xf_110_7 E) E
theorem xe_110_6 : xf_110_6 = zEx xb_110_6 := by
  unfold xf_110_6 xb_110_6
  rw [xe_110_7]
  rfl
theorem xc_110_6 : zCd 110 [0, 2, 30, 50, 66, 147, 151, 152, 159, 165] 151 xb_110_6 := zc_iconst xj_110 152 0 0 rfl rfl rfl (xc_110_7)
noncomputable def xb_110_5 : List zF := [zq_k 1, zq_goto 152]
noncomputable def xf_110_5 : zE → zKn := fun E => zq_k 1 (zq_goto 152 (zNil) E) E
theorem xe_110_5 : xf_110_5 = zEx xb_110_5 := by
  unfold xf_110_5 xb_110_5
  rfl
theorem xc_110_5 : zCd 110 [0, 2, 30, 50, 66, 147, 151, 152, 159, 165] 147 xb_110_5 := zc_iconst xj_110 148 1 1 rfl rfl rfl (zc_goto xj_110 149 4 152 rfl rfl rfl (trivial))
noncomputable def xb_110_4 : List zF := zq_ildg zG5 :: zq_aldg zG1 :: zq_getfg 1 zG8 :: zq_ic_ge 159 :: zq_aldg zG1 :: zq_getfg 1 zG4 :: zq_k 2 :: zq_ildg zG5 :: zq_mul :: zq_ild_ 0 :: zq_istg zE6 :: zq_aldg zG1 :: zq_getfg 1 zG4 :: zq_k 2 :: zq_ildg zG5 :: zq_mul :: zq_k 1 :: zq_add :: zq_ild_ 0 :: zq_istg zE7 :: zq_aldg zG0 :: zq_ildg zG6 :: zq_ildg zG7 :: zq_aldg zG0 :: zq_getfg 7 zG1 :: zq_ildg zG5 :: zq_ild_ 0 :: zq_calli 111 3 7 4 :: zq_istg zE8 :: zq_aldg zG0 :: zq_ildg zG7 :: zq_ildg zG6 :: zq_aldg zG0 :: zq_getfg 7 zG1 :: zq_ildg zG5 :: zq_ild_ 0 :: zq_calli 111 3 7 4 :: zq_istg zE9 :: zq_ildg zG3 :: zq_if_ne 147 :: zq_ildg zG8 :: zq_if_ne 147 :: zq_ildg zG9 :: zq_if_eq 151 :: xb_110_5
noncomputable def xf_110_4 : zE → zKn := fun E => zq_ildg zG5 (zq_aldg zG1 (zq_getfg 1 zG8 (zq_ic_ge 159 (zq_aldg zG1 (zq_getfg 1 zG4 (zq_k 2 (zq_ildg zG5 (zq_mul (zq_ild_ 0 (zq_istg zE6 (zq_aldg zG1 (zq_getfg 1 zG4 (zq_k 2 (zq_ildg zG5 (zq_mul (zq_k 1 (zq_add (zq_ild_ 0 (zq_istg zE7 (zq_aldg zG0 (zq_ildg zG6 (zq_ildg zG7 (zq_aldg zG0 (zq_getfg 7 zG1 (zq_ildg zG5 (zq_ild_ 0 (zq_calli 111 3 7 4 (zq_istg zE8 (zq_aldg zG0 (zq_ildg zG7 (zq_ildg zG6 (zq_aldg zG0 (zq_getfg 7 zG1 (zq_ildg zG5 (zq_ild_ 0 (zq_calli 111 3 7 4 (zq_istg zE9 (zq_ildg zG3 (zq_if_ne 147 (zq_ildg zG8 (zq_if_ne 147 (zq_ildg zG9 (zq_if_eq 151 (xf_110_5 E) E) E) E) E) E) E) E) E) E) E) E) E) E) E) E) E) E) E) E) E) E) E) E) E) E) E) E) E) E) E) E) E) E) E) E) E) E) E) E) E) E) E) E) E
set_option maxRecDepth 100000 in
theorem xe_110_4 : xf_110_4 = zEx xb_110_4 := by
  unfold xf_110_4 xb_110_4
  rw [xe_110_5]
  rfl
theorem xc_110_4 : zCd 110 [0, 2, 30, 50, 66, 147, 151, 152, 159, 165] 66 xb_110_4 := zc_iload xj_110 68 5 rfl rfl zf_ild_5 (zc_aload_n xj_110 69 1 rfl rfl zf_ald_1 (zc_getf xj_110 72 36 1 8 49 rfl rfl (zf_getf_8 _) (zc_ic_ge xj_110 75 87 159 rfl rfl rfl (zc_aload_n xj_110 76 1 rfl rfl zf_ald_1 (zc_getf xj_110 79 47 1 4 37 rfl rfl (zf_getf_4 _) (zc_iconst xj_110 80 2 2 rfl rfl rfl (zc_iload xj_110 82 5 rfl rfl zf_ild_5 (zc_imul xj_110 83 rfl rfl (zc_iaload xj_110 84 rfl rfl (zc_istore xj_110 86 6 rfl rfl zf_ist_6 (zc_aload_n xj_110 87 1 rfl rfl zf_ald_1 (zc_getf xj_110 90 47 1 4 37 rfl rfl (zf_getf_4 _) (zc_iconst xj_110 91 2 2 rfl rfl rfl (zc_iload xj_110 93 5 rfl rfl zf_ild_5 (zc_imul xj_110 94 rfl rfl (zc_iconst xj_110 95 1 1 rfl rfl rfl (zc_iadd xj_110 96 rfl rfl (zc_iaload xj_110 97 rfl rfl (zc_istore xj_110 99 7 rfl rfl zf_ist_7 (zc_aload_n xj_110 100 0 rfl rfl zf_ald_0 (zc_iload xj_110 102 6 rfl rfl zf_ild_6 (zc_iload xj_110 104 7 rfl rfl zf_ild_7 (zc_aload_n xj_110 105 0 rfl rfl zf_ald_0 (zc_getf xj_110 108 15 7 1 69 rfl rfl (zf_getf_1 _) (zc_iload xj_110 110 5 rfl rfl zf_ild_5 (zc_iaload xj_110 111 rfl rfl (zc_invokevirtual1 xj_110 114 50 111 3 219 7 4 rfl rfl rfl rfl (zc_istore xj_110 116 8 rfl rfl zf_ist_8 (zc_aload_n xj_110 117 0 rfl rfl zf_ald_0 (zc_iload xj_110 119 7 rfl rfl zf_ild_7 (zc_iload xj_110 121 6 rfl rfl zf_ild_6 (zc_aload_n xj_110 122 0 rfl rfl zf_ald_0 (zc_getf xj_110 125 15 7 1 69 rfl rfl (zf_getf_1 _) (zc_iload xj_110 127 5 rfl rfl zf_ild_5 (zc_iaload xj_110 128 rfl rfl (zc_invokevirtual1 xj_110 131 50 111 3 219 7 4 rfl rfl rfl rfl (zc_istore xj_110 133 9 rfl rfl zf_ist_9 (zc_iload_n xj_110 134 3 rfl rfl zf_ild_3 (zc_if_ne xj_110 137 13 147 rfl rfl rfl (zc_iload xj_110 139 8 rfl rfl zf_ild_8 (zc_if_ne xj_110 142 8 147 rfl rfl rfl (zc_iload xj_110 144 9 rfl rfl zf_ild_9 (zc_if_eq xj_110 147 7 151 rfl rfl rfl (xc_110_5))))))))))))))))))))))))))))))))))))))))))))
noncomputable def xb_110_3 : List zF := zq_ildg zG4 :: zq_k 40 :: zq_ic_ge 165 :: zq_ildg zG3 :: zq_if_eq 165 :: zq_k 0 :: zq_istg zE3 :: zq_k 0 :: zq_istg zE5 :: xb_110_4
noncomputable def xf_110_3 : zE → zKn := fun E => zq_ildg zG4 (zq_k 40 (zq_ic_ge 165 (zq_ildg zG3 (zq_if_eq 165 (zq_k 0 (zq_istg zE3 (zq_k 0 (zq_istg zE5 (xf_110_4 E) E) E) E) E) E) E) E) E) E
theorem xe_110_3 : xf_110_3 = zEx xb_110_3 := by
  unfold xf_110_3 xb_110_3
  rw [xe_110_4]
  rfl
theorem xc_110_3 : zCd 110 [0, 2, 30, 50, 66, 147, 151, 152, 159, 165] 50 xb_110_3 := zc_iload xj_110 52 4 rfl rfl zf_ild_4 (zc_bipush xj_110 54 40 40 rfl rfl rfl (zc_ic_ge xj_110 57 111 165 rfl rfl rfl (zc_iload_n xj_110 58 3 rfl rfl zf_ild_3 (zc_if_eq xj_110 61 107 165 rfl rfl rfl (zc_iconst xj_110 62 0 0 rfl rfl rfl (zc_istore_n xj_110 63 3 rfl rfl zf_ist_3 (zc_iconst xj_110 64 0 0 rfl rfl rfl (zc_istore xj_110 66 5 rfl rfl zf_ist_5 (xc_110_4)))))))))
noncomputable def xb_110_2 : List zF := zq_aldg zG0 :: zq_getfg 7 zG0 :: zq_k 4294967295 :: zq_fill :: zq_aldg zG0 :: zq_getfg 7 zG0 :: zq_ildg zG2 :: zq_k 0 :: zq_iast :: zq_k 1 :: zq_istg zE3 :: zq_k 0 :: zq_istg zE4 :: xb_110_3
noncomputable def xf_110_2 : zE → zKn := fun E => zq_aldg zG0 (zq_getfg 7 zG0 (zq_k 4294967295 (zq_fill (zq_aldg zG0 (zq_getfg 7 zG0 (zq_ildg zG2 (zq_k 0 (zq_iast (zq_k 1 (zq_istg zE3 (zq_k 0 (zq_istg zE4 (xf_110_3 E) E) E) E) E) E) E) E) E) E) E) E) E) E
theorem xe_110_2 : xf_110_2 = zEx xb_110_2 := by
  unfold xf_110_2 xb_110_2
  rw [xe_110_3]
  rfl
theorem xc_110_2 : zCd 110 [0, 2, 30, 50, 66, 147, 151, 152, 159, 165] 30 xb_110_2 := zc_aload_n xj_110 31 0 rfl rfl zf_ald_0 (zc_getf xj_110 34 9 7 0 67 rfl rfl (zf_getf_0 _) (zc_iconst xj_110 35 (-1) 4294967295 rfl rfl rfl (zc_any xj_110 38 (.invokestatic 30) [2, 356, 2, 210, 0, 4] rfl rfl (zq_fill) rfl rfl (zc_aload_n xj_110 39 0 rfl rfl zf_ald_0 (zc_getf xj_110 42 9 7 0 67 rfl rfl (zf_getf_0 _) (zc_iload_n xj_110 43 2 rfl rfl zf_ild_2 (zc_iconst xj_110 44 0 0 rfl rfl rfl (zc_iastore xj_110 45 rfl rfl (zc_iconst xj_110 46 1 1 rfl rfl rfl (zc_istore_n xj_110 47 3 rfl rfl zf_ist_3 (zc_iconst xj_110 48 0 0 rfl rfl rfl (zc_istore xj_110 50 4 rfl rfl zf_ist_4 (xc_110_3)))))))))))))
noncomputable def xb_110_1 : List zF := [zq_ildg zG3, zq_aldg zG1, zq_getfg 1 zG8, zq_ic_ge 30, zq_aldg zG0, zq_getfg 7 zG1, zq_ildg zG3, zq_aldg zG1, zq_ildg zG3, zq_calli 42 1 1 2, zq_calls 185 1 5, zq_iast, zq_incg zG3 zE3 1, zq_goto 2]
noncomputable def xf_110_1 : zE → zKn := fun E => zq_ildg zG3 (zq_aldg zG1 (zq_getfg 1 zG8 (zq_ic_ge 30 (zq_aldg zG0 (zq_getfg 7 zG1 (zq_ildg zG3 (zq_aldg zG1 (zq_ildg zG3 (zq_calli 42 1 1 2 (zq_calls 185 1 5 (zq_iast (zq_incg zG3 zE3 1 (zq_goto 2 (zNil) E) E) E) E) E) E) E) E) E) E) E) E) E) E
theorem xe_110_1 : xf_110_1 = zEx xb_110_1 := by
  unfold xf_110_1 xb_110_1
  rfl
theorem xc_110_1 : zCd 110 [0, 2, 30, 50, 66, 147, 151, 152, 159, 165] 2 xb_110_1 := zc_iload_n xj_110 3 3 rfl rfl zf_ild_3 (zc_aload_n xj_110 4 1 rfl rfl zf_ald_1 (zc_getf xj_110 7 36 1 8 49 rfl rfl (zf_getf_8 _) (zc_ic_ge xj_110 10 23 30 rfl rfl rfl (zc_aload_n xj_110 11 0 rfl rfl zf_ald_0 (zc_getf xj_110 14 15 7 1 69 rfl rfl (zf_getf_1 _) (zc_iload_n xj_110 15 3 rfl rfl zf_ild_3 (zc_aload_n xj_110 16 1 rfl rfl zf_ald_1 (zc_iload_n xj_110 17 3 rfl rfl zf_ild_3 (zc_invokevirtual1 xj_110 20 40 42 1 218 1 2 rfl rfl rfl rfl (zc_invokestatic4 xj_110 23 44 185 1 215 0 5 rfl rfl rfl rfl (zc_iastore xj_110 24 rfl rfl (zc_iinc xj_110 27 3 1 1 rfl rfl rfl (zf_inc_3 _) (zc_goto xj_110 28 (-25) 2 rfl rfl rfl (trivial))))))))))))))
noncomputable def xb_110_0 : List zF := zq_k 0 :: zq_istg zE3 :: xb_110_1
noncomputable def xf_110_0 : zE → zKn := fun E => zq_k 0 (zq_istg zE3 (xf_110_1 E) E) E
theorem xe_110_0 : xf_110_0 = zEx xb_110_0 := by
  unfold xf_110_0 xb_110_0
  rw [xe_110_1]
  rfl
theorem xc_110_0 : zCd 110 [0, 2, 30, 50, 66, 147, 151, 152, 159, 165] 0 xb_110_0 := zc_iconst xj_110 1 0 0 rfl rfl rfl (zc_istore_n xj_110 2 3 rfl rfl zf_ist_3 (xc_110_1))
noncomputable def xm_110 : Lean.RArray (zE → zKn) := .branch 147 (.branch 30 (.branch 2 (.leaf xf_110_0) (.leaf xf_110_1)) (.branch 50 (.leaf xf_110_2) (.branch 66 (.leaf xf_110_3) (.leaf xf_110_4)))) (.branch 152 (.branch 151 (.leaf xf_110_5) (.leaf xf_110_6)) (.branch 159 (.leaf xf_110_7) (.branch 165 (.leaf xf_110_8) (.leaf xf_110_9))))
theorem xa_110 : zCdAll 110 [0, 2, 30, 50, 66, 147, 151, 152, 159, 165] xm_110 := zAll2_ok (P := fun t => ∃ c, zCd 110 [0, 2, 30, 50, 66, 147, 151, 152, 159, 165] t c ∧ xm_110.get t = zEx c) ⟨⟨_, xc_110_0, xe_110_0⟩, ⟨_, xc_110_1, xe_110_1⟩, ⟨_, xc_110_2, xe_110_2⟩, ⟨_, xc_110_3, xe_110_3⟩, ⟨_, xc_110_4, xe_110_4⟩, ⟨_, xc_110_5, xe_110_5⟩, ⟨_, xc_110_6, xe_110_6⟩, ⟨_, xc_110_7, xe_110_7⟩, ⟨_, xc_110_8, xe_110_8⟩, ⟨_, xc_110_9, xe_110_9⟩, trivial⟩
/-- SquareMesh$Ways.bringNearer -/
theorem xj_111 : ∀ pc, pI 111 pc = pJ_111 pc := fun _ => rfl
noncomputable def xb_111_2 : List zF := [zq_aldg zG0, zq_getfg 7 zG0, zq_ildg zG1, zq_aldg zG0, zq_getfg 7 zG0, zq_ildg zG2, zq_ild_ 0, zq_ildg zG3, zq_add, zq_iast, zq_k 1, zq_iret 1]
noncomputable def xf_111_2 : zE → zKn := fun E => zq_aldg zG0 (zq_getfg 7 zG0 (zq_ildg zG1 (zq_aldg zG0 (zq_getfg 7 zG0 (zq_ildg zG2 (zq_ild_ 0 (zq_ildg zG3 (zq_add (zq_iast (zq_k 1 (zq_iret 1 (zNil) E) E) E) E) E) E) E) E) E) E) E) E
theorem xe_111_2 : xf_111_2 = zEx xb_111_2 := by
  unfold xf_111_2 xb_111_2
  rfl
theorem xc_111_2 : zCd 111 [0, 37, 39] 39 xb_111_2 := zc_aload_n xj_111 40 0 rfl rfl zf_ald_0 (zc_getf xj_111 43 9 7 0 67 rfl rfl (zf_getf_0 _) (zc_iload_n xj_111 44 1 rfl rfl zf_ild_1 (zc_aload_n xj_111 45 0 rfl rfl zf_ald_0 (zc_getf xj_111 48 9 7 0 67 rfl rfl (zf_getf_0 _) (zc_iload_n xj_111 49 2 rfl rfl zf_ild_2 (zc_iaload xj_111 50 rfl rfl (zc_iload_n xj_111 51 3 rfl rfl zf_ild_3 (zc_iadd xj_111 52 rfl rfl (zc_iastore xj_111 53 rfl rfl (zc_iconst xj_111 54 1 1 rfl rfl rfl (zc_ireturn1 xj_111 55 rfl rfl (trivial))))))))))))
noncomputable def xb_111_1 : List zF := [zq_k 0, zq_iret 1]
noncomputable def xf_111_1 : zE → zKn := fun E => zq_k 0 (zq_iret 1 (zNil) E) E
theorem xe_111_1 : xf_111_1 = zEx xb_111_1 := by
  unfold xf_111_1 xb_111_1
  rfl
theorem xc_111_1 : zCd 111 [0, 37, 39] 37 xb_111_1 := zc_iconst xj_111 38 0 0 rfl rfl rfl (zc_ireturn1 xj_111 39 rfl rfl (trivial))
noncomputable def xb_111_0 : List zF := zq_aldg zG0 :: zq_getfg 7 zG0 :: zq_ildg zG2 :: zq_ild_ 0 :: zq_k 4294967295 :: zq_ic_eq 37 :: zq_aldg zG0 :: zq_getfg 7 zG0 :: zq_ildg zG1 :: zq_ild_ 0 :: zq_k 4294967295 :: zq_ic_eq 39 :: zq_aldg zG0 :: zq_getfg 7 zG0 :: zq_ildg zG1 :: zq_ild_ 0 :: zq_aldg zG0 :: zq_getfg 7 zG0 :: zq_ildg zG2 :: zq_ild_ 0 :: zq_ildg zG3 :: zq_add :: zq_ic_gt 39 :: xb_111_1
noncomputable def xf_111_0 : zE → zKn := fun E => zq_aldg zG0 (zq_getfg 7 zG0 (zq_ildg zG2 (zq_ild_ 0 (zq_k 4294967295 (zq_ic_eq 37 (zq_aldg zG0 (zq_getfg 7 zG0 (zq_ildg zG1 (zq_ild_ 0 (zq_k 4294967295 (zq_ic_eq 39 (zq_aldg zG0 (zq_getfg 7 zG0 (zq_ildg zG1 (zq_ild_ 0 (zq_aldg zG0 (zq_getfg 7 zG0 (zq_ildg zG2 (zq_ild_ 0 (zq_ildg zG3 (zq_add (zq_ic_gt 39 (xf_111_1 E) E) E) E) E) E) E) E) E) E) E) E) E) E) E) E) E) E) E) E) E) E) E) E
theorem xe_111_0 : xf_111_0 = zEx xb_111_0 := by
  unfold xf_111_0 xb_111_0
  rw [xe_111_1]
  rfl
theorem xc_111_0 : zCd 111 [0, 37, 39] 0 xb_111_0 := zc_aload_n xj_111 1 0 rfl rfl zf_ald_0 (zc_getf xj_111 4 9 7 0 67 rfl rfl (zf_getf_0 _) (zc_iload_n xj_111 5 2 rfl rfl zf_ild_2 (zc_iaload xj_111 6 rfl rfl (zc_iconst xj_111 7 (-1) 4294967295 rfl rfl rfl (zc_ic_eq xj_111 10 30 37 rfl rfl rfl (zc_aload_n xj_111 11 0 rfl rfl zf_ald_0 (zc_getf xj_111 14 9 7 0 67 rfl rfl (zf_getf_0 _) (zc_iload_n xj_111 15 1 rfl rfl zf_ild_1 (zc_iaload xj_111 16 rfl rfl (zc_iconst xj_111 17 (-1) 4294967295 rfl rfl rfl (zc_ic_eq xj_111 20 22 39 rfl rfl rfl (zc_aload_n xj_111 21 0 rfl rfl zf_ald_0 (zc_getf xj_111 24 9 7 0 67 rfl rfl (zf_getf_0 _) (zc_iload_n xj_111 25 1 rfl rfl zf_ild_1 (zc_iaload xj_111 26 rfl rfl (zc_aload_n xj_111 27 0 rfl rfl zf_ald_0 (zc_getf xj_111 30 9 7 0 67 rfl rfl (zf_getf_0 _) (zc_iload_n xj_111 31 2 rfl rfl zf_ild_2 (zc_iaload xj_111 32 rfl rfl (zc_iload_n xj_111 33 3 rfl rfl zf_ild_3 (zc_iadd xj_111 34 rfl rfl (zc_ic_gt xj_111 37 5 39 rfl rfl rfl (xc_111_1)))))))))))))))))))))))
noncomputable def xm_111 : Lean.RArray (zE → zKn) := .branch 37 (.leaf xf_111_0) (.branch 39 (.leaf xf_111_1) (.leaf xf_111_2))
theorem xa_111 : zCdAll 111 [0, 37, 39] xm_111 := zAll2_ok (P := fun t => ∃ c, zCd 111 [0, 37, 39] t c ∧ xm_111.get t = zEx c) ⟨⟨_, xc_111_0, xe_111_0⟩, ⟨_, xc_111_1, xe_111_1⟩, ⟨_, xc_111_2, xe_111_2⟩, trivial⟩
/-- SquareMesh$Ways.follow -/
theorem xj_112 : ∀ pc, pI 112 pc = pJ_112 pc := fun _ => rfl
noncomputable def xb_112_4 : List zF := [zq_ildg zG5, zq_iret 0]
noncomputable def xf_112_4 : zE → zKn := fun E => zq_ildg zG5 (zq_iret 0 (zNil) E) E
theorem xe_112_4 : xf_112_4 = zEx xb_112_4 := by
  unfold xf_112_4 xb_112_4
  rfl
theorem xc_112_4 : zCd 112 [0, 10, 12, 18, 47] 47 xb_112_4 := zc_iload xj_112 49 5 rfl rfl zf_ild_5 (zc_ireturn0 xj_112 50 rfl rfl (trivial))
noncomputable def xb_112_3 : List zF := [zq_ildg zG6, zq_ildg zG3, zq_ic_ge 47, zq_ildg zG5, zq_k 4294967295, zq_ic_eq 47, zq_aldg zG0, zq_aldg zG1, zq_ildg zG5, zq_ildg zG4, zq_calli 113 3 7 6, zq_istg zE5, zq_incg zG6 zE6 1, zq_goto 18]
noncomputable def xf_112_3 : zE → zKn := fun E => zq_ildg zG6 (zq_ildg zG3 (zq_ic_ge 47 (zq_ildg zG5 (zq_k 4294967295 (zq_ic_eq 47 (zq_aldg zG0 (zq_aldg zG1 (zq_ildg zG5 (zq_ildg zG4 (zq_calli 113 3 7 6 (zq_istg zE5 (zq_incg zG6 zE6 1 (zq_goto 18 (zNil) E) E) E) E) E) E) E) E) E) E) E) E) E) E
theorem xe_112_3 : xf_112_3 = zEx xb_112_3 := by
  unfold xf_112_3 xb_112_3
  rfl
theorem xc_112_3 : zCd 112 [0, 10, 12, 18, 47] 18 xb_112_3 := zc_iload xj_112 20 6 rfl rfl zf_ild_6 (zc_iload_n xj_112 21 3 rfl rfl zf_ild_3 (zc_ic_ge xj_112 24 26 47 rfl rfl rfl (zc_iload xj_112 26 5 rfl rfl zf_ild_5 (zc_iconst xj_112 27 (-1) 4294967295 rfl rfl rfl (zc_ic_eq xj_112 30 20 47 rfl rfl rfl (zc_aload_n xj_112 31 0 rfl rfl zf_ald_0 (zc_aload_n xj_112 32 1 rfl rfl zf_ald_1 (zc_iload xj_112 34 5 rfl rfl zf_ild_5 (zc_iload xj_112 36 4 rfl rfl zf_ild_4 (zc_invokevirtual1 xj_112 39 54 113 3 212 7 6 rfl rfl rfl rfl (zc_istore xj_112 41 5 rfl rfl zf_ist_5 (zc_iinc xj_112 44 6 1 1 rfl rfl rfl (zf_inc_6 _) (zc_goto xj_112 45 (-26) 18 rfl rfl rfl (trivial))))))))))))))
noncomputable def xb_112_2 : List zF := zq_ildg zG2 :: zq_istg zE5 :: zq_k 0 :: zq_istg zE6 :: xb_112_3
noncomputable def xf_112_2 : zE → zKn := fun E => zq_ildg zG2 (zq_istg zE5 (zq_k 0 (zq_istg zE6 (xf_112_3 E) E) E) E) E
theorem xe_112_2 : xf_112_2 = zEx xb_112_2 := by
  unfold xf_112_2 xb_112_2
  rw [xe_112_3]
  rfl
theorem xc_112_2 : zCd 112 [0, 10, 12, 18, 47] 12 xb_112_2 := zc_iload_n xj_112 13 2 rfl rfl zf_ild_2 (zc_istore xj_112 15 5 rfl rfl zf_ist_5 (zc_iconst xj_112 16 0 0 rfl rfl rfl (zc_istore xj_112 18 6 rfl rfl zf_ist_6 (xc_112_3))))
noncomputable def xb_112_1 : List zF := [zq_k 4294967295, zq_iret 0]
noncomputable def xf_112_1 : zE → zKn := fun E => zq_k 4294967295 (zq_iret 0 (zNil) E) E
theorem xe_112_1 : xf_112_1 = zEx xb_112_1 := by
  unfold xf_112_1 xb_112_1
  rfl
theorem xc_112_1 : zCd 112 [0, 10, 12, 18, 47] 10 xb_112_1 := zc_iconst xj_112 11 (-1) 4294967295 rfl rfl rfl (zc_ireturn0 xj_112 12 rfl rfl (trivial))
noncomputable def xb_112_0 : List zF := zq_ildg zG3 :: zq_if_lt 10 :: zq_ildg zG3 :: zq_k 40 :: zq_ic_lt 12 :: xb_112_1
noncomputable def xf_112_0 : zE → zKn := fun E => zq_ildg zG3 (zq_if_lt 10 (zq_ildg zG3 (zq_k 40 (zq_ic_lt 12 (xf_112_1 E) E) E) E) E) E
theorem xe_112_0 : xf_112_0 = zEx xb_112_0 := by
  unfold xf_112_0 xb_112_0
  rw [xe_112_1]
  rfl
theorem xc_112_0 : zCd 112 [0, 10, 12, 18, 47] 0 xb_112_0 := zc_iload_n xj_112 1 3 rfl rfl zf_ild_3 (zc_if_lt xj_112 4 9 10 rfl rfl rfl (zc_iload_n xj_112 5 3 rfl rfl zf_ild_3 (zc_bipush xj_112 7 40 40 rfl rfl rfl (zc_ic_lt xj_112 10 5 12 rfl rfl rfl (xc_112_1)))))
noncomputable def xm_112 : Lean.RArray (zE → zKn) := .branch 12 (.branch 10 (.leaf xf_112_0) (.leaf xf_112_1)) (.branch 18 (.leaf xf_112_2) (.branch 47 (.leaf xf_112_3) (.leaf xf_112_4)))
theorem xa_112 : zCdAll 112 [0, 10, 12, 18, 47] xm_112 := zAll2_ok (P := fun t => ∃ c, zCd 112 [0, 10, 12, 18, 47] t c ∧ xm_112.get t = zEx c) ⟨⟨_, xc_112_0, xe_112_0⟩, ⟨_, xc_112_1, xe_112_1⟩, ⟨_, xc_112_2, xe_112_2⟩, ⟨_, xc_112_3, xe_112_3⟩, ⟨_, xc_112_4, xe_112_4⟩, trivial⟩
/-- SquareMesh$Ways.nextOn -/
theorem xj_113 : ∀ pc, pI 113 pc = pJ_113 pc := fun _ => rfl
noncomputable def xb_113_5 : List zF := [zq_k 4294967295, zq_iret 0]
noncomputable def xf_113_5 : zE → zKn := fun E => zq_k 4294967295 (zq_iret 0 (zNil) E) E
theorem xe_113_5 : xf_113_5 = zEx xb_113_5 := by
  unfold xf_113_5 xb_113_5
  rfl
theorem xc_113_5 : zCd 113 [0, 3, 28, 41, 65, 71] 71 xb_113_5 := zc_iconst xj_113 72 (-1) 4294967295 rfl rfl rfl (zc_ireturn0 xj_113 73 rfl rfl (trivial))
noncomputable def xb_113_4 : List zF := [zq_incg zG4 zE4 1, zq_goto 3]
noncomputable def xf_113_4 : zE → zKn := fun E => zq_incg zG4 zE4 1 (zq_goto 3 (zNil) E) E
theorem xe_113_4 : xf_113_4 = zEx xb_113_4 := by
  unfold xf_113_4 xb_113_4
  rfl
theorem xc_113_4 : zCd 113 [0, 3, 28, 41, 65, 71] 65 xb_113_4 := zc_iinc xj_113 68 4 1 1 rfl rfl rfl (zf_inc_4 _) (zc_goto xj_113 69 (-65) 3 rfl rfl rfl (trivial))
noncomputable def xb_113_3 : List zF := [zq_istg zE5, zq_aldg zG0, zq_getfg 7 zG0, zq_ildg zG4, zq_ild_ 0, zq_ildg zG5, zq_add, zq_aldg zG0, zq_getfg 7 zG0, zq_ildg zG2, zq_ild_ 0, zq_ic_ne 65, zq_ildg zG4, zq_iret 0]
noncomputable def xf_113_3 : zE → zKn := fun E => zq_istg zE5 (zq_aldg zG0 (zq_getfg 7 zG0 (zq_ildg zG4 (zq_ild_ 0 (zq_ildg zG5 (zq_add (zq_aldg zG0 (zq_getfg 7 zG0 (zq_ildg zG2 (zq_ild_ 0 (zq_ic_ne 65 (zq_ildg zG4 (zq_iret 0 (zNil) E) E) E) E) E) E) E) E) E) E) E) E) E) E
theorem xe_113_3 : xf_113_3 = zEx xb_113_3 := by
  unfold xf_113_3 xb_113_3
  rfl
theorem xc_113_3 : zCd 113 [0, 3, 28, 41, 65, 71] 41 xb_113_3 := zc_istore xj_113 43 5 rfl rfl zf_ist_5 (zc_aload_n xj_113 44 0 rfl rfl zf_ald_0 (zc_getf xj_113 47 9 7 0 67 rfl rfl (zf_getf_0 _) (zc_iload xj_113 49 4 rfl rfl zf_ild_4 (zc_iaload xj_113 50 rfl rfl (zc_iload xj_113 52 5 rfl rfl zf_ild_5 (zc_iadd xj_113 53 rfl rfl (zc_aload_n xj_113 54 0 rfl rfl zf_ald_0 (zc_getf xj_113 57 9 7 0 67 rfl rfl (zf_getf_0 _) (zc_iload_n xj_113 58 2 rfl rfl zf_ild_2 (zc_iaload xj_113 59 rfl rfl (zc_ic_ne xj_113 62 6 65 rfl rfl rfl (zc_iload xj_113 64 4 rfl rfl zf_ild_4 (zc_ireturn0 xj_113 65 rfl rfl (trivial))))))))))))))
noncomputable def xb_113_2 : List zF := zq_aldg zG1 :: zq_getfg 1 zG0 :: zq_ildg zG2 :: zq_ildg zG4 :: zq_calli 97 2 5 5 :: zq_calls 185 1 5 :: xb_113_3
noncomputable def xf_113_2 : zE → zKn := fun E => zq_aldg zG1 (zq_getfg 1 zG0 (zq_ildg zG2 (zq_ildg zG4 (zq_calli 97 2 5 5 (zq_calls 185 1 5 (xf_113_3 E) E) E) E) E) E) E
theorem xe_113_2 : xf_113_2 = zEx xb_113_2 := by
  unfold xf_113_2 xb_113_2
  rw [xe_113_3]
  rfl
theorem xc_113_2 : zCd 113 [0, 3, 28, 41, 65, 71] 28 xb_113_2 := zc_aload_n xj_113 29 1 rfl rfl zf_ald_1 (zc_getf xj_113 32 62 1 0 28 rfl rfl (zf_getf_0 _) (zc_iload_n xj_113 33 2 rfl rfl zf_ild_2 (zc_iload xj_113 35 4 rfl rfl zf_ild_4 (zc_invokevirtual1 xj_113 38 66 97 2 214 5 5 rfl rfl rfl rfl (zc_invokestatic4 xj_113 41 44 185 1 215 0 5 rfl rfl rfl rfl (xc_113_3))))))
noncomputable def xb_113_1 : List zF := [zq_ildg zG4, zq_k 40, zq_ic_ge 71, zq_aldg zG1, zq_ildg zG2, zq_ildg zG4, zq_calli 36 2 1 3, zq_if_eq 65, zq_ildg zG3, zq_if_eq 28, zq_k 1, zq_goto 41]
noncomputable def xf_113_1 : zE → zKn := fun E => zq_ildg zG4 (zq_k 40 (zq_ic_ge 71 (zq_aldg zG1 (zq_ildg zG2 (zq_ildg zG4 (zq_calli 36 2 1 3 (zq_if_eq 65 (zq_ildg zG3 (zq_if_eq 28 (zq_k 1 (zq_goto 41 (zNil) E) E) E) E) E) E) E) E) E) E) E) E
theorem xe_113_1 : xf_113_1 = zEx xb_113_1 := by
  unfold xf_113_1 xb_113_1
  rfl
theorem xc_113_1 : zCd 113 [0, 3, 28, 41, 65, 71] 3 xb_113_1 := zc_iload xj_113 5 4 rfl rfl zf_ild_4 (zc_bipush xj_113 7 40 40 rfl rfl rfl (zc_ic_ge xj_113 10 64 71 rfl rfl rfl (zc_aload_n xj_113 11 1 rfl rfl zf_ald_1 (zc_iload_n xj_113 12 2 rfl rfl zf_ild_2 (zc_iload xj_113 14 4 rfl rfl zf_ild_4 (zc_invokevirtual1 xj_113 17 58 36 2 213 1 3 rfl rfl rfl rfl (zc_if_eq xj_113 20 48 65 rfl rfl rfl (zc_iload_n xj_113 21 3 rfl rfl zf_ild_3 (zc_if_eq xj_113 24 7 28 rfl rfl rfl (zc_iconst xj_113 25 1 1 rfl rfl rfl (zc_goto xj_113 26 16 41 rfl rfl rfl (trivial))))))))))))
noncomputable def xb_113_0 : List zF := zq_k 0 :: zq_istg zE4 :: xb_113_1
noncomputable def xf_113_0 : zE → zKn := fun E => zq_k 0 (zq_istg zE4 (xf_113_1 E) E) E
theorem xe_113_0 : xf_113_0 = zEx xb_113_0 := by
  unfold xf_113_0 xb_113_0
  rw [xe_113_1]
  rfl
theorem xc_113_0 : zCd 113 [0, 3, 28, 41, 65, 71] 0 xb_113_0 := zc_iconst xj_113 1 0 0 rfl rfl rfl (zc_istore xj_113 3 4 rfl rfl zf_ist_4 (xc_113_1))
noncomputable def xm_113 : Lean.RArray (zE → zKn) := .branch 41 (.branch 3 (.leaf xf_113_0) (.branch 28 (.leaf xf_113_1) (.leaf xf_113_2))) (.branch 65 (.leaf xf_113_3) (.branch 71 (.leaf xf_113_4) (.leaf xf_113_5)))
theorem xa_113 : zCdAll 113 [0, 3, 28, 41, 65, 71] xm_113 := zAll2_ok (P := fun t => ∃ c, zCd 113 [0, 3, 28, 41, 65, 71] t c ∧ xm_113.get t = zEx c) ⟨⟨_, xc_113_0, xe_113_0⟩, ⟨_, xc_113_1, xe_113_1⟩, ⟨_, xc_113_2, xe_113_2⟩, ⟨_, xc_113_3, xe_113_3⟩, ⟨_, xc_113_4, xe_113_4⟩, ⟨_, xc_113_5, xe_113_5⟩, trivial⟩
/-- SquareMesh.<init> -/
theorem xj_114 : ∀ pc, pI 114 pc = pJ_114 pc := fun _ => rfl
noncomputable def xb_114_0 : List zF := [zq_aldg zG0, zq_call0, zq_aldg zG0, zq_newo 1 [zVd, zVd, zVd, zVd, zVd, zVd, zVd, .inl 0, .inl 0, zVd, zVd, zVd, .inl 0], zq_dup, zq_calli 4 0 1 1, zq_putf 8 0 2, zq_aldg zG0, zq_newo 1 [zVd, zVd, zVd, zVd, zVd, zVd, zVd, .inl 0, .inl 0, zVd, zVd, zVd, .inl 0], zq_dup, zq_calli 4 0 1 1, zq_putf 8 1 2, zq_aldg zG0, zq_newo 3 [zVd, zVd, .inl 0], zq_dup, zq_calli 63 0 3 1, zq_putf 8 2 2, zq_aldg zG0, zq_newo 3 [zVd, zVd, .inl 0], zq_dup, zq_calli 63 0 3 1, zq_putf 8 3 2, zq_aldg zG0, zq_newo 4 [zVd, zVd, .inl 0, zVd], zq_dup, zq_calli 71 0 4 1, zq_putf 8 4 2, zq_aldg zG0, zq_newo 7 [zVd, zVd], zq_dup, zq_calli 106 0 7 1, zq_putf 8 5 2, zq_aldg zG0, zq_newo 2 [zVd, .inl 0, zVd], zq_dup, zq_calli 57 0 2 1, zq_putf 8 6 2, zq_aldg zG0, zq_newo 6 [zVd, .inl 0, zVd], zq_dup, zq_calli 102 0 6 1, zq_putf 8 7 2, zq_aldg zG0, zq_newo 0 [zVd, .inl 0], zq_dup, zq_calli 0 0 0 1, zq_putf 8 8 2, zq_aldg zG0, zq_k 40, zq_newa 0, zq_putf 8 9 2, zq_aldg zG0, zq_getfg 8 zG0, zq_calli 5 0 1 2, zq_aldg zG0, zq_getfg 8 zG3, zq_aldg zG0, zq_getfg 8 zG0, zq_calli 67 1 3 3, zq_vret]
noncomputable def xf_114_0 : zE → zKn := fun E => zq_aldg zG0 (zq_call0 (zq_aldg zG0 (zq_newo 1 [zVd, zVd, zVd, zVd, zVd, zVd, zVd, .inl 0, .inl 0, zVd, zVd, zVd, .inl 0] (zq_dup (zq_calli 4 0 1 1 (zq_putf 8 0 2 (zq_aldg zG0 (zq_newo 1 [zVd, zVd, zVd, zVd, zVd, zVd, zVd, .inl 0, .inl 0, zVd, zVd, zVd, .inl 0] (zq_dup (zq_calli 4 0 1 1 (zq_putf 8 1 2 (zq_aldg zG0 (zq_newo 3 [zVd, zVd, .inl 0] (zq_dup (zq_calli 63 0 3 1 (zq_putf 8 2 2 (zq_aldg zG0 (zq_newo 3 [zVd, zVd, .inl 0] (zq_dup (zq_calli 63 0 3 1 (zq_putf 8 3 2 (zq_aldg zG0 (zq_newo 4 [zVd, zVd, .inl 0, zVd] (zq_dup (zq_calli 71 0 4 1 (zq_putf 8 4 2 (zq_aldg zG0 (zq_newo 7 [zVd, zVd] (zq_dup (zq_calli 106 0 7 1 (zq_putf 8 5 2 (zq_aldg zG0 (zq_newo 2 [zVd, .inl 0, zVd] (zq_dup (zq_calli 57 0 2 1 (zq_putf 8 6 2 (zq_aldg zG0 (zq_newo 6 [zVd, .inl 0, zVd] (zq_dup (zq_calli 102 0 6 1 (zq_putf 8 7 2 (zq_aldg zG0 (zq_newo 0 [zVd, .inl 0] (zq_dup (zq_calli 0 0 0 1 (zq_putf 8 8 2 (zq_aldg zG0 (zq_k 40 (zq_newa 0 (zq_putf 8 9 2 (zq_aldg zG0 (zq_getfg 8 zG0 (zq_calli 5 0 1 2 (zq_aldg zG0 (zq_getfg 8 zG3 (zq_aldg zG0 (zq_getfg 8 zG0 (zq_calli 67 1 3 3 (zq_vret (zNil) E) E) E) E) E) E) E) E) E) E) E) E) E) E) E) E) E) E) E) E) E) E) E) E) E) E) E) E) E) E) E) E) E) E) E) E) E) E) E) E) E) E) E) E) E) E) E) E) E) E) E) E) E) E) E) E) E) E) E) E
set_option maxRecDepth 100000 in
theorem xe_114_0 : xf_114_0 = zEx xb_114_0 := by
  unfold xf_114_0 xb_114_0
  rfl
theorem xc_114_0 : zCd 114 [0] 0 xb_114_0 := zc_aload_n xj_114 1 0 rfl rfl zf_ald_0 (zc_invokespecial0 xj_114 4 3 0 0 1 0 0 rfl rfl (zc_aload_n xj_114 5 0 rfl rfl zf_ald_0 (zc_any xj_114 8 (.new 9) [1, 13, 1] rfl rfl (zq_newo 1 [zVd, zVd, zVd, zVd, zVd, zVd, zVd, .inl 0, .inl 0, zVd, zVd, zVd, .inl 0]) rfl rfl (zc_dup xj_114 9 rfl rfl (zc_invokespecial5 xj_114 12 11 4 0 2 1 1 rfl rfl rfl (zc_putf xj_114 15 12 8 0 84 2 rfl rfl rfl (zc_aload_n xj_114 16 0 rfl rfl zf_ald_0 (zc_any xj_114 19 (.new 9) [1, 13, 1] rfl rfl (zq_newo 1 [zVd, zVd, zVd, zVd, zVd, zVd, zVd, .inl 0, .inl 0, zVd, zVd, zVd, .inl 0]) rfl rfl (zc_dup xj_114 20 rfl rfl (zc_invokespecial5 xj_114 23 11 4 0 2 1 1 rfl rfl rfl (zc_putf xj_114 26 16 8 1 85 2 rfl rfl rfl (zc_aload_n xj_114 27 0 rfl rfl zf_ald_0 (zc_any xj_114 30 (.new 19) [3, 3, 3] rfl rfl (zq_newo 3 [zVd, zVd, .inl 0]) rfl rfl (zc_dup xj_114 31 rfl rfl (zc_invokespecial5 xj_114 34 21 63 0 6 3 1 rfl rfl rfl (zc_putf xj_114 37 22 8 2 86 2 rfl rfl rfl (zc_aload_n xj_114 38 0 rfl rfl zf_ald_0 (zc_any xj_114 41 (.new 19) [3, 3, 3] rfl rfl (zq_newo 3 [zVd, zVd, .inl 0]) rfl rfl (zc_dup xj_114 42 rfl rfl (zc_invokespecial5 xj_114 45 21 63 0 6 3 1 rfl rfl rfl (zc_putf xj_114 48 26 8 3 87 2 rfl rfl rfl (zc_aload_n xj_114 49 0 rfl rfl zf_ald_0 (zc_any xj_114 52 (.new 29) [4, 4, 4] rfl rfl (zq_newo 4 [zVd, zVd, .inl 0, zVd]) rfl rfl (zc_dup xj_114 53 rfl rfl (zc_invokespecial5 xj_114 56 31 71 0 8 4 1 rfl rfl rfl (zc_putf xj_114 59 32 8 4 88 2 rfl rfl rfl (zc_aload_n xj_114 60 0 rfl rfl zf_ald_0 (zc_any xj_114 63 (.new 36) [7, 2, 5] rfl rfl (zq_newo 7 [zVd, zVd]) rfl rfl (zc_dup xj_114 64 rfl rfl (zc_invokespecial5 xj_114 67 38 106 0 10 7 1 rfl rfl rfl (zc_putf xj_114 70 39 8 5 89 2 rfl rfl rfl (zc_aload_n xj_114 71 0 rfl rfl zf_ald_0 (zc_any xj_114 74 (.new 43) [2, 3, 6] rfl rfl (zq_newo 2 [zVd, .inl 0, zVd]) rfl rfl (zc_dup xj_114 75 rfl rfl (zc_invokespecial5 xj_114 78 45 57 0 12 2 1 rfl rfl rfl (zc_putf xj_114 81 46 8 6 90 2 rfl rfl rfl (zc_aload_n xj_114 82 0 rfl rfl zf_ald_0 (zc_any xj_114 85 (.new 50) [6, 3, 7] rfl rfl (zq_newo 6 [zVd, .inl 0, zVd]) rfl rfl (zc_dup xj_114 86 rfl rfl (zc_invokespecial5 xj_114 89 52 102 0 14 6 1 rfl rfl rfl (zc_putf xj_114 92 53 8 7 91 2 rfl rfl rfl (zc_aload_n xj_114 93 0 rfl rfl zf_ald_0 (zc_any xj_114 96 (.new 57) [0, 2, 8] rfl rfl (zq_newo 0 [zVd, .inl 0]) rfl rfl (zc_dup xj_114 97 rfl rfl (zc_invokespecial5 xj_114 100 59 0 0 16 0 1 rfl rfl rfl (zc_putf xj_114 103 60 8 8 92 2 rfl rfl rfl (zc_aload_n xj_114 104 0 rfl rfl zf_ald_0 (zc_bipush xj_114 106 40 40 rfl rfl rfl (zc_any xj_114 108 (.newarray .int) [0] rfl rfl (zq_newa 0) rfl rfl (zc_putf xj_114 111 64 8 9 93 2 rfl rfl rfl (zc_aload_n xj_114 112 0 rfl rfl zf_ald_0 (zc_getf xj_114 115 12 8 0 84 rfl rfl (zf_getf_0 _) (zc_invokevirtual1 xj_114 118 68 5 0 18 1 2 rfl rfl rfl rfl (zc_aload_n xj_114 119 0 rfl rfl zf_ald_0 (zc_getf xj_114 122 26 8 3 87 rfl rfl (zf_getf_3 _) (zc_aload_n xj_114 123 0 rfl rfl zf_ald_0 (zc_getf xj_114 126 12 8 0 84 rfl rfl (zf_getf_0 _) (zc_invokevirtual1 xj_114 129 71 67 1 29 3 3 rfl rfl rfl rfl (zc_return_ xj_114 130 rfl rfl (trivial))))))))))))))))))))))))))))))))))))))))))))))))))))))))))))
noncomputable def xm_114 : Lean.RArray (zE → zKn) := .leaf xf_114_0
theorem xa_114 : zCdAll 114 [0] xm_114 := zAll2_ok (P := fun t => ∃ c, zCd 114 [0] t c ∧ xm_114.get t = zEx c) ⟨⟨_, xc_114_0, xe_114_0⟩, trivial⟩
/-- SquareMesh.point -/
theorem xj_115 : ∀ pc, pI 115 pc = pJ_115 pc := fun _ => rfl
noncomputable def xb_115_1 : List zF := [zq_aldg zG0, zq_getfg 8 zG2, zq_aldg zG0, zq_getfg 8 zG0, zq_calli 64 1 3 2, zq_aldg zG0, zq_getfg 8 zG0, zq_ildg zG1, zq_ildg zG2, zq_calli 8 2 1 4, zq_iret 0]
noncomputable def xf_115_1 : zE → zKn := fun E => zq_aldg zG0 (zq_getfg 8 zG2 (zq_aldg zG0 (zq_getfg 8 zG0 (zq_calli 64 1 3 2 (zq_aldg zG0 (zq_getfg 8 zG0 (zq_ildg zG1 (zq_ildg zG2 (zq_calli 8 2 1 4 (zq_iret 0 (zNil) E) E) E) E) E) E) E) E) E) E) E
theorem xe_115_1 : xf_115_1 = zEx xb_115_1 := by
  unfold xf_115_1 xb_115_1
  rfl
theorem xc_115_1 : zCd 115 [0, 17] 17 xb_115_1 := zc_aload_n xj_115 18 0 rfl rfl zf_ald_0 (zc_getf xj_115 21 22 8 2 86 rfl rfl (zf_getf_2 _) (zc_aload_n xj_115 22 0 rfl rfl zf_ald_0 (zc_getf xj_115 25 12 8 0 84 rfl rfl (zf_getf_0 _) (zc_invokevirtual1 xj_115 28 85 64 1 39 3 2 rfl rfl rfl rfl (zc_aload_n xj_115 29 0 rfl rfl zf_ald_0 (zc_getf xj_115 32 12 8 0 84 rfl rfl (zf_getf_0 _) (zc_iload_n xj_115 33 1 rfl rfl zf_ild_1 (zc_iload_n xj_115 34 2 rfl rfl zf_ild_2 (zc_invokevirtual1 xj_115 37 88 8 2 42 1 4 rfl rfl rfl rfl (zc_ireturn0 xj_115 38 rfl rfl (trivial)))))))))))
noncomputable def xb_115_0 : List zF := [zq_aldg zG0, zq_getfg 8 zG0, zq_getfg 1 zG0, zq_ildg zG1, zq_ildg zG2, zq_calli 88 2 5 3, zq_if_ne 17, zq_k 4294967295, zq_iret 0]
noncomputable def xf_115_0 : zE → zKn := fun E => zq_aldg zG0 (zq_getfg 8 zG0 (zq_getfg 1 zG0 (zq_ildg zG1 (zq_ildg zG2 (zq_calli 88 2 5 3 (zq_if_ne 17 (zq_k 4294967295 (zq_iret 0 (zNil) E) E) E) E) E) E) E) E) E
theorem xe_115_0 : xf_115_0 = zEx xb_115_0 := by
  unfold xf_115_0 xb_115_0
  rfl
theorem xc_115_0 : zCd 115 [0, 17] 0 xb_115_0 := zc_aload_n xj_115 1 0 rfl rfl zf_ald_0 (zc_getf xj_115 4 12 8 0 84 rfl rfl (zf_getf_0 _) (zc_getf xj_115 7 75 1 0 25 rfl rfl (zf_getf_0 _) (zc_iload_n xj_115 8 1 rfl rfl zf_ild_1 (zc_iload_n xj_115 9 2 rfl rfl zf_ild_2 (zc_invokevirtual1 xj_115 12 79 88 2 34 5 3 rfl rfl rfl rfl (zc_if_ne xj_115 15 5 17 rfl rfl rfl (zc_iconst xj_115 16 (-1) 4294967295 rfl rfl rfl (zc_ireturn0 xj_115 17 rfl rfl (trivial)))))))))
noncomputable def xm_115 : Lean.RArray (zE → zKn) := .branch 17 (.leaf xf_115_0) (.leaf xf_115_1)
theorem xa_115 : zCdAll 115 [0, 17] xm_115 := zAll2_ok (P := fun t => ∃ c, zCd 115 [0, 17] t c ∧ xm_115.get t = zEx c) ⟨⟨_, xc_115_0, xe_115_0⟩, ⟨_, xc_115_1, xe_115_1⟩, trivial⟩
/-- SquareMesh.drop -/
theorem xj_116 : ∀ pc, pI 116 pc = pJ_116 pc := fun _ => rfl
noncomputable def xb_116_1 : List zF := [zq_aldg zG0, zq_getfg 8 zG2, zq_aldg zG0, zq_getfg 8 zG0, zq_calli 64 1 3 2, zq_aldg zG0, zq_getfg 8 zG0, zq_ildg zG1, zq_calli 11 1 1 4, zq_k 1, zq_iret 1]
noncomputable def xf_116_1 : zE → zKn := fun E => zq_aldg zG0 (zq_getfg 8 zG2 (zq_aldg zG0 (zq_getfg 8 zG0 (zq_calli 64 1 3 2 (zq_aldg zG0 (zq_getfg 8 zG0 (zq_ildg zG1 (zq_calli 11 1 1 4 (zq_k 1 (zq_iret 1 (zNil) E) E) E) E) E) E) E) E) E) E) E
theorem xe_116_1 : xf_116_1 = zEx xb_116_1 := by
  unfold xf_116_1 xb_116_1
  rfl
theorem xc_116_1 : zCd 116 [0, 16] 16 xb_116_1 := zc_aload_n xj_116 17 0 rfl rfl zf_ald_0 (zc_getf xj_116 20 22 8 2 86 rfl rfl (zf_getf_2 _) (zc_aload_n xj_116 21 0 rfl rfl zf_ald_0 (zc_getf xj_116 24 12 8 0 84 rfl rfl (zf_getf_0 _) (zc_invokevirtual1 xj_116 27 85 64 1 39 3 2 rfl rfl rfl rfl (zc_aload_n xj_116 28 0 rfl rfl zf_ald_0 (zc_getf xj_116 31 12 8 0 84 rfl rfl (zf_getf_0 _) (zc_iload_n xj_116 32 1 rfl rfl zf_ild_1 (zc_invokevirtual1 xj_116 35 96 11 1 68 1 4 rfl rfl rfl rfl (zc_iconst xj_116 36 1 1 rfl rfl rfl (zc_ireturn1 xj_116 37 rfl rfl (trivial)))))))))))
noncomputable def xb_116_0 : List zF := [zq_aldg zG0, zq_getfg 8 zG0, zq_getfg 1 zG0, zq_ildg zG1, zq_calli 89 1 5 2, zq_if_ne 16, zq_k 0, zq_iret 1]
noncomputable def xf_116_0 : zE → zKn := fun E => zq_aldg zG0 (zq_getfg 8 zG0 (zq_getfg 1 zG0 (zq_ildg zG1 (zq_calli 89 1 5 2 (zq_if_ne 16 (zq_k 0 (zq_iret 1 (zNil) E) E) E) E) E) E) E) E
theorem xe_116_0 : xf_116_0 = zEx xb_116_0 := by
  unfold xf_116_0 xb_116_0
  rfl
theorem xc_116_0 : zCd 116 [0, 16] 0 xb_116_0 := zc_aload_n xj_116 1 0 rfl rfl zf_ald_0 (zc_getf xj_116 4 12 8 0 84 rfl rfl (zf_getf_0 _) (zc_getf xj_116 7 75 1 0 25 rfl rfl (zf_getf_0 _) (zc_iload_n xj_116 8 1 rfl rfl zf_ild_1 (zc_invokevirtual1 xj_116 11 92 89 1 67 5 2 rfl rfl rfl rfl (zc_if_ne xj_116 14 5 16 rfl rfl rfl (zc_iconst xj_116 15 0 0 rfl rfl rfl (zc_ireturn1 xj_116 16 rfl rfl (trivial))))))))
noncomputable def xm_116 : Lean.RArray (zE → zKn) := .branch 16 (.leaf xf_116_0) (.leaf xf_116_1)
theorem xa_116 : zCdAll 116 [0, 16] xm_116 := zAll2_ok (P := fun t => ∃ c, zCd 116 [0, 16] t c ∧ xm_116.get t = zEx c) ⟨⟨_, xc_116_0, xe_116_0⟩, ⟨_, xc_116_1, xe_116_1⟩, trivial⟩
/-- SquareMesh.move -/
theorem xj_117 : ∀ pc, pI 117 pc = pJ_117 pc := fun _ => rfl
noncomputable def xb_117_2 : List zF := [zq_aldg zG0, zq_getfg 8 zG2, zq_aldg zG0, zq_getfg 8 zG0, zq_calli 64 1 3 2, zq_aldg zG0, zq_getfg 8 zG0, zq_ildg zG1, zq_calli 11 1 1 4, zq_aldg zG0, zq_getfg 8 zG0, zq_ildg zG1, zq_ildg zG2, zq_ildg zG3, zq_calli 9 3 1 8, zq_k 1, zq_iret 1]
noncomputable def xf_117_2 : zE → zKn := fun E => zq_aldg zG0 (zq_getfg 8 zG2 (zq_aldg zG0 (zq_getfg 8 zG0 (zq_calli 64 1 3 2 (zq_aldg zG0 (zq_getfg 8 zG0 (zq_ildg zG1 (zq_calli 11 1 1 4 (zq_aldg zG0 (zq_getfg 8 zG0 (zq_ildg zG1 (zq_ildg zG2 (zq_ildg zG3 (zq_calli 9 3 1 8 (zq_k 1 (zq_iret 1 (zNil) E) E) E) E) E) E) E) E) E) E) E) E) E) E) E) E) E
theorem xe_117_2 : xf_117_2 = zEx xb_117_2 := by
  unfold xf_117_2 xb_117_2
  rfl
theorem xc_117_2 : zCd 117 [0, 38, 40] 40 xb_117_2 := zc_aload_n xj_117 41 0 rfl rfl zf_ald_0 (zc_getf xj_117 44 22 8 2 86 rfl rfl (zf_getf_2 _) (zc_aload_n xj_117 45 0 rfl rfl zf_ald_0 (zc_getf xj_117 48 12 8 0 84 rfl rfl (zf_getf_0 _) (zc_invokevirtual1 xj_117 51 85 64 1 39 3 2 rfl rfl rfl rfl (zc_aload_n xj_117 52 0 rfl rfl zf_ald_0 (zc_getf xj_117 55 12 8 0 84 rfl rfl (zf_getf_0 _) (zc_iload_n xj_117 56 1 rfl rfl zf_ild_1 (zc_invokevirtual1 xj_117 59 96 11 1 68 1 4 rfl rfl rfl rfl (zc_aload_n xj_117 60 0 rfl rfl zf_ald_0 (zc_getf xj_117 63 12 8 0 84 rfl rfl (zf_getf_0 _) (zc_iload_n xj_117 64 1 rfl rfl zf_ild_1 (zc_iload_n xj_117 65 2 rfl rfl zf_ild_2 (zc_iload_n xj_117 66 3 rfl rfl zf_ild_3 (zc_invokevirtual1 xj_117 69 106 9 3 78 1 8 rfl rfl rfl rfl (zc_iconst xj_117 70 1 1 rfl rfl rfl (zc_ireturn1 xj_117 71 rfl rfl (trivial)))))))))))))))))
noncomputable def xb_117_1 : List zF := [zq_k 0, zq_iret 1]
noncomputable def xf_117_1 : zE → zKn := fun E => zq_k 0 (zq_iret 1 (zNil) E) E
theorem xe_117_1 : xf_117_1 = zEx xb_117_1 := by
  unfold xf_117_1 xb_117_1
  rfl
theorem xc_117_1 : zCd 117 [0, 38, 40] 38 xb_117_1 := zc_iconst xj_117 39 0 0 rfl rfl rfl (zc_ireturn1 xj_117 40 rfl rfl (trivial))
noncomputable def xb_117_0 : List zF := zq_aldg zG0 :: zq_getfg 8 zG0 :: zq_getfg 1 zG0 :: zq_ildg zG1 :: zq_calli 89 1 5 2 :: zq_if_eq 38 :: zq_ildg zG2 :: zq_ildg zG3 :: zq_calls 182 2 2 :: zq_if_eq 38 :: zq_aldg zG0 :: zq_getfg 8 zG0 :: zq_getfg 1 zG0 :: zq_ildg zG2 :: zq_ildg zG3 :: zq_calli 86 2 5 4 :: zq_k 4294967295 :: zq_ic_eq 40 :: xb_117_1
noncomputable def xf_117_0 : zE → zKn := fun E => zq_aldg zG0 (zq_getfg 8 zG0 (zq_getfg 1 zG0 (zq_ildg zG1 (zq_calli 89 1 5 2 (zq_if_eq 38 (zq_ildg zG2 (zq_ildg zG3 (zq_calls 182 2 2 (zq_if_eq 38 (zq_aldg zG0 (zq_getfg 8 zG0 (zq_getfg 1 zG0 (zq_ildg zG2 (zq_ildg zG3 (zq_calli 86 2 5 4 (zq_k 4294967295 (zq_ic_eq 40 (xf_117_1 E) E) E) E) E) E) E) E) E) E) E) E) E) E) E) E) E) E) E
theorem xe_117_0 : xf_117_0 = zEx xb_117_0 := by
  unfold xf_117_0 xb_117_0
  rw [xe_117_1]
  rfl
theorem xc_117_0 : zCd 117 [0, 38, 40] 0 xb_117_0 := zc_aload_n xj_117 1 0 rfl rfl zf_ald_0 (zc_getf xj_117 4 12 8 0 84 rfl rfl (zf_getf_0 _) (zc_getf xj_117 7 75 1 0 25 rfl rfl (zf_getf_0 _) (zc_iload_n xj_117 8 1 rfl rfl zf_ild_1 (zc_invokevirtual1 xj_117 11 92 89 1 67 5 2 rfl rfl rfl rfl (zc_if_eq xj_117 14 27 38 rfl rfl rfl (zc_iload_n xj_117 15 2 rfl rfl zf_ild_2 (zc_iload_n xj_117 16 3 rfl rfl zf_ild_3 (zc_invokestatic2 xj_117 19 100 182 2 76 0 2 rfl rfl rfl rfl (zc_if_eq xj_117 22 19 38 rfl rfl rfl (zc_aload_n xj_117 23 0 rfl rfl zf_ald_0 (zc_getf xj_117 26 12 8 0 84 rfl rfl (zf_getf_0 _) (zc_getf xj_117 29 75 1 0 25 rfl rfl (zf_getf_0 _) (zc_iload_n xj_117 30 2 rfl rfl zf_ild_2 (zc_iload_n xj_117 31 3 rfl rfl zf_ild_3 (zc_invokevirtual1 xj_117 34 103 86 2 77 5 4 rfl rfl rfl rfl (zc_iconst xj_117 35 (-1) 4294967295 rfl rfl rfl (zc_ic_eq xj_117 38 5 40 rfl rfl rfl (xc_117_1))))))))))))))))))
noncomputable def xm_117 : Lean.RArray (zE → zKn) := .branch 38 (.leaf xf_117_0) (.branch 40 (.leaf xf_117_1) (.leaf xf_117_2))
theorem xa_117 : zCdAll 117 [0, 38, 40] xm_117 := zAll2_ok (P := fun t => ∃ c, zCd 117 [0, 38, 40] t c ∧ xm_117.get t = zEx c) ⟨⟨_, xc_117_0, xe_117_0⟩, ⟨_, xc_117_1, xe_117_1⟩, ⟨_, xc_117_2, xe_117_2⟩, trivial⟩
/-- SquareMesh.fix -/
theorem xj_118 : ∀ pc, pI 118 pc = pJ_118 pc := fun _ => rfl
noncomputable def xb_118_1 : List zF := [zq_aldg zG0, zq_getfg 8 zG2, zq_aldg zG0, zq_getfg 8 zG0, zq_calli 64 1 3 2, zq_aldg zG0, zq_getfg 8 zG0, zq_ildg zG1, zq_ildg zG2, zq_calli 15 2 1 4, zq_k 1, zq_iret 1]
noncomputable def xf_118_1 : zE → zKn := fun E => zq_aldg zG0 (zq_getfg 8 zG2 (zq_aldg zG0 (zq_getfg 8 zG0 (zq_calli 64 1 3 2 (zq_aldg zG0 (zq_getfg 8 zG0 (zq_ildg zG1 (zq_ildg zG2 (zq_calli 15 2 1 4 (zq_k 1 (zq_iret 1 (zNil) E) E) E) E) E) E) E) E) E) E) E) E
theorem xe_118_1 : xf_118_1 = zEx xb_118_1 := by
  unfold xf_118_1 xb_118_1
  rfl
theorem xc_118_1 : zCd 118 [0, 14] 14 xb_118_1 := zc_aload_n xj_118 15 0 rfl rfl zf_ald_0 (zc_getf xj_118 18 22 8 2 86 rfl rfl (zf_getf_2 _) (zc_aload_n xj_118 19 0 rfl rfl zf_ald_0 (zc_getf xj_118 22 12 8 0 84 rfl rfl (zf_getf_0 _) (zc_invokevirtual1 xj_118 25 85 64 1 39 3 2 rfl rfl rfl rfl (zc_aload_n xj_118 26 0 rfl rfl zf_ald_0 (zc_getf xj_118 29 12 8 0 84 rfl rfl (zf_getf_0 _) (zc_iload_n xj_118 30 1 rfl rfl zf_ild_1 (zc_iload_n xj_118 31 2 rfl rfl zf_ild_2 (zc_invokevirtual1 xj_118 34 113 15 2 88 1 4 rfl rfl rfl rfl (zc_iconst xj_118 35 1 1 rfl rfl rfl (zc_ireturn1 xj_118 36 rfl rfl (trivial))))))))))))
noncomputable def xb_118_0 : List zF := [zq_aldg zG0, zq_getfg 8 zG0, zq_ildg zG1, zq_ildg zG2, zq_calli 14 2 1 3, zq_if_ne 14, zq_k 0, zq_iret 1]
noncomputable def xf_118_0 : zE → zKn := fun E => zq_aldg zG0 (zq_getfg 8 zG0 (zq_ildg zG1 (zq_ildg zG2 (zq_calli 14 2 1 3 (zq_if_ne 14 (zq_k 0 (zq_iret 1 (zNil) E) E) E) E) E) E) E) E
theorem xe_118_0 : xf_118_0 = zEx xb_118_0 := by
  unfold xf_118_0 xb_118_0
  rfl
theorem xc_118_0 : zCd 118 [0, 14] 0 xb_118_0 := zc_aload_n xj_118 1 0 rfl rfl zf_ald_0 (zc_getf xj_118 4 12 8 0 84 rfl rfl (zf_getf_0 _) (zc_iload_n xj_118 5 1 rfl rfl zf_ild_1 (zc_iload_n xj_118 6 2 rfl rfl zf_ild_2 (zc_invokevirtual1 xj_118 9 110 14 2 80 1 3 rfl rfl rfl rfl (zc_if_ne xj_118 12 5 14 rfl rfl rfl (zc_iconst xj_118 13 0 0 rfl rfl rfl (zc_ireturn1 xj_118 14 rfl rfl (trivial))))))))
noncomputable def xm_118 : Lean.RArray (zE → zKn) := .branch 14 (.leaf xf_118_0) (.leaf xf_118_1)
theorem xa_118 : zCdAll 118 [0, 14] xm_118 := zAll2_ok (P := fun t => ∃ c, zCd 118 [0, 14] t c ∧ xm_118.get t = zEx c) ⟨⟨_, xc_118_0, xe_118_0⟩, ⟨_, xc_118_1, xe_118_1⟩, trivial⟩
/-- SquareMesh.free -/
theorem xj_119 : ∀ pc, pI 119 pc = pJ_119 pc := fun _ => rfl
noncomputable def xb_119_1 : List zF := [zq_aldg zG0, zq_getfg 8 zG2, zq_aldg zG0, zq_getfg 8 zG0, zq_calli 64 1 3 2, zq_aldg zG0, zq_getfg 8 zG0, zq_ildg zG1, zq_ildg zG2, zq_calli 18 2 1 3, zq_k 1, zq_iret 1]
noncomputable def xf_119_1 : zE → zKn := fun E => zq_aldg zG0 (zq_getfg 8 zG2 (zq_aldg zG0 (zq_getfg 8 zG0 (zq_calli 64 1 3 2 (zq_aldg zG0 (zq_getfg 8 zG0 (zq_ildg zG1 (zq_ildg zG2 (zq_calli 18 2 1 3 (zq_k 1 (zq_iret 1 (zNil) E) E) E) E) E) E) E) E) E) E) E) E
theorem xe_119_1 : xf_119_1 = zEx xb_119_1 := by
  unfold xf_119_1 xb_119_1
  rfl
theorem xc_119_1 : zCd 119 [0, 14] 14 xb_119_1 := zc_aload_n xj_119 15 0 rfl rfl zf_ald_0 (zc_getf xj_119 18 22 8 2 86 rfl rfl (zf_getf_2 _) (zc_aload_n xj_119 19 0 rfl rfl zf_ald_0 (zc_getf xj_119 22 12 8 0 84 rfl rfl (zf_getf_0 _) (zc_invokevirtual1 xj_119 25 85 64 1 39 3 2 rfl rfl rfl rfl (zc_aload_n xj_119 26 0 rfl rfl zf_ald_0 (zc_getf xj_119 29 12 8 0 84 rfl rfl (zf_getf_0 _) (zc_iload_n xj_119 30 1 rfl rfl zf_ild_1 (zc_iload_n xj_119 31 2 rfl rfl zf_ild_2 (zc_invokevirtual1 xj_119 34 120 18 2 94 1 3 rfl rfl rfl rfl (zc_iconst xj_119 35 1 1 rfl rfl rfl (zc_ireturn1 xj_119 36 rfl rfl (trivial))))))))))))
noncomputable def xb_119_0 : List zF := [zq_aldg zG0, zq_getfg 8 zG0, zq_ildg zG1, zq_ildg zG2, zq_calli 17 2 1 3, zq_if_ne 14, zq_k 0, zq_iret 1]
noncomputable def xf_119_0 : zE → zKn := fun E => zq_aldg zG0 (zq_getfg 8 zG0 (zq_ildg zG1 (zq_ildg zG2 (zq_calli 17 2 1 3 (zq_if_ne 14 (zq_k 0 (zq_iret 1 (zNil) E) E) E) E) E) E) E) E
theorem xe_119_0 : xf_119_0 = zEx xb_119_0 := by
  unfold xf_119_0 xb_119_0
  rfl
theorem xc_119_0 : zCd 119 [0, 14] 0 xb_119_0 := zc_aload_n xj_119 1 0 rfl rfl zf_ald_0 (zc_getf xj_119 4 12 8 0 84 rfl rfl (zf_getf_0 _) (zc_iload_n xj_119 5 1 rfl rfl zf_ild_1 (zc_iload_n xj_119 6 2 rfl rfl zf_ild_2 (zc_invokevirtual1 xj_119 9 117 17 2 93 1 3 rfl rfl rfl rfl (zc_if_ne xj_119 12 5 14 rfl rfl rfl (zc_iconst xj_119 13 0 0 rfl rfl rfl (zc_ireturn1 xj_119 14 rfl rfl (trivial))))))))
noncomputable def xm_119 : Lean.RArray (zE → zKn) := .branch 14 (.leaf xf_119_0) (.leaf xf_119_1)
theorem xa_119 : zCdAll 119 [0, 14] xm_119 := zAll2_ok (P := fun t => ∃ c, zCd 119 [0, 14] t c ∧ xm_119.get t = zEx c) ⟨⟨_, xc_119_0, xe_119_0⟩, ⟨_, xc_119_1, xe_119_1⟩, trivial⟩
/-- SquareMesh.drawn -/
theorem xj_120 : ∀ pc, pI 120 pc = pJ_120 pc := fun _ => rfl
noncomputable def xb_120_5 : List zF := [zq_ildg zG3, zq_iret 0]
noncomputable def xf_120_5 : zE → zKn := fun E => zq_ildg zG3 (zq_iret 0 (zNil) E) E
theorem xe_120_5 : xf_120_5 = zEx xb_120_5 := by
  unfold xf_120_5 xb_120_5
  rfl
theorem xc_120_5 : zCd 120 [0, 23, 25, 41, 91, 97] 97 xb_120_5 := zc_iload_n xj_120 98 3 rfl rfl zf_ild_3 (zc_ireturn0 xj_120 99 rfl rfl (trivial))
noncomputable def xb_120_4 : List zF := [zq_incg zG4 zE4 1, zq_goto 41]
noncomputable def xf_120_4 : zE → zKn := fun E => zq_incg zG4 zE4 1 (zq_goto 41 (zNil) E) E
theorem xe_120_4 : xf_120_4 = zEx xb_120_4 := by
  unfold xf_120_4 xb_120_4
  rfl
theorem xc_120_4 : zCd 120 [0, 23, 25, 41, 91, 97] 91 xb_120_4 := zc_iinc xj_120 94 4 1 1 rfl rfl rfl (zf_inc_4 _) (zc_goto xj_120 95 (-53) 41 rfl rfl rfl (trivial))
noncomputable def xb_120_3 : List zF := zq_ildg zG4 :: zq_ildg zG1 :: zq_ic_ge 97 :: zq_aldg zG0 :: zq_getfg 8 zG0 :: zq_getfg 1 zG0 :: zq_ildg zG2 :: zq_calli 94 1 5 3 :: zq_istg zE5 :: zq_aldg zG0 :: zq_getfg 8 zG0 :: zq_getfg 1 zG0 :: zq_ildg zG2 :: zq_calli 94 1 5 3 :: zq_istg zE6 :: zq_aldg zG0 :: zq_getfg 8 zG0 :: zq_ildg zG5 :: zq_ildg zG6 :: zq_calli 8 2 1 4 :: zq_k 4294967295 :: zq_ic_eq 91 :: zq_incg zG3 zE3 1 :: xb_120_4
noncomputable def xf_120_3 : zE → zKn := fun E => zq_ildg zG4 (zq_ildg zG1 (zq_ic_ge 97 (zq_aldg zG0 (zq_getfg 8 zG0 (zq_getfg 1 zG0 (zq_ildg zG2 (zq_calli 94 1 5 3 (zq_istg zE5 (zq_aldg zG0 (zq_getfg 8 zG0 (zq_getfg 1 zG0 (zq_ildg zG2 (zq_calli 94 1 5 3 (zq_istg zE6 (zq_aldg zG0 (zq_getfg 8 zG0 (zq_ildg zG5 (zq_ildg zG6 (zq_calli 8 2 1 4 (zq_k 4294967295 (zq_ic_eq 91 (zq_incg zG3 zE3 1 (xf_120_4 E) E) E) E) E) E) E) E) E) E) E) E) E) E) E) E) E) E) E) E) E) E) E) E
theorem xe_120_3 : xf_120_3 = zEx xb_120_3 := by
  unfold xf_120_3 xb_120_3
  rw [xe_120_4]
  rfl
theorem xc_120_3 : zCd 120 [0, 23, 25, 41, 91, 97] 41 xb_120_3 := zc_iload xj_120 43 4 rfl rfl zf_ild_4 (zc_iload_n xj_120 44 1 rfl rfl zf_ild_1 (zc_ic_ge xj_120 47 53 97 rfl rfl rfl (zc_aload_n xj_120 48 0 rfl rfl zf_ald_0 (zc_getf xj_120 51 12 8 0 84 rfl rfl (zf_getf_0 _) (zc_getf xj_120 54 75 1 0 25 rfl rfl (zf_getf_0 _) (zc_iload_n xj_120 55 2 rfl rfl zf_ild_2 (zc_invokevirtual1 xj_120 58 123 94 1 96 5 3 rfl rfl rfl rfl (zc_istore xj_120 60 5 rfl rfl zf_ist_5 (zc_aload_n xj_120 61 0 rfl rfl zf_ald_0 (zc_getf xj_120 64 12 8 0 84 rfl rfl (zf_getf_0 _) (zc_getf xj_120 67 75 1 0 25 rfl rfl (zf_getf_0 _) (zc_iload_n xj_120 68 2 rfl rfl zf_ild_2 (zc_invokevirtual1 xj_120 71 123 94 1 96 5 3 rfl rfl rfl rfl (zc_istore xj_120 73 6 rfl rfl zf_ist_6 (zc_aload_n xj_120 74 0 rfl rfl zf_ald_0 (zc_getf xj_120 77 12 8 0 84 rfl rfl (zf_getf_0 _) (zc_iload xj_120 79 5 rfl rfl zf_ild_5 (zc_iload xj_120 81 6 rfl rfl zf_ild_6 (zc_invokevirtual1 xj_120 84 88 8 2 42 1 4 rfl rfl rfl rfl (zc_iconst xj_120 85 (-1) 4294967295 rfl rfl rfl (zc_ic_eq xj_120 88 6 91 rfl rfl rfl (zc_iinc xj_120 91 3 1 1 rfl rfl rfl (zf_inc_3 _) (xc_120_4)))))))))))))))))))))))
noncomputable def xb_120_2 : List zF := zq_aldg zG0 :: zq_getfg 8 zG2 :: zq_aldg zG0 :: zq_getfg 8 zG0 :: zq_calli 64 1 3 2 :: zq_k 0 :: zq_istg zE3 :: zq_k 0 :: zq_istg zE4 :: xb_120_3
noncomputable def xf_120_2 : zE → zKn := fun E => zq_aldg zG0 (zq_getfg 8 zG2 (zq_aldg zG0 (zq_getfg 8 zG0 (zq_calli 64 1 3 2 (zq_k 0 (zq_istg zE3 (zq_k 0 (zq_istg zE4 (xf_120_3 E) E) E) E) E) E) E) E) E) E
theorem xe_120_2 : xf_120_2 = zEx xb_120_2 := by
  unfold xf_120_2 xb_120_2
  rw [xe_120_3]
  rfl
theorem xc_120_2 : zCd 120 [0, 23, 25, 41, 91, 97] 25 xb_120_2 := zc_aload_n xj_120 26 0 rfl rfl zf_ald_0 (zc_getf xj_120 29 22 8 2 86 rfl rfl (zf_getf_2 _) (zc_aload_n xj_120 30 0 rfl rfl zf_ald_0 (zc_getf xj_120 33 12 8 0 84 rfl rfl (zf_getf_0 _) (zc_invokevirtual1 xj_120 36 85 64 1 39 3 2 rfl rfl rfl rfl (zc_iconst xj_120 37 0 0 rfl rfl rfl (zc_istore_n xj_120 38 3 rfl rfl zf_ist_3 (zc_iconst xj_120 39 0 0 rfl rfl rfl (zc_istore xj_120 41 4 rfl rfl zf_ist_4 (xc_120_3)))))))))
noncomputable def xb_120_1 : List zF := [zq_k 4294967295, zq_iret 0]
noncomputable def xf_120_1 : zE → zKn := fun E => zq_k 4294967295 (zq_iret 0 (zNil) E) E
theorem xe_120_1 : xf_120_1 = zEx xb_120_1 := by
  unfold xf_120_1 xb_120_1
  rfl
theorem xc_120_1 : zCd 120 [0, 23, 25, 41, 91, 97] 23 xb_120_1 := zc_iconst xj_120 24 (-1) 4294967295 rfl rfl rfl (zc_ireturn0 xj_120 25 rfl rfl (trivial))
noncomputable def xb_120_0 : List zF := zq_ildg zG1 :: zq_k 1 :: zq_ic_lt 23 :: zq_ildg zG1 :: zq_k 20 :: zq_ic_gt 23 :: zq_ildg zG2 :: zq_k 1 :: zq_ic_lt 23 :: zq_ildg zG2 :: zq_k 1000 :: zq_ic_le 25 :: xb_120_1
noncomputable def xf_120_0 : zE → zKn := fun E => zq_ildg zG1 (zq_k 1 (zq_ic_lt 23 (zq_ildg zG1 (zq_k 20 (zq_ic_gt 23 (zq_ildg zG2 (zq_k 1 (zq_ic_lt 23 (zq_ildg zG2 (zq_k 1000 (zq_ic_le 25 (xf_120_1 E) E) E) E) E) E) E) E) E) E) E) E) E
theorem xe_120_0 : xf_120_0 = zEx xb_120_0 := by
  unfold xf_120_0 xb_120_0
  rw [xe_120_1]
  rfl
theorem xc_120_0 : zCd 120 [0, 23, 25, 41, 91, 97] 0 xb_120_0 := zc_iload_n xj_120 1 1 rfl rfl zf_ild_1 (zc_iconst xj_120 2 1 1 rfl rfl rfl (zc_ic_lt xj_120 5 21 23 rfl rfl rfl (zc_iload_n xj_120 6 1 rfl rfl zf_ild_1 (zc_bipush xj_120 8 20 20 rfl rfl rfl (zc_ic_gt xj_120 11 15 23 rfl rfl rfl (zc_iload_n xj_120 12 2 rfl rfl zf_ild_2 (zc_iconst xj_120 13 1 1 rfl rfl rfl (zc_ic_lt xj_120 16 10 23 rfl rfl rfl (zc_iload_n xj_120 17 2 rfl rfl zf_ild_2 (zc_sipush xj_120 20 1000 1000 rfl rfl rfl (zc_ic_le xj_120 23 5 25 rfl rfl rfl (xc_120_1))))))))))))
noncomputable def xm_120 : Lean.RArray (zE → zKn) := .branch 41 (.branch 23 (.leaf xf_120_0) (.branch 25 (.leaf xf_120_1) (.leaf xf_120_2))) (.branch 91 (.leaf xf_120_3) (.branch 97 (.leaf xf_120_4) (.leaf xf_120_5)))
theorem xa_120 : zCdAll 120 [0, 23, 25, 41, 91, 97] xm_120 := zAll2_ok (P := fun t => ∃ c, zCd 120 [0, 23, 25, 41, 91, 97] t c ∧ xm_120.get t = zEx c) ⟨⟨_, xc_120_0, xe_120_0⟩, ⟨_, xc_120_1, xe_120_1⟩, ⟨_, xc_120_2, xe_120_2⟩, ⟨_, xc_120_3, xe_120_3⟩, ⟨_, xc_120_4, xe_120_4⟩, ⟨_, xc_120_5, xe_120_5⟩, trivial⟩
/-- SquareMesh.height -/
theorem xj_121 : ∀ pc, pI 121 pc = pJ_121 pc := fun _ => rfl
noncomputable def xb_121_2 : List zF := [zq_aldg zG0, zq_getfg 8 zG2, zq_aldg zG0, zq_getfg 8 zG0, zq_calli 64 1 3 2, zq_aldg zG0, zq_getfg 8 zG0, zq_getfg 1 zG0, zq_getfg 5 zG2, zq_ildg zG1, zq_ildg zG2, zq_iast, zq_k 1, zq_iret 1]
noncomputable def xf_121_2 : zE → zKn := fun E => zq_aldg zG0 (zq_getfg 8 zG2 (zq_aldg zG0 (zq_getfg 8 zG0 (zq_calli 64 1 3 2 (zq_aldg zG0 (zq_getfg 8 zG0 (zq_getfg 1 zG0 (zq_getfg 5 zG2 (zq_ildg zG1 (zq_ildg zG2 (zq_iast (zq_k 1 (zq_iret 1 (zNil) E) E) E) E) E) E) E) E) E) E) E) E) E) E
theorem xe_121_2 : xf_121_2 = zEx xb_121_2 := by
  unfold xf_121_2 xb_121_2
  rfl
theorem xc_121_2 : zCd 121 [0, 28, 30] 30 xb_121_2 := zc_aload_n xj_121 31 0 rfl rfl zf_ald_0 (zc_getf xj_121 34 22 8 2 86 rfl rfl (zf_getf_2 _) (zc_aload_n xj_121 35 0 rfl rfl zf_ald_0 (zc_getf xj_121 38 12 8 0 84 rfl rfl (zf_getf_0 _) (zc_invokevirtual1 xj_121 41 85 64 1 39 3 2 rfl rfl rfl rfl (zc_aload_n xj_121 42 0 rfl rfl zf_ald_0 (zc_getf xj_121 45 12 8 0 84 rfl rfl (zf_getf_0 _) (zc_getf xj_121 48 75 1 0 25 rfl rfl (zf_getf_0 _) (zc_getf xj_121 51 130 5 2 8 rfl rfl (zf_getf_2 _) (zc_iload_n xj_121 52 1 rfl rfl zf_ild_1 (zc_iload_n xj_121 53 2 rfl rfl zf_ild_2 (zc_iastore xj_121 54 rfl rfl (zc_iconst xj_121 55 1 1 rfl rfl rfl (zc_ireturn1 xj_121 56 rfl rfl (trivial))))))))))))))
noncomputable def xb_121_1 : List zF := [zq_k 0, zq_iret 1]
noncomputable def xf_121_1 : zE → zKn := fun E => zq_k 0 (zq_iret 1 (zNil) E) E
theorem xe_121_1 : xf_121_1 = zEx xb_121_1 := by
  unfold xf_121_1 xb_121_1
  rfl
theorem xc_121_1 : zCd 121 [0, 28, 30] 28 xb_121_1 := zc_iconst xj_121 29 0 0 rfl rfl rfl (zc_ireturn1 xj_121 30 rfl rfl (trivial))
noncomputable def xb_121_0 : List zF := zq_aldg zG0 :: zq_getfg 8 zG0 :: zq_getfg 1 zG0 :: zq_ildg zG1 :: zq_calli 82 1 5 2 :: zq_if_eq 28 :: zq_ildg zG2 :: zq_k 4294957297 :: zq_ic_lt 28 :: zq_ildg zG2 :: zq_k 9999 :: zq_ic_le 30 :: xb_121_1
noncomputable def xf_121_0 : zE → zKn := fun E => zq_aldg zG0 (zq_getfg 8 zG0 (zq_getfg 1 zG0 (zq_ildg zG1 (zq_calli 82 1 5 2 (zq_if_eq 28 (zq_ildg zG2 (zq_k 4294957297 (zq_ic_lt 28 (zq_ildg zG2 (zq_k 9999 (zq_ic_le 30 (xf_121_1 E) E) E) E) E) E) E) E) E) E) E) E) E
theorem xe_121_0 : xf_121_0 = zEx xb_121_0 := by
  unfold xf_121_0 xb_121_0
  rw [xe_121_1]
  rfl
theorem xc_121_0 : zCd 121 [0, 28, 30] 0 xb_121_0 := zc_aload_n xj_121 1 0 rfl rfl zf_ald_0 (zc_getf xj_121 4 12 8 0 84 rfl rfl (zf_getf_0 _) (zc_getf xj_121 7 75 1 0 25 rfl rfl (zf_getf_0 _) (zc_iload_n xj_121 8 1 rfl rfl zf_ild_1 (zc_invokevirtual1 xj_121 11 127 82 1 98 5 2 rfl rfl rfl rfl (zc_if_eq xj_121 14 17 28 rfl rfl rfl (zc_iload_n xj_121 15 2 rfl rfl zf_ild_2 (zc_sipush xj_121 18 (-9999) 4294957297 rfl rfl rfl (zc_ic_lt xj_121 21 10 28 rfl rfl rfl (zc_iload_n xj_121 22 2 rfl rfl zf_ild_2 (zc_sipush xj_121 25 9999 9999 rfl rfl rfl (zc_ic_le xj_121 28 5 30 rfl rfl rfl (xc_121_1))))))))))))
noncomputable def xm_121 : Lean.RArray (zE → zKn) := .branch 28 (.leaf xf_121_0) (.branch 30 (.leaf xf_121_1) (.leaf xf_121_2))
theorem xa_121 : zCdAll 121 [0, 28, 30] xm_121 := zAll2_ok (P := fun t => ∃ c, zCd 121 [0, 28, 30] t c ∧ xm_121.get t = zEx c) ⟨⟨_, xc_121_0, xe_121_0⟩, ⟨_, xc_121_1, xe_121_1⟩, ⟨_, xc_121_2, xe_121_2⟩, trivial⟩
/-- SquareMesh.refine -/
theorem xj_122 : ∀ pc, pI 122 pc = pJ_122 pc := fun _ => rfl
noncomputable def xb_122_5 : List zF := [zq_ildg zG2, zq_iret 0]
noncomputable def xf_122_5 : zE → zKn := fun E => zq_ildg zG2 (zq_iret 0 (zNil) E) E
theorem xe_122_5 : xf_122_5 = zEx xb_122_5 := by
  unfold xf_122_5 xb_122_5
  rfl
theorem xc_122_5 : zCd 122 [0, 11, 13, 28, 43, 52] 52 xb_122_5 := zc_iload_n xj_122 53 2 rfl rfl zf_ild_2 (zc_ireturn0 xj_122 54 rfl rfl (trivial))
noncomputable def xb_122_4 : List zF := [zq_incg zG2 zE2 1, zq_incg zG3 zE3 1, zq_goto 28]
noncomputable def xf_122_4 : zE → zKn := fun E => zq_incg zG2 zE2 1 (zq_incg zG3 zE3 1 (zq_goto 28 (zNil) E) E) E
theorem xe_122_4 : xf_122_4 = zEx xb_122_4 := by
  unfold xf_122_4 xb_122_4
  rfl
theorem xc_122_4 : zCd 122 [0, 11, 13, 28, 43, 52] 43 xb_122_4 := zc_iinc xj_122 46 2 1 1 rfl rfl rfl (zf_inc_2 _) (zc_iinc xj_122 49 3 1 1 rfl rfl rfl (zf_inc_3 _) (zc_goto xj_122 50 (-21) 28 rfl rfl rfl (trivial)))
noncomputable def xb_122_3 : List zF := [zq_ildg zG3, zq_ildg zG1, zq_ic_ge 52, zq_aldg zG0, zq_calli 123 0 8 8, zq_if_ne 43, zq_goto 52]
noncomputable def xf_122_3 : zE → zKn := fun E => zq_ildg zG3 (zq_ildg zG1 (zq_ic_ge 52 (zq_aldg zG0 (zq_calli 123 0 8 8 (zq_if_ne 43 (zq_goto 52 (zNil) E) E) E) E) E) E) E
theorem xe_122_3 : xf_122_3 = zEx xb_122_3 := by
  unfold xf_122_3 xb_122_3
  rfl
theorem xc_122_3 : zCd 122 [0, 11, 13, 28, 43, 52] 28 xb_122_3 := zc_iload_n xj_122 29 3 rfl rfl zf_ild_3 (zc_iload_n xj_122 30 1 rfl rfl zf_ild_1 (zc_ic_ge xj_122 33 22 52 rfl rfl rfl (zc_aload_n xj_122 34 0 rfl rfl zf_ald_0 (zc_invokevirtual1 xj_122 37 133 123 0 100 8 8 rfl rfl rfl rfl (zc_if_ne xj_122 40 6 43 rfl rfl rfl (zc_goto xj_122 41 12 52 rfl rfl rfl (trivial)))))))
noncomputable def xb_122_2 : List zF := zq_aldg zG0 :: zq_getfg 8 zG2 :: zq_aldg zG0 :: zq_getfg 8 zG0 :: zq_calli 64 1 3 2 :: zq_k 0 :: zq_istg zE2 :: zq_k 0 :: zq_istg zE3 :: xb_122_3
noncomputable def xf_122_2 : zE → zKn := fun E => zq_aldg zG0 (zq_getfg 8 zG2 (zq_aldg zG0 (zq_getfg 8 zG0 (zq_calli 64 1 3 2 (zq_k 0 (zq_istg zE2 (zq_k 0 (zq_istg zE3 (xf_122_3 E) E) E) E) E) E) E) E) E) E
theorem xe_122_2 : xf_122_2 = zEx xb_122_2 := by
  unfold xf_122_2 xb_122_2
  rw [xe_122_3]
  rfl
theorem xc_122_2 : zCd 122 [0, 11, 13, 28, 43, 52] 13 xb_122_2 := zc_aload_n xj_122 14 0 rfl rfl zf_ald_0 (zc_getf xj_122 17 22 8 2 86 rfl rfl (zf_getf_2 _) (zc_aload_n xj_122 18 0 rfl rfl zf_ald_0 (zc_getf xj_122 21 12 8 0 84 rfl rfl (zf_getf_0 _) (zc_invokevirtual1 xj_122 24 85 64 1 39 3 2 rfl rfl rfl rfl (zc_iconst xj_122 25 0 0 rfl rfl rfl (zc_istore_n xj_122 26 2 rfl rfl zf_ist_2 (zc_iconst xj_122 27 0 0 rfl rfl rfl (zc_istore_n xj_122 28 3 rfl rfl zf_ist_3 (xc_122_3)))))))))
noncomputable def xb_122_1 : List zF := [zq_k 4294967295, zq_iret 0]
noncomputable def xf_122_1 : zE → zKn := fun E => zq_k 4294967295 (zq_iret 0 (zNil) E) E
theorem xe_122_1 : xf_122_1 = zEx xb_122_1 := by
  unfold xf_122_1 xb_122_1
  rfl
theorem xc_122_1 : zCd 122 [0, 11, 13, 28, 43, 52] 11 xb_122_1 := zc_iconst xj_122 12 (-1) 4294967295 rfl rfl rfl (zc_ireturn0 xj_122 13 rfl rfl (trivial))
noncomputable def xb_122_0 : List zF := zq_ildg zG1 :: zq_k 1 :: zq_ic_lt 11 :: zq_ildg zG1 :: zq_k 10 :: zq_ic_le 13 :: xb_122_1
noncomputable def xf_122_0 : zE → zKn := fun E => zq_ildg zG1 (zq_k 1 (zq_ic_lt 11 (zq_ildg zG1 (zq_k 10 (zq_ic_le 13 (xf_122_1 E) E) E) E) E) E) E
theorem xe_122_0 : xf_122_0 = zEx xb_122_0 := by
  unfold xf_122_0 xb_122_0
  rw [xe_122_1]
  rfl
theorem xc_122_0 : zCd 122 [0, 11, 13, 28, 43, 52] 0 xb_122_0 := zc_iload_n xj_122 1 1 rfl rfl zf_ild_1 (zc_iconst xj_122 2 1 1 rfl rfl rfl (zc_ic_lt xj_122 5 9 11 rfl rfl rfl (zc_iload_n xj_122 6 1 rfl rfl zf_ild_1 (zc_bipush xj_122 8 10 10 rfl rfl rfl (zc_ic_le xj_122 11 5 13 rfl rfl rfl (xc_122_1))))))
noncomputable def xm_122 : Lean.RArray (zE → zKn) := .branch 28 (.branch 11 (.leaf xf_122_0) (.branch 13 (.leaf xf_122_1) (.leaf xf_122_2))) (.branch 43 (.leaf xf_122_3) (.branch 52 (.leaf xf_122_4) (.leaf xf_122_5)))
theorem xa_122 : zCdAll 122 [0, 11, 13, 28, 43, 52] xm_122 := zAll2_ok (P := fun t => ∃ c, zCd 122 [0, 11, 13, 28, 43, 52] t c ∧ xm_122.get t = zEx c) ⟨⟨_, xc_122_0, xe_122_0⟩, ⟨_, xc_122_1, xe_122_1⟩, ⟨_, xc_122_2, xe_122_2⟩, ⟨_, xc_122_3, xe_122_3⟩, ⟨_, xc_122_4, xe_122_4⟩, ⟨_, xc_122_5, xe_122_5⟩, trivial⟩
/-- SquareMesh.refineOnce -/
theorem xj_123 : ∀ pc, pI 123 pc = pJ_123 pc := fun _ => rfl
noncomputable def xb_123_2 : List zF := [zq_iret 1]
noncomputable def xf_123_2 : zE → zKn := fun E => zq_iret 1 (zNil) E
theorem xe_123_2 : xf_123_2 = zEx xb_123_2 := by
  unfold xf_123_2 xb_123_2
  rfl
theorem xc_123_2 : zCd 123 [0, 112, 113] 113 xb_123_2 := zc_ireturn1 xj_123 114 rfl rfl (trivial)
noncomputable def xb_123_1 : List zF := zq_k 0 :: xb_123_2
noncomputable def xf_123_1 : zE → zKn := fun E => zq_k 0 (xf_123_2 E) E
theorem xe_123_1 : xf_123_1 = zEx xb_123_1 := by
  unfold xf_123_1 xb_123_1
  rw [xe_123_2]
  rfl
theorem xc_123_1 : zCd 123 [0, 112, 113] 112 xb_123_1 := zc_iconst xj_123 113 0 0 rfl rfl rfl (xc_123_2)
noncomputable def xb_123_0 : List zF := [zq_aldg zG0, zq_getfg 8 zG0, zq_getfg 1 zG0, zq_astg zE1, zq_aldg zG0, zq_getfg 8 zG0, zq_calli 55 0 1 11, zq_istg zE2, zq_aldg zG0, zq_getfg 8 zG0, zq_ildg zG2, zq_calli 54 1 1 4, zq_istg zE3, zq_aldg zG0, zq_getfg 8 zG0, zq_ildg zG2, zq_ildg zG3, zq_calli 35 2 1 3, zq_istg zE4, zq_aldg zG0, zq_getfg 8 zG0, zq_ildg zG2, zq_ildg zG3, zq_k 1, zq_add, zq_k 3, zq_rem, zq_calli 35 2 1 3, zq_istg zE5, zq_aldg zG1, zq_getfg 5 zG0, zq_ildg zG4, zq_ild_ 0, zq_aldg zG1, zq_getfg 5 zG0, zq_ildg zG5, zq_ild_ 0, zq_add, zq_k 2, zq_calls 351 2 3, zq_istg zE6, zq_aldg zG1, zq_getfg 5 zG1, zq_ildg zG4, zq_ild_ 0, zq_aldg zG1, zq_getfg 5 zG1, zq_ildg zG5, zq_ild_ 0, zq_add, zq_k 2, zq_calls 351 2 3, zq_istg zE7, zq_aldg zG0, zq_getfg 8 zG0, zq_ildg zG6, zq_ildg zG7, zq_calli 8 2 1 4, zq_k 4294967295, zq_ic_eq 112, zq_k 1, zq_goto 113]
noncomputable def xf_123_0 : zE → zKn := fun E => zq_aldg zG0 (zq_getfg 8 zG0 (zq_getfg 1 zG0 (zq_astg zE1 (zq_aldg zG0 (zq_getfg 8 zG0 (zq_calli 55 0 1 11 (zq_istg zE2 (zq_aldg zG0 (zq_getfg 8 zG0 (zq_ildg zG2 (zq_calli 54 1 1 4 (zq_istg zE3 (zq_aldg zG0 (zq_getfg 8 zG0 (zq_ildg zG2 (zq_ildg zG3 (zq_calli 35 2 1 3 (zq_istg zE4 (zq_aldg zG0 (zq_getfg 8 zG0 (zq_ildg zG2 (zq_ildg zG3 (zq_k 1 (zq_add (zq_k 3 (zq_rem (zq_calli 35 2 1 3 (zq_istg zE5 (zq_aldg zG1 (zq_getfg 5 zG0 (zq_ildg zG4 (zq_ild_ 0 (zq_aldg zG1 (zq_getfg 5 zG0 (zq_ildg zG5 (zq_ild_ 0 (zq_add (zq_k 2 (zq_calls 351 2 3 (zq_istg zE6 (zq_aldg zG1 (zq_getfg 5 zG1 (zq_ildg zG4 (zq_ild_ 0 (zq_aldg zG1 (zq_getfg 5 zG1 (zq_ildg zG5 (zq_ild_ 0 (zq_add (zq_k 2 (zq_calls 351 2 3 (zq_istg zE7 (zq_aldg zG0 (zq_getfg 8 zG0 (zq_ildg zG6 (zq_ildg zG7 (zq_calli 8 2 1 4 (zq_k 4294967295 (zq_ic_eq 112 (zq_k 1 (zq_goto 113 (zNil) E) E) E) E) E) E) E) E) E) E) E) E) E) E) E) E) E) E) E) E) E) E) E) E) E) E) E) E) E) E) E) E) E) E) E) E) E) E) E) E) E) E) E) E) E) E) E) E) E) E) E) E) E) E) E) E) E) E) E) E) E) E
set_option maxRecDepth 100000 in
theorem xe_123_0 : xf_123_0 = zEx xb_123_0 := by
  unfold xf_123_0 xb_123_0
  rfl
theorem xc_123_0 : zCd 123 [0, 112, 113] 0 xb_123_0 := zc_aload_n xj_123 1 0 rfl rfl zf_ald_0 (zc_getf xj_123 4 12 8 0 84 rfl rfl (zf_getf_0 _) (zc_getf xj_123 7 75 1 0 25 rfl rfl (zf_getf_0 _) (zc_astore_n xj_123 8 1 rfl rfl zf_ast_1 (zc_aload_n xj_123 9 0 rfl rfl zf_ald_0 (zc_getf xj_123 12 12 8 0 84 rfl rfl (zf_getf_0 _) (zc_invokevirtual1 xj_123 15 137 55 0 101 1 11 rfl rfl rfl rfl (zc_istore_n xj_123 16 2 rfl rfl zf_ist_2 (zc_aload_n xj_123 17 0 rfl rfl zf_ald_0 (zc_getf xj_123 20 12 8 0 84 rfl rfl (zf_getf_0 _) (zc_iload_n xj_123 21 2 rfl rfl zf_ild_2 (zc_invokevirtual1 xj_123 24 141 54 1 106 1 4 rfl rfl rfl rfl (zc_istore_n xj_123 25 3 rfl rfl zf_ist_3 (zc_aload_n xj_123 26 0 rfl rfl zf_ald_0 (zc_getf xj_123 29 12 8 0 84 rfl rfl (zf_getf_0 _) (zc_iload_n xj_123 30 2 rfl rfl zf_ild_2 (zc_iload_n xj_123 31 3 rfl rfl zf_ild_3 (zc_invokevirtual1 xj_123 34 144 35 2 107 1 3 rfl rfl rfl rfl (zc_istore xj_123 36 4 rfl rfl zf_ist_4 (zc_aload_n xj_123 37 0 rfl rfl zf_ald_0 (zc_getf xj_123 40 12 8 0 84 rfl rfl (zf_getf_0 _) (zc_iload_n xj_123 41 2 rfl rfl zf_ild_2 (zc_iload_n xj_123 42 3 rfl rfl zf_ild_3 (zc_iconst xj_123 43 1 1 rfl rfl rfl (zc_iadd xj_123 44 rfl rfl (zc_iconst xj_123 45 3 3 rfl rfl rfl (zc_irem xj_123 46 rfl rfl (zc_invokevirtual1 xj_123 49 144 35 2 107 1 3 rfl rfl rfl rfl (zc_istore xj_123 51 5 rfl rfl zf_ist_5 (zc_aload_n xj_123 52 1 rfl rfl zf_ald_1 (zc_getf xj_123 55 147 5 0 1 rfl rfl (zf_getf_0 _) (zc_iload xj_123 57 4 rfl rfl zf_ild_4 (zc_iaload xj_123 58 rfl rfl (zc_aload_n xj_123 59 1 rfl rfl zf_ald_1 (zc_getf xj_123 62 147 5 0 1 rfl rfl (zf_getf_0 _) (zc_iload xj_123 64 5 rfl rfl zf_ild_5 (zc_iaload xj_123 65 rfl rfl (zc_iadd xj_123 66 rfl rfl (zc_iconst xj_123 67 2 2 rfl rfl rfl (zc_invokestatic2 xj_123 70 150 351 2 108 0 3 rfl rfl rfl rfl (zc_istore xj_123 72 6 rfl rfl zf_ist_6 (zc_aload_n xj_123 73 1 rfl rfl zf_ald_1 (zc_getf xj_123 76 155 5 1 4 rfl rfl (zf_getf_1 _) (zc_iload xj_123 78 4 rfl rfl zf_ild_4 (zc_iaload xj_123 79 rfl rfl (zc_aload_n xj_123 80 1 rfl rfl zf_ald_1 (zc_getf xj_123 83 155 5 1 4 rfl rfl (zf_getf_1 _) (zc_iload xj_123 85 5 rfl rfl zf_ild_5 (zc_iaload xj_123 86 rfl rfl (zc_iadd xj_123 87 rfl rfl (zc_iconst xj_123 88 2 2 rfl rfl rfl (zc_invokestatic2 xj_123 91 150 351 2 108 0 3 rfl rfl rfl rfl (zc_istore xj_123 93 7 rfl rfl zf_ist_7 (zc_aload_n xj_123 94 0 rfl rfl zf_ald_0 (zc_getf xj_123 97 12 8 0 84 rfl rfl (zf_getf_0 _) (zc_iload xj_123 99 6 rfl rfl zf_ild_6 (zc_iload xj_123 101 7 rfl rfl zf_ild_7 (zc_invokevirtual1 xj_123 104 88 8 2 42 1 4 rfl rfl rfl rfl (zc_iconst xj_123 105 (-1) 4294967295 rfl rfl rfl (zc_ic_eq xj_123 108 7 112 rfl rfl rfl (zc_iconst xj_123 109 1 1 rfl rfl rfl (zc_goto xj_123 110 4 113 rfl rfl rfl (trivial))))))))))))))))))))))))))))))))))))))))))))))))))))))))))))))
noncomputable def xm_123 : Lean.RArray (zE → zKn) := .branch 112 (.leaf xf_123_0) (.branch 113 (.leaf xf_123_1) (.leaf xf_123_2))
theorem xa_123 : zCdAll 123 [0, 112, 113] xm_123 := zAll2_ok (P := fun t => ∃ c, zCd 123 [0, 112, 113] t c ∧ xm_123.get t = zEx c) ⟨⟨_, xc_123_0, xe_123_0⟩, ⟨_, xc_123_1, xe_123_1⟩, ⟨_, xc_123_2, xe_123_2⟩, trivial⟩
/-- SquareMesh.smooth -/
theorem xj_124 : ∀ pc, pI 124 pc = pJ_124 pc := fun _ => rfl
noncomputable def xb_124_3 : List zF := [zq_ildg zG1, zq_iret 0]
noncomputable def xf_124_3 : zE → zKn := fun E => zq_ildg zG1 (zq_iret 0 (zNil) E) E
theorem xe_124_3 : xf_124_3 = zEx xb_124_3 := by
  unfold xf_124_3 xb_124_3
  rfl
theorem xc_124_3 : zCd 124 [0, 15, 46, 52] 52 xb_124_3 := zc_iload_n xj_124 53 1 rfl rfl zf_ild_1 (zc_ireturn0 xj_124 54 rfl rfl (trivial))
noncomputable def xb_124_2 : List zF := [zq_incg zG2 zE2 1, zq_goto 15]
noncomputable def xf_124_2 : zE → zKn := fun E => zq_incg zG2 zE2 1 (zq_goto 15 (zNil) E) E
theorem xe_124_2 : xf_124_2 = zEx xb_124_2 := by
  unfold xf_124_2 xb_124_2
  rfl
theorem xc_124_2 : zCd 124 [0, 15, 46, 52] 46 xb_124_2 := zc_iinc xj_124 49 2 1 1 rfl rfl rfl (zf_inc_2 _) (zc_goto xj_124 50 (-34) 15 rfl rfl rfl (trivial))
noncomputable def xb_124_1 : List zF := zq_ildg zG2 :: zq_k 40 :: zq_ic_ge 52 :: zq_aldg zG0 :: zq_getfg 8 zG0 :: zq_getfg 1 zG0 :: zq_ildg zG2 :: zq_calli 89 1 5 2 :: zq_if_eq 46 :: zq_aldg zG0 :: zq_ildg zG2 :: zq_calli 125 1 8 7 :: zq_if_eq 46 :: zq_incg zG1 zE1 1 :: xb_124_2
noncomputable def xf_124_1 : zE → zKn := fun E => zq_ildg zG2 (zq_k 40 (zq_ic_ge 52 (zq_aldg zG0 (zq_getfg 8 zG0 (zq_getfg 1 zG0 (zq_ildg zG2 (zq_calli 89 1 5 2 (zq_if_eq 46 (zq_aldg zG0 (zq_ildg zG2 (zq_calli 125 1 8 7 (zq_if_eq 46 (zq_incg zG1 zE1 1 (xf_124_2 E) E) E) E) E) E) E) E) E) E) E) E) E) E) E
theorem xe_124_1 : xf_124_1 = zEx xb_124_1 := by
  unfold xf_124_1 xb_124_1
  rw [xe_124_2]
  rfl
theorem xc_124_1 : zCd 124 [0, 15, 46, 52] 15 xb_124_1 := zc_iload_n xj_124 16 2 rfl rfl zf_ild_2 (zc_bipush xj_124 18 40 40 rfl rfl rfl (zc_ic_ge xj_124 21 34 52 rfl rfl rfl (zc_aload_n xj_124 22 0 rfl rfl zf_ald_0 (zc_getf xj_124 25 12 8 0 84 rfl rfl (zf_getf_0 _) (zc_getf xj_124 28 75 1 0 25 rfl rfl (zf_getf_0 _) (zc_iload_n xj_124 29 2 rfl rfl zf_ild_2 (zc_invokevirtual1 xj_124 32 92 89 1 67 5 2 rfl rfl rfl rfl (zc_if_eq xj_124 35 14 46 rfl rfl rfl (zc_aload_n xj_124 36 0 rfl rfl zf_ald_0 (zc_iload_n xj_124 37 2 rfl rfl zf_ild_2 (zc_invokevirtual1 xj_124 40 158 125 1 110 8 7 rfl rfl rfl rfl (zc_if_eq xj_124 43 6 46 rfl rfl rfl (zc_iinc xj_124 46 1 1 1 rfl rfl rfl (zf_inc_1 _) (xc_124_2))))))))))))))
noncomputable def xb_124_0 : List zF := zq_aldg zG0 :: zq_getfg 8 zG2 :: zq_aldg zG0 :: zq_getfg 8 zG0 :: zq_calli 64 1 3 2 :: zq_k 0 :: zq_istg zE1 :: zq_k 4 :: zq_istg zE2 :: xb_124_1
noncomputable def xf_124_0 : zE → zKn := fun E => zq_aldg zG0 (zq_getfg 8 zG2 (zq_aldg zG0 (zq_getfg 8 zG0 (zq_calli 64 1 3 2 (zq_k 0 (zq_istg zE1 (zq_k 4 (zq_istg zE2 (xf_124_1 E) E) E) E) E) E) E) E) E) E
theorem xe_124_0 : xf_124_0 = zEx xb_124_0 := by
  unfold xf_124_0 xb_124_0
  rw [xe_124_1]
  rfl
theorem xc_124_0 : zCd 124 [0, 15, 46, 52] 0 xb_124_0 := zc_aload_n xj_124 1 0 rfl rfl zf_ald_0 (zc_getf xj_124 4 22 8 2 86 rfl rfl (zf_getf_2 _) (zc_aload_n xj_124 5 0 rfl rfl zf_ald_0 (zc_getf xj_124 8 12 8 0 84 rfl rfl (zf_getf_0 _) (zc_invokevirtual1 xj_124 11 85 64 1 39 3 2 rfl rfl rfl rfl (zc_iconst xj_124 12 0 0 rfl rfl rfl (zc_istore_n xj_124 13 1 rfl rfl zf_ist_1 (zc_iconst xj_124 14 4 4 rfl rfl rfl (zc_istore_n xj_124 15 2 rfl rfl zf_ist_2 (xc_124_1)))))))))
noncomputable def xm_124 : Lean.RArray (zE → zKn) := .branch 46 (.branch 15 (.leaf xf_124_0) (.leaf xf_124_1)) (.branch 52 (.leaf xf_124_2) (.leaf xf_124_3))
theorem xa_124 : zCdAll 124 [0, 15, 46, 52] xm_124 := zAll2_ok (P := fun t => ∃ c, zCd 124 [0, 15, 46, 52] t c ∧ xm_124.get t = zEx c) ⟨⟨_, xc_124_0, xe_124_0⟩, ⟨_, xc_124_1, xe_124_1⟩, ⟨_, xc_124_2, xe_124_2⟩, ⟨_, xc_124_3, xe_124_3⟩, trivial⟩
/-- SquareMesh.smoothOne -/
theorem xj_125 : ∀ pc, pI 125 pc = pJ_125 pc := fun _ => rfl
noncomputable def xb_125_4 : List zF := [zq_aldg zG0, zq_getfg 8 zG0, zq_ildg zG1, zq_calli 11 1 1 4, zq_aldg zG0, zq_getfg 8 zG0, zq_ildg zG1, zq_ildg zG5, zq_ildg zG6, zq_calli 9 3 1 8, zq_k 1, zq_iret 1]
noncomputable def xf_125_4 : zE → zKn := fun E => zq_aldg zG0 (zq_getfg 8 zG0 (zq_ildg zG1 (zq_calli 11 1 1 4 (zq_aldg zG0 (zq_getfg 8 zG0 (zq_ildg zG1 (zq_ildg zG5 (zq_ildg zG6 (zq_calli 9 3 1 8 (zq_k 1 (zq_iret 1 (zNil) E) E) E) E) E) E) E) E) E) E) E) E
theorem xe_125_4 : xf_125_4 = zEx xb_125_4 := by
  unfold xf_125_4 xb_125_4
  rfl
theorem xc_125_4 : zCd 125 [0, 15, 23, 85, 120] 120 xb_125_4 := zc_aload_n xj_125 121 0 rfl rfl zf_ald_0 (zc_getf xj_125 124 12 8 0 84 rfl rfl (zf_getf_0 _) (zc_iload_n xj_125 125 1 rfl rfl zf_ild_1 (zc_invokevirtual1 xj_125 128 96 11 1 68 1 4 rfl rfl rfl rfl (zc_aload_n xj_125 129 0 rfl rfl zf_ald_0 (zc_getf xj_125 132 12 8 0 84 rfl rfl (zf_getf_0 _) (zc_iload_n xj_125 133 1 rfl rfl zf_ild_1 (zc_iload xj_125 135 5 rfl rfl zf_ild_5 (zc_iload xj_125 137 6 rfl rfl zf_ild_6 (zc_invokevirtual1 xj_125 140 106 9 3 78 1 8 rfl rfl rfl rfl (zc_iconst xj_125 141 1 1 rfl rfl rfl (zc_ireturn1 xj_125 142 rfl rfl (trivial))))))))))))
noncomputable def xb_125_3 : List zF := [zq_ildg zG3, zq_ildg zG2, zq_calls 351 2 3, zq_istg zE5, zq_ildg zG4, zq_ildg zG2, zq_calls 351 2 3, zq_istg zE6, zq_aldg zG0, zq_getfg 8 zG0, zq_getfg 1 zG0, zq_ildg zG5, zq_ildg zG6, zq_calli 86 2 5 4, zq_k 4294967295, zq_ic_eq 120, zq_k 0, zq_iret 1]
noncomputable def xf_125_3 : zE → zKn := fun E => zq_ildg zG3 (zq_ildg zG2 (zq_calls 351 2 3 (zq_istg zE5 (zq_ildg zG4 (zq_ildg zG2 (zq_calls 351 2 3 (zq_istg zE6 (zq_aldg zG0 (zq_getfg 8 zG0 (zq_getfg 1 zG0 (zq_ildg zG5 (zq_ildg zG6 (zq_calli 86 2 5 4 (zq_k 4294967295 (zq_ic_eq 120 (zq_k 0 (zq_iret 1 (zNil) E) E) E) E) E) E) E) E) E) E) E) E) E) E) E) E) E) E
theorem xe_125_3 : xf_125_3 = zEx xb_125_3 := by
  unfold xf_125_3 xb_125_3
  rfl
theorem xc_125_3 : zCd 125 [0, 15, 23, 85, 120] 85 xb_125_3 := zc_iload_n xj_125 86 3 rfl rfl zf_ild_3 (zc_iload_n xj_125 87 2 rfl rfl zf_ild_2 (zc_invokestatic2 xj_125 90 150 351 2 108 0 3 rfl rfl rfl rfl (zc_istore xj_125 92 5 rfl rfl zf_ist_5 (zc_iload xj_125 94 4 rfl rfl zf_ild_4 (zc_iload_n xj_125 95 2 rfl rfl zf_ild_2 (zc_invokestatic2 xj_125 98 150 351 2 108 0 3 rfl rfl rfl rfl (zc_istore xj_125 100 6 rfl rfl zf_ist_6 (zc_aload_n xj_125 101 0 rfl rfl zf_ald_0 (zc_getf xj_125 104 12 8 0 84 rfl rfl (zf_getf_0 _) (zc_getf xj_125 107 75 1 0 25 rfl rfl (zf_getf_0 _) (zc_iload xj_125 109 5 rfl rfl zf_ild_5 (zc_iload xj_125 111 6 rfl rfl zf_ild_6 (zc_invokevirtual1 xj_125 114 103 86 2 77 5 4 rfl rfl rfl rfl (zc_iconst xj_125 115 (-1) 4294967295 rfl rfl rfl (zc_ic_eq xj_125 118 5 120 rfl rfl rfl (zc_iconst xj_125 119 0 0 rfl rfl rfl (zc_ireturn1 xj_125 120 rfl rfl (trivial))))))))))))))))))
noncomputable def xb_125_2 : List zF := [zq_ildg zG5, zq_ildg zG2, zq_ic_ge 85, zq_ildg zG3, zq_aldg zG0, zq_getfg 8 zG0, zq_getfg 1 zG0, zq_getfg 5 zG0, zq_aldg zG0, zq_getfg 8 zG0, zq_getfg 1 zG6, zq_ildg zG5, zq_ild_ 0, zq_ild_ 0, zq_add, zq_istg zE3, zq_ildg zG4, zq_aldg zG0, zq_getfg 8 zG0, zq_getfg 1 zG0, zq_getfg 5 zG1, zq_aldg zG0, zq_getfg 8 zG0, zq_getfg 1 zG6, zq_ildg zG5, zq_ild_ 0, zq_ild_ 0, zq_add, zq_istg zE4, zq_incg zG5 zE5 1, zq_goto 23]
noncomputable def xf_125_2 : zE → zKn := fun E => zq_ildg zG5 (zq_ildg zG2 (zq_ic_ge 85 (zq_ildg zG3 (zq_aldg zG0 (zq_getfg 8 zG0 (zq_getfg 1 zG0 (zq_getfg 5 zG0 (zq_aldg zG0 (zq_getfg 8 zG0 (zq_getfg 1 zG6 (zq_ildg zG5 (zq_ild_ 0 (zq_ild_ 0 (zq_add (zq_istg zE3 (zq_ildg zG4 (zq_aldg zG0 (zq_getfg 8 zG0 (zq_getfg 1 zG0 (zq_getfg 5 zG1 (zq_aldg zG0 (zq_getfg 8 zG0 (zq_getfg 1 zG6 (zq_ildg zG5 (zq_ild_ 0 (zq_ild_ 0 (zq_add (zq_istg zE4 (zq_incg zG5 zE5 1 (zq_goto 23 (zNil) E) E) E) E) E) E) E) E) E) E) E) E) E) E) E) E) E) E) E) E) E) E) E) E) E) E) E) E) E) E) E
set_option maxRecDepth 100000 in
theorem xe_125_2 : xf_125_2 = zEx xb_125_2 := by
  unfold xf_125_2 xb_125_2
  rfl
theorem xc_125_2 : zCd 125 [0, 15, 23, 85, 120] 23 xb_125_2 := zc_iload xj_125 25 5 rfl rfl zf_ild_5 (zc_iload_n xj_125 26 2 rfl rfl zf_ild_2 (zc_ic_ge xj_125 29 59 85 rfl rfl rfl (zc_iload_n xj_125 30 3 rfl rfl zf_ild_3 (zc_aload_n xj_125 31 0 rfl rfl zf_ald_0 (zc_getf xj_125 34 12 8 0 84 rfl rfl (zf_getf_0 _) (zc_getf xj_125 37 75 1 0 25 rfl rfl (zf_getf_0 _) (zc_getf xj_125 40 147 5 0 1 rfl rfl (zf_getf_0 _) (zc_aload_n xj_125 41 0 rfl rfl zf_ald_0 (zc_getf xj_125 44 12 8 0 84 rfl rfl (zf_getf_0 _) (zc_getf xj_125 47 164 1 6 43 rfl rfl (zf_getf_6 _) (zc_iload xj_125 49 5 rfl rfl zf_ild_5 (zc_iaload xj_125 50 rfl rfl (zc_iaload xj_125 51 rfl rfl (zc_iadd xj_125 52 rfl rfl (zc_istore_n xj_125 53 3 rfl rfl zf_ist_3 (zc_iload xj_125 55 4 rfl rfl zf_ild_4 (zc_aload_n xj_125 56 0 rfl rfl zf_ald_0 (zc_getf xj_125 59 12 8 0 84 rfl rfl (zf_getf_0 _) (zc_getf xj_125 62 75 1 0 25 rfl rfl (zf_getf_0 _) (zc_getf xj_125 65 155 5 1 4 rfl rfl (zf_getf_1 _) (zc_aload_n xj_125 66 0 rfl rfl zf_ald_0 (zc_getf xj_125 69 12 8 0 84 rfl rfl (zf_getf_0 _) (zc_getf xj_125 72 164 1 6 43 rfl rfl (zf_getf_6 _) (zc_iload xj_125 74 5 rfl rfl zf_ild_5 (zc_iaload xj_125 75 rfl rfl (zc_iaload xj_125 76 rfl rfl (zc_iadd xj_125 77 rfl rfl (zc_istore xj_125 79 4 rfl rfl zf_ist_4 (zc_iinc xj_125 82 5 1 1 rfl rfl rfl (zf_inc_5 _) (zc_goto xj_125 83 (-59) 23 rfl rfl rfl (trivial)))))))))))))))))))))))))))))))
noncomputable def xb_125_1 : List zF := zq_k 0 :: zq_istg zE3 :: zq_k 0 :: zq_istg zE4 :: zq_k 0 :: zq_istg zE5 :: xb_125_2
noncomputable def xf_125_1 : zE → zKn := fun E => zq_k 0 (zq_istg zE3 (zq_k 0 (zq_istg zE4 (zq_k 0 (zq_istg zE5 (xf_125_2 E) E) E) E) E) E) E
theorem xe_125_1 : xf_125_1 = zEx xb_125_1 := by
  unfold xf_125_1 xb_125_1
  rw [xe_125_2]
  rfl
theorem xc_125_1 : zCd 125 [0, 15, 23, 85, 120] 15 xb_125_1 := zc_iconst xj_125 16 0 0 rfl rfl rfl (zc_istore_n xj_125 17 3 rfl rfl zf_ist_3 (zc_iconst xj_125 18 0 0 rfl rfl rfl (zc_istore xj_125 20 4 rfl rfl zf_ist_4 (zc_iconst xj_125 21 0 0 rfl rfl rfl (zc_istore xj_125 23 5 rfl rfl zf_ist_5 (xc_125_2))))))
noncomputable def xb_125_0 : List zF := [zq_aldg zG0, zq_getfg 8 zG0, zq_ildg zG1, zq_calli 45 1 1 6, zq_istg zE2, zq_ildg zG2, zq_if_gt 15, zq_k 0, zq_iret 1]
noncomputable def xf_125_0 : zE → zKn := fun E => zq_aldg zG0 (zq_getfg 8 zG0 (zq_ildg zG1 (zq_calli 45 1 1 6 (zq_istg zE2 (zq_ildg zG2 (zq_if_gt 15 (zq_k 0 (zq_iret 1 (zNil) E) E) E) E) E) E) E) E) E
theorem xe_125_0 : xf_125_0 = zEx xb_125_0 := by
  unfold xf_125_0 xb_125_0
  rfl
theorem xc_125_0 : zCd 125 [0, 15, 23, 85, 120] 0 xb_125_0 := zc_aload_n xj_125 1 0 rfl rfl zf_ald_0 (zc_getf xj_125 4 12 8 0 84 rfl rfl (zf_getf_0 _) (zc_iload_n xj_125 5 1 rfl rfl zf_ild_1 (zc_invokevirtual1 xj_125 8 161 45 1 111 1 6 rfl rfl rfl rfl (zc_istore_n xj_125 9 2 rfl rfl zf_ist_2 (zc_iload_n xj_125 10 2 rfl rfl zf_ild_2 (zc_if_gt xj_125 13 5 15 rfl rfl rfl (zc_iconst xj_125 14 0 0 rfl rfl rfl (zc_ireturn1 xj_125 15 rfl rfl (trivial)))))))))
noncomputable def xm_125 : Lean.RArray (zE → zKn) := .branch 23 (.branch 15 (.leaf xf_125_0) (.leaf xf_125_1)) (.branch 85 (.leaf xf_125_2) (.branch 120 (.leaf xf_125_3) (.leaf xf_125_4)))
theorem xa_125 : zCdAll 125 [0, 15, 23, 85, 120] xm_125 := zAll2_ok (P := fun t => ∃ c, zCd 125 [0, 15, 23, 85, 120] t c ∧ xm_125.get t = zEx c) ⟨⟨_, xc_125_0, xe_125_0⟩, ⟨_, xc_125_1, xe_125_1⟩, ⟨_, xc_125_2, xe_125_2⟩, ⟨_, xc_125_3, xe_125_3⟩, ⟨_, xc_125_4, xe_125_4⟩, trivial⟩
/-- SquareMesh.hole -/
theorem xj_126 : ∀ pc, pI 126 pc = pJ_126 pc := fun _ => rfl
noncomputable def xb_126_2 : List zF := [zq_aldg zG0, zq_getfg 8 zG2, zq_aldg zG0, zq_getfg 8 zG0, zq_calli 64 1 3 2, zq_aldg zG3, zq_getfg 5 zG4, zq_aldg zG3, zq_getfg 5 zG7, zq_ildg zG1, zq_iast, zq_aldg zG3, zq_getfg 5 zG5, zq_aldg zG3, zq_getfg 5 zG7, zq_ildg zG2, zq_iast, zq_aldg zG3, zq_dup, zq_getfg 5 zG7, zq_k 1, zq_add, zq_putf 5 7 0, zq_aldg zG3, zq_getfg 5 zG7, zq_iret 0]
noncomputable def xf_126_2 : zE → zKn := fun E => zq_aldg zG0 (zq_getfg 8 zG2 (zq_aldg zG0 (zq_getfg 8 zG0 (zq_calli 64 1 3 2 (zq_aldg zG3 (zq_getfg 5 zG4 (zq_aldg zG3 (zq_getfg 5 zG7 (zq_ildg zG1 (zq_iast (zq_aldg zG3 (zq_getfg 5 zG5 (zq_aldg zG3 (zq_getfg 5 zG7 (zq_ildg zG2 (zq_iast (zq_aldg zG3 (zq_dup (zq_getfg 5 zG7 (zq_k 1 (zq_add (zq_putf 5 7 0 (zq_aldg zG3 (zq_getfg 5 zG7 (zq_iret 0 (zNil) E) E) E) E) E) E) E) E) E) E) E) E) E) E) E) E) E) E) E) E) E) E) E) E) E) E
theorem xe_126_2 : xf_126_2 = zEx xb_126_2 := by
  unfold xf_126_2 xb_126_2
  rfl
theorem xc_126_2 : zCd 126 [0, 25, 27] 27 xb_126_2 := zc_aload_n xj_126 28 0 rfl rfl zf_ald_0 (zc_getf xj_126 31 22 8 2 86 rfl rfl (zf_getf_2 _) (zc_aload_n xj_126 32 0 rfl rfl zf_ald_0 (zc_getf xj_126 35 12 8 0 84 rfl rfl (zf_getf_0 _) (zc_invokevirtual1 xj_126 38 85 64 1 39 3 2 rfl rfl rfl rfl (zc_aload_n xj_126 39 3 rfl rfl zf_ald_3 (zc_getf xj_126 42 171 5 4 13 rfl rfl (zf_getf_4 _) (zc_aload_n xj_126 43 3 rfl rfl zf_ald_3 (zc_getf xj_126 46 167 5 7 20 rfl rfl (zf_getf_7 _) (zc_iload_n xj_126 47 1 rfl rfl zf_ild_1 (zc_iastore xj_126 48 rfl rfl (zc_aload_n xj_126 49 3 rfl rfl zf_ald_3 (zc_getf xj_126 52 174 5 5 16 rfl rfl (zf_getf_5 _) (zc_aload_n xj_126 53 3 rfl rfl zf_ald_3 (zc_getf xj_126 56 167 5 7 20 rfl rfl (zf_getf_7 _) (zc_iload_n xj_126 57 2 rfl rfl zf_ild_2 (zc_iastore xj_126 58 rfl rfl (zc_aload_n xj_126 59 3 rfl rfl zf_ald_3 (zc_dup xj_126 60 rfl rfl (zc_getf xj_126 63 167 5 7 20 rfl rfl (zf_getf_7 _) (zc_iconst xj_126 64 1 1 rfl rfl rfl (zc_iadd xj_126 65 rfl rfl (zc_putf xj_126 68 167 5 7 20 0 rfl rfl rfl (zc_aload_n xj_126 69 3 rfl rfl zf_ald_3 (zc_getf xj_126 72 167 5 7 20 rfl rfl (zf_getf_7 _) (zc_ireturn0 xj_126 73 rfl rfl (trivial))))))))))))))))))))))))))
noncomputable def xb_126_1 : List zF := [zq_k 4294967295, zq_iret 0]
noncomputable def xf_126_1 : zE → zKn := fun E => zq_k 4294967295 (zq_iret 0 (zNil) E) E
theorem xe_126_1 : xf_126_1 = zEx xb_126_1 := by
  unfold xf_126_1 xb_126_1
  rfl
theorem xc_126_1 : zCd 126 [0, 25, 27] 25 xb_126_1 := zc_iconst xj_126 26 (-1) 4294967295 rfl rfl rfl (zc_ireturn0 xj_126 27 rfl rfl (trivial))
noncomputable def xb_126_0 : List zF := zq_aldg zG0 :: zq_getfg 8 zG0 :: zq_getfg 1 zG0 :: zq_astg zE3 :: zq_ildg zG1 :: zq_ildg zG2 :: zq_calls 182 2 2 :: zq_if_eq 25 :: zq_aldg zG3 :: zq_getfg 5 zG7 :: zq_k 8 :: zq_ic_lt 27 :: xb_126_1
noncomputable def xf_126_0 : zE → zKn := fun E => zq_aldg zG0 (zq_getfg 8 zG0 (zq_getfg 1 zG0 (zq_astg zE3 (zq_ildg zG1 (zq_ildg zG2 (zq_calls 182 2 2 (zq_if_eq 25 (zq_aldg zG3 (zq_getfg 5 zG7 (zq_k 8 (zq_ic_lt 27 (xf_126_1 E) E) E) E) E) E) E) E) E) E) E) E) E
theorem xe_126_0 : xf_126_0 = zEx xb_126_0 := by
  unfold xf_126_0 xb_126_0
  rw [xe_126_1]
  rfl
theorem xc_126_0 : zCd 126 [0, 25, 27] 0 xb_126_0 := zc_aload_n xj_126 1 0 rfl rfl zf_ald_0 (zc_getf xj_126 4 12 8 0 84 rfl rfl (zf_getf_0 _) (zc_getf xj_126 7 75 1 0 25 rfl rfl (zf_getf_0 _) (zc_astore_n xj_126 8 3 rfl rfl zf_ast_3 (zc_iload_n xj_126 9 1 rfl rfl zf_ild_1 (zc_iload_n xj_126 10 2 rfl rfl zf_ild_2 (zc_invokestatic2 xj_126 13 100 182 2 76 0 2 rfl rfl rfl rfl (zc_if_eq xj_126 16 12 25 rfl rfl rfl (zc_aload_n xj_126 17 3 rfl rfl zf_ald_3 (zc_getf xj_126 20 167 5 7 20 rfl rfl (zf_getf_7 _) (zc_bipush xj_126 22 8 8 rfl rfl rfl (zc_ic_lt xj_126 25 5 27 rfl rfl rfl (xc_126_1))))))))))))
noncomputable def xm_126 : Lean.RArray (zE → zKn) := .branch 25 (.leaf xf_126_0) (.branch 27 (.leaf xf_126_1) (.leaf xf_126_2))
theorem xa_126 : zCdAll 126 [0, 25, 27] xm_126 := zAll2_ok (P := fun t => ∃ c, zCd 126 [0, 25, 27] t c ∧ xm_126.get t = zEx c) ⟨⟨_, xc_126_0, xe_126_0⟩, ⟨_, xc_126_1, xe_126_1⟩, ⟨_, xc_126_2, xe_126_2⟩, trivial⟩
/-- SquareMesh.fill -/
theorem xj_127 : ∀ pc, pI 127 pc = pJ_127 pc := fun _ => rfl
noncomputable def xb_127_1 : List zF := [zq_aldg zG0, zq_getfg 8 zG2, zq_aldg zG0, zq_getfg 8 zG0, zq_calli 64 1 3 2, zq_aldg zG0, zq_getfg 8 zG0, zq_getfg 1 zG0, zq_dup, zq_getfg 5 zG7, zq_k 1, zq_sub, zq_putf 5 7 0, zq_aldg zG0, zq_getfg 8 zG0, zq_getfg 1 zG0, zq_getfg 5 zG7, zq_iret 0]
noncomputable def xf_127_1 : zE → zKn := fun E => zq_aldg zG0 (zq_getfg 8 zG2 (zq_aldg zG0 (zq_getfg 8 zG0 (zq_calli 64 1 3 2 (zq_aldg zG0 (zq_getfg 8 zG0 (zq_getfg 1 zG0 (zq_dup (zq_getfg 5 zG7 (zq_k 1 (zq_sub (zq_putf 5 7 0 (zq_aldg zG0 (zq_getfg 8 zG0 (zq_getfg 1 zG0 (zq_getfg 5 zG7 (zq_iret 0 (zNil) E) E) E) E) E) E) E) E) E) E) E) E) E) E) E) E) E) E
theorem xe_127_1 : xf_127_1 = zEx xb_127_1 := by
  unfold xf_127_1 xb_127_1
  rfl
theorem xc_127_1 : zCd 127 [0, 15] 15 xb_127_1 := zc_aload_n xj_127 16 0 rfl rfl zf_ald_0 (zc_getf xj_127 19 22 8 2 86 rfl rfl (zf_getf_2 _) (zc_aload_n xj_127 20 0 rfl rfl zf_ald_0 (zc_getf xj_127 23 12 8 0 84 rfl rfl (zf_getf_0 _) (zc_invokevirtual1 xj_127 26 85 64 1 39 3 2 rfl rfl rfl rfl (zc_aload_n xj_127 27 0 rfl rfl zf_ald_0 (zc_getf xj_127 30 12 8 0 84 rfl rfl (zf_getf_0 _) (zc_getf xj_127 33 75 1 0 25 rfl rfl (zf_getf_0 _) (zc_dup xj_127 34 rfl rfl (zc_getf xj_127 37 167 5 7 20 rfl rfl (zf_getf_7 _) (zc_iconst xj_127 38 1 1 rfl rfl rfl (zc_isub xj_127 39 rfl rfl (zc_putf xj_127 42 167 5 7 20 0 rfl rfl rfl (zc_aload_n xj_127 43 0 rfl rfl zf_ald_0 (zc_getf xj_127 46 12 8 0 84 rfl rfl (zf_getf_0 _) (zc_getf xj_127 49 75 1 0 25 rfl rfl (zf_getf_0 _) (zc_getf xj_127 52 167 5 7 20 rfl rfl (zf_getf_7 _) (zc_ireturn0 xj_127 53 rfl rfl (trivial))))))))))))))))))
noncomputable def xb_127_0 : List zF := [zq_aldg zG0, zq_getfg 8 zG0, zq_getfg 1 zG0, zq_getfg 5 zG7, zq_if_gt 15, zq_k 4294967295, zq_iret 0]
noncomputable def xf_127_0 : zE → zKn := fun E => zq_aldg zG0 (zq_getfg 8 zG0 (zq_getfg 1 zG0 (zq_getfg 5 zG7 (zq_if_gt 15 (zq_k 4294967295 (zq_iret 0 (zNil) E) E) E) E) E) E) E
theorem xe_127_0 : xf_127_0 = zEx xb_127_0 := by
  unfold xf_127_0 xb_127_0
  rfl
theorem xc_127_0 : zCd 127 [0, 15] 0 xb_127_0 := zc_aload_n xj_127 1 0 rfl rfl zf_ald_0 (zc_getf xj_127 4 12 8 0 84 rfl rfl (zf_getf_0 _) (zc_getf xj_127 7 75 1 0 25 rfl rfl (zf_getf_0 _) (zc_getf xj_127 10 167 5 7 20 rfl rfl (zf_getf_7 _) (zc_if_gt xj_127 13 5 15 rfl rfl rfl (zc_iconst xj_127 14 (-1) 4294967295 rfl rfl rfl (zc_ireturn0 xj_127 15 rfl rfl (trivial)))))))
noncomputable def xm_127 : Lean.RArray (zE → zKn) := .branch 15 (.leaf xf_127_0) (.leaf xf_127_1)
theorem xa_127 : zCdAll 127 [0, 15] xm_127 := zAll2_ok (P := fun t => ∃ c, zCd 127 [0, 15] t c ∧ xm_127.get t = zEx c) ⟨⟨_, xc_127_0, xe_127_0⟩, ⟨_, xc_127_1, xe_127_1⟩, trivial⟩
/-- SquareMesh.tell -/
theorem xj_128 : ∀ pc, pI 128 pc = pJ_128 pc := fun _ => rfl
noncomputable def xb_128_2 : List zF := [zq_aldg zG0, zq_getfg 8 zG0, zq_getfg 1 zG0, zq_ildg zG1, zq_putf 5 8 0, zq_k 1, zq_iret 1]
noncomputable def xf_128_2 : zE → zKn := fun E => zq_aldg zG0 (zq_getfg 8 zG0 (zq_getfg 1 zG0 (zq_ildg zG1 (zq_putf 5 8 0 (zq_k 1 (zq_iret 1 (zNil) E) E) E) E) E) E) E
theorem xe_128_2 : xf_128_2 = zEx xb_128_2 := by
  unfold xf_128_2 xb_128_2
  rfl
theorem xc_128_2 : zCd 128 [0, 11, 13] 13 xb_128_2 := zc_aload_n xj_128 14 0 rfl rfl zf_ald_0 (zc_getf xj_128 17 12 8 0 84 rfl rfl (zf_getf_0 _) (zc_getf xj_128 20 75 1 0 25 rfl rfl (zf_getf_0 _) (zc_iload_n xj_128 21 1 rfl rfl zf_ild_1 (zc_putf xj_128 24 177 5 8 23 0 rfl rfl rfl (zc_iconst xj_128 25 1 1 rfl rfl rfl (zc_ireturn1 xj_128 26 rfl rfl (trivial)))))))
noncomputable def xb_128_1 : List zF := [zq_k 0, zq_iret 1]
noncomputable def xf_128_1 : zE → zKn := fun E => zq_k 0 (zq_iret 1 (zNil) E) E
theorem xe_128_1 : xf_128_1 = zEx xb_128_1 := by
  unfold xf_128_1 xb_128_1
  rfl
theorem xc_128_1 : zCd 128 [0, 11, 13] 11 xb_128_1 := zc_iconst xj_128 12 0 0 rfl rfl rfl (zc_ireturn1 xj_128 13 rfl rfl (trivial))
noncomputable def xb_128_0 : List zF := zq_ildg zG1 :: zq_if_lt 11 :: zq_ildg zG1 :: zq_k 30047 :: zq_ic_lt 13 :: xb_128_1
noncomputable def xf_128_0 : zE → zKn := fun E => zq_ildg zG1 (zq_if_lt 11 (zq_ildg zG1 (zq_k 30047 (zq_ic_lt 13 (xf_128_1 E) E) E) E) E) E
theorem xe_128_0 : xf_128_0 = zEx xb_128_0 := by
  unfold xf_128_0 xb_128_0
  rw [xe_128_1]
  rfl
theorem xc_128_0 : zCd 128 [0, 11, 13] 0 xb_128_0 := zc_iload_n xj_128 1 1 rfl rfl zf_ild_1 (zc_if_lt xj_128 4 10 11 rfl rfl rfl (zc_iload_n xj_128 5 1 rfl rfl zf_ild_1 (zc_sipush xj_128 8 30047 30047 rfl rfl rfl (zc_ic_lt xj_128 11 5 13 rfl rfl rfl (xc_128_1)))))
noncomputable def xm_128 : Lean.RArray (zE → zKn) := .branch 11 (.leaf xf_128_0) (.branch 13 (.leaf xf_128_1) (.leaf xf_128_2))
theorem xa_128 : zCdAll 128 [0, 11, 13] xm_128 := zAll2_ok (P := fun t => ∃ c, zCd 128 [0, 11, 13] t c ∧ xm_128.get t = zEx c) ⟨⟨_, xc_128_0, xe_128_0⟩, ⟨_, xc_128_1, xe_128_1⟩, ⟨_, xc_128_2, xe_128_2⟩, trivial⟩
/-- SquareMesh.undo -/
theorem xj_129 : ∀ pc, pI 129 pc = pJ_129 pc := fun _ => rfl
noncomputable def xb_129_2 : List zF := [zq_iret 0]
noncomputable def xf_129_2 : zE → zKn := fun E => zq_iret 0 (zNil) E
theorem xe_129_2 : xf_129_2 = zEx xb_129_2 := by
  unfold xf_129_2 xb_129_2
  rfl
theorem xc_129_2 : zCd 129 [0, 24, 25] 25 xb_129_2 := zc_ireturn0 xj_129 26 rfl rfl (trivial)
noncomputable def xb_129_1 : List zF := zq_k 4294967295 :: xb_129_2
noncomputable def xf_129_1 : zE → zKn := fun E => zq_k 4294967295 (xf_129_2 E) E
theorem xe_129_1 : xf_129_1 = zEx xb_129_1 := by
  unfold xf_129_1 xb_129_1
  rw [xe_129_2]
  rfl
theorem xc_129_1 : zCd 129 [0, 24, 25] 24 xb_129_1 := zc_iconst xj_129 25 (-1) 4294967295 rfl rfl rfl (xc_129_2)
noncomputable def xb_129_0 : List zF := [zq_aldg zG0, zq_getfg 8 zG2, zq_aldg zG0, zq_getfg 8 zG0, zq_calli 66 1 3 2, zq_if_eq 24, zq_aldg zG0, zq_getfg 8 zG2, zq_getfg 3 zG2, zq_goto 25]
noncomputable def xf_129_0 : zE → zKn := fun E => zq_aldg zG0 (zq_getfg 8 zG2 (zq_aldg zG0 (zq_getfg 8 zG0 (zq_calli 66 1 3 2 (zq_if_eq 24 (zq_aldg zG0 (zq_getfg 8 zG2 (zq_getfg 3 zG2 (zq_goto 25 (zNil) E) E) E) E) E) E) E) E) E) E
theorem xe_129_0 : xf_129_0 = zEx xb_129_0 := by
  unfold xf_129_0 xb_129_0
  rfl
theorem xc_129_0 : zCd 129 [0, 24, 25] 0 xb_129_0 := zc_aload_n xj_129 1 0 rfl rfl zf_ald_0 (zc_getf xj_129 4 22 8 2 86 rfl rfl (zf_getf_2 _) (zc_aload_n xj_129 5 0 rfl rfl zf_ald_0 (zc_getf xj_129 8 12 8 0 84 rfl rfl (zf_getf_0 _) (zc_invokevirtual1 xj_129 11 180 66 1 116 3 2 rfl rfl rfl rfl (zc_if_eq xj_129 14 13 24 rfl rfl rfl (zc_aload_n xj_129 15 0 rfl rfl zf_ald_0 (zc_getf xj_129 18 22 8 2 86 rfl rfl (zf_getf_2 _) (zc_getf xj_129 21 184 3 2 59 rfl rfl (zf_getf_2 _) (zc_goto xj_129 22 4 25 rfl rfl rfl (trivial))))))))))
noncomputable def xm_129 : Lean.RArray (zE → zKn) := .branch 24 (.leaf xf_129_0) (.branch 25 (.leaf xf_129_1) (.leaf xf_129_2))
theorem xa_129 : zCdAll 129 [0, 24, 25] xm_129 := zAll2_ok (P := fun t => ∃ c, zCd 129 [0, 24, 25] t c ∧ xm_129.get t = zEx c) ⟨⟨_, xc_129_0, xe_129_0⟩, ⟨_, xc_129_1, xe_129_1⟩, ⟨_, xc_129_2, xe_129_2⟩, trivial⟩
/-- SquareMesh.steps -/
theorem xj_130 : ∀ pc, pI 130 pc = pJ_130 pc := fun _ => rfl
noncomputable def xb_130_0 : List zF := [zq_aldg zG0, zq_getfg 8 zG2, zq_getfg 3 zG2, zq_iret 0]
noncomputable def xf_130_0 : zE → zKn := fun E => zq_aldg zG0 (zq_getfg 8 zG2 (zq_getfg 3 zG2 (zq_iret 0 (zNil) E) E) E) E
theorem xe_130_0 : xf_130_0 = zEx xb_130_0 := by
  unfold xf_130_0 xb_130_0
  rfl
theorem xc_130_0 : zCd 130 [0] 0 xb_130_0 := zc_aload_n xj_130 1 0 rfl rfl zf_ald_0 (zc_getf xj_130 4 22 8 2 86 rfl rfl (zf_getf_2 _) (zc_getf xj_130 7 184 3 2 59 rfl rfl (zf_getf_2 _) (zc_ireturn0 xj_130 8 rfl rfl (trivial))))
noncomputable def xm_130 : Lean.RArray (zE → zKn) := .leaf xf_130_0
theorem xa_130 : zCdAll 130 [0] xm_130 := zAll2_ok (P := fun t => ∃ c, zCd 130 [0] t c ∧ xm_130.get t = zEx c) ⟨⟨_, xc_130_0, xe_130_0⟩, trivial⟩
/-- SquareMesh.image -/
theorem xj_131 : ∀ pc, pI 131 pc = pJ_131 pc := fun _ => rfl
noncomputable def xb_131_0 : List zF := [zq_aldg zG0, zq_getfg 8 zG3, zq_aldg zG0, zq_getfg 8 zG2, zq_calli 69 1 3 2, zq_aldg zG0, zq_getfg 8 zG3, zq_aldg zG0, zq_getfg 8 zG0, zq_calli 67 1 3 3, zq_aldg zG0, zq_getfg 8 zG0, zq_getfg 1 zG0, zq_calli 83 0 5 1, zq_iret 0]
noncomputable def xf_131_0 : zE → zKn := fun E => zq_aldg zG0 (zq_getfg 8 zG3 (zq_aldg zG0 (zq_getfg 8 zG2 (zq_calli 69 1 3 2 (zq_aldg zG0 (zq_getfg 8 zG3 (zq_aldg zG0 (zq_getfg 8 zG0 (zq_calli 67 1 3 3 (zq_aldg zG0 (zq_getfg 8 zG0 (zq_getfg 1 zG0 (zq_calli 83 0 5 1 (zq_iret 0 (zNil) E) E) E) E) E) E) E) E) E) E) E) E) E) E) E
theorem xe_131_0 : xf_131_0 = zEx xb_131_0 := by
  unfold xf_131_0 xb_131_0
  rfl
theorem xc_131_0 : zCd 131 [0] 0 xb_131_0 := zc_aload_n xj_131 1 0 rfl rfl zf_ald_0 (zc_getf xj_131 4 26 8 3 87 rfl rfl (zf_getf_3 _) (zc_aload_n xj_131 5 0 rfl rfl zf_ald_0 (zc_getf xj_131 8 22 8 2 86 rfl rfl (zf_getf_2 _) (zc_invokevirtual1 xj_131 11 187 69 1 122 3 2 rfl rfl rfl rfl (zc_aload_n xj_131 12 0 rfl rfl zf_ald_0 (zc_getf xj_131 15 26 8 3 87 rfl rfl (zf_getf_3 _) (zc_aload_n xj_131 16 0 rfl rfl zf_ald_0 (zc_getf xj_131 19 12 8 0 84 rfl rfl (zf_getf_0 _) (zc_invokevirtual1 xj_131 22 71 67 1 29 3 3 rfl rfl rfl rfl (zc_aload_n xj_131 23 0 rfl rfl zf_ald_0 (zc_getf xj_131 26 12 8 0 84 rfl rfl (zf_getf_0 _) (zc_getf xj_131 29 75 1 0 25 rfl rfl (zf_getf_0 _) (zc_invokevirtual1 xj_131 32 191 83 0 123 5 1 rfl rfl rfl rfl (zc_ireturn0 xj_131 33 rfl rfl (trivial)))))))))))))))
noncomputable def xm_131 : Lean.RArray (zE → zKn) := .leaf xf_131_0
theorem xa_131 : zCdAll 131 [0] xm_131 := zAll2_ok (P := fun t => ∃ c, zCd 131 [0] t c ∧ xm_131.get t = zEx c) ⟨⟨_, xc_131_0, xe_131_0⟩, trivial⟩
/-- SquareMesh.back -/
theorem xj_132 : ∀ pc, pI 132 pc = pJ_132 pc := fun _ => rfl
noncomputable def xb_132_0 : List zF := [zq_aldg zG0, zq_getfg 8 zG3, zq_aldg zG0, zq_getfg 8 zG0, zq_calli 68 1 3 3, zq_aldg zG0, zq_getfg 8 zG2, zq_aldg zG0, zq_getfg 8 zG3, zq_calli 69 1 3 2, zq_aldg zG0, zq_getfg 8 zG0, zq_getfg 1 zG0, zq_calli 83 0 5 1, zq_iret 0]
noncomputable def xf_132_0 : zE → zKn := fun E => zq_aldg zG0 (zq_getfg 8 zG3 (zq_aldg zG0 (zq_getfg 8 zG0 (zq_calli 68 1 3 3 (zq_aldg zG0 (zq_getfg 8 zG2 (zq_aldg zG0 (zq_getfg 8 zG3 (zq_calli 69 1 3 2 (zq_aldg zG0 (zq_getfg 8 zG0 (zq_getfg 1 zG0 (zq_calli 83 0 5 1 (zq_iret 0 (zNil) E) E) E) E) E) E) E) E) E) E) E) E) E) E) E
theorem xe_132_0 : xf_132_0 = zEx xb_132_0 := by
  unfold xf_132_0 xb_132_0
  rfl
theorem xc_132_0 : zCd 132 [0] 0 xb_132_0 := zc_aload_n xj_132 1 0 rfl rfl zf_ald_0 (zc_getf xj_132 4 26 8 3 87 rfl rfl (zf_getf_3 _) (zc_aload_n xj_132 5 0 rfl rfl zf_ald_0 (zc_getf xj_132 8 12 8 0 84 rfl rfl (zf_getf_0 _) (zc_invokevirtual1 xj_132 11 194 68 1 126 3 3 rfl rfl rfl rfl (zc_aload_n xj_132 12 0 rfl rfl zf_ald_0 (zc_getf xj_132 15 22 8 2 86 rfl rfl (zf_getf_2 _) (zc_aload_n xj_132 16 0 rfl rfl zf_ald_0 (zc_getf xj_132 19 26 8 3 87 rfl rfl (zf_getf_3 _) (zc_invokevirtual1 xj_132 22 187 69 1 122 3 2 rfl rfl rfl rfl (zc_aload_n xj_132 23 0 rfl rfl zf_ald_0 (zc_getf xj_132 26 12 8 0 84 rfl rfl (zf_getf_0 _) (zc_getf xj_132 29 75 1 0 25 rfl rfl (zf_getf_0 _) (zc_invokevirtual1 xj_132 32 191 83 0 123 5 1 rfl rfl rfl rfl (zc_ireturn0 xj_132 33 rfl rfl (trivial)))))))))))))))
noncomputable def xm_132 : Lean.RArray (zE → zKn) := .leaf xf_132_0
theorem xa_132 : zCdAll 132 [0] xm_132 := zAll2_ok (P := fun t => ∃ c, zCd 132 [0] t c ∧ xm_132.get t = zEx c) ⟨⟨_, xc_132_0, xe_132_0⟩, trivial⟩
/-- SquareMesh.fresh -/
theorem xj_133 : ∀ pc, pI 133 pc = pJ_133 pc := fun _ => rfl
noncomputable def xb_133_3 : List zF := [zq_ildg zG1, zq_iret 0]
noncomputable def xf_133_3 : zE → zKn := fun E => zq_ildg zG1 (zq_iret 0 (zNil) E) E
theorem xe_133_3 : xf_133_3 = zEx xb_133_3 := by
  unfold xf_133_3 xb_133_3
  rfl
theorem xc_133_3 : zCd 133 [0, 4, 55, 61] 61 xb_133_3 := zc_iload_n xj_133 62 1 rfl rfl zf_ild_1 (zc_ireturn0 xj_133 63 rfl rfl (trivial))
noncomputable def xb_133_2 : List zF := [zq_incg zG2 zE2 1, zq_goto 4]
noncomputable def xf_133_2 : zE → zKn := fun E => zq_incg zG2 zE2 1 (zq_goto 4 (zNil) E) E
theorem xe_133_2 : xf_133_2 = zEx xb_133_2 := by
  unfold xf_133_2 xb_133_2
  rfl
theorem xc_133_2 : zCd 133 [0, 4, 55, 61] 55 xb_133_2 := zc_iinc xj_133 58 2 1 1 rfl rfl rfl (zf_inc_2 _) (zc_goto xj_133 59 (-54) 4 rfl rfl rfl (trivial))
noncomputable def xb_133_1 : List zF := zq_ildg zG2 :: zq_aldg zG0 :: zq_getfg 8 zG0 :: zq_getfg 1 zG7 :: zq_ic_ge 61 :: zq_aldg zG0 :: zq_getfg 8 zG3 :: zq_aldg zG0 :: zq_getfg 8 zG0 :: zq_ildg zG2 :: zq_k 0 :: zq_calli 35 2 1 3 :: zq_aldg zG0 :: zq_getfg 8 zG0 :: zq_ildg zG2 :: zq_k 1 :: zq_calli 35 2 1 3 :: zq_aldg zG0 :: zq_getfg 8 zG0 :: zq_ildg zG2 :: zq_k 2 :: zq_calli 35 2 1 3 :: zq_calli 70 3 3 8 :: zq_if_ne 55 :: zq_incg zG1 zE1 1 :: xb_133_2
noncomputable def xf_133_1 : zE → zKn := fun E => zq_ildg zG2 (zq_aldg zG0 (zq_getfg 8 zG0 (zq_getfg 1 zG7 (zq_ic_ge 61 (zq_aldg zG0 (zq_getfg 8 zG3 (zq_aldg zG0 (zq_getfg 8 zG0 (zq_ildg zG2 (zq_k 0 (zq_calli 35 2 1 3 (zq_aldg zG0 (zq_getfg 8 zG0 (zq_ildg zG2 (zq_k 1 (zq_calli 35 2 1 3 (zq_aldg zG0 (zq_getfg 8 zG0 (zq_ildg zG2 (zq_k 2 (zq_calli 35 2 1 3 (zq_calli 70 3 3 8 (zq_if_ne 55 (zq_incg zG1 zE1 1 (xf_133_2 E) E) E) E) E) E) E) E) E) E) E) E) E) E) E) E) E) E) E) E) E) E) E) E) E) E
theorem xe_133_1 : xf_133_1 = zEx xb_133_1 := by
  unfold xf_133_1 xb_133_1
  rw [xe_133_2]
  rfl
theorem xc_133_1 : zCd 133 [0, 4, 55, 61] 4 xb_133_1 := zc_iload_n xj_133 5 2 rfl rfl zf_ild_2 (zc_aload_n xj_133 6 0 rfl rfl zf_ald_0 (zc_getf xj_133 9 12 8 0 84 rfl rfl (zf_getf_0 _) (zc_getf xj_133 12 197 1 7 47 rfl rfl (zf_getf_7 _) (zc_ic_ge xj_133 15 49 61 rfl rfl rfl (zc_aload_n xj_133 16 0 rfl rfl zf_ald_0 (zc_getf xj_133 19 26 8 3 87 rfl rfl (zf_getf_3 _) (zc_aload_n xj_133 20 0 rfl rfl zf_ald_0 (zc_getf xj_133 23 12 8 0 84 rfl rfl (zf_getf_0 _) (zc_iload_n xj_133 24 2 rfl rfl zf_ild_2 (zc_iconst xj_133 25 0 0 rfl rfl rfl (zc_invokevirtual1 xj_133 28 144 35 2 107 1 3 rfl rfl rfl rfl (zc_aload_n xj_133 29 0 rfl rfl zf_ald_0 (zc_getf xj_133 32 12 8 0 84 rfl rfl (zf_getf_0 _) (zc_iload_n xj_133 33 2 rfl rfl zf_ild_2 (zc_iconst xj_133 34 1 1 rfl rfl rfl (zc_invokevirtual1 xj_133 37 144 35 2 107 1 3 rfl rfl rfl rfl (zc_aload_n xj_133 38 0 rfl rfl zf_ald_0 (zc_getf xj_133 41 12 8 0 84 rfl rfl (zf_getf_0 _) (zc_iload_n xj_133 42 2 rfl rfl zf_ild_2 (zc_iconst xj_133 43 2 2 rfl rfl rfl (zc_invokevirtual1 xj_133 46 144 35 2 107 1 3 rfl rfl rfl rfl (zc_invokevirtual1 xj_133 49 200 70 3 128 3 8 rfl rfl rfl rfl (zc_if_ne xj_133 52 6 55 rfl rfl rfl (zc_iinc xj_133 55 1 1 1 rfl rfl rfl (zf_inc_1 _) (xc_133_2)))))))))))))))))))))))))
noncomputable def xb_133_0 : List zF := zq_k 0 :: zq_istg zE1 :: zq_k 0 :: zq_istg zE2 :: xb_133_1
noncomputable def xf_133_0 : zE → zKn := fun E => zq_k 0 (zq_istg zE1 (zq_k 0 (zq_istg zE2 (xf_133_1 E) E) E) E) E
theorem xe_133_0 : xf_133_0 = zEx xb_133_0 := by
  unfold xf_133_0 xb_133_0
  rw [xe_133_1]
  rfl
theorem xc_133_0 : zCd 133 [0, 4, 55, 61] 0 xb_133_0 := zc_iconst xj_133 1 0 0 rfl rfl rfl (zc_istore_n xj_133 2 1 rfl rfl zf_ist_1 (zc_iconst xj_133 3 0 0 rfl rfl rfl (zc_istore_n xj_133 4 2 rfl rfl zf_ist_2 (xc_133_1))))
noncomputable def xm_133 : Lean.RArray (zE → zKn) := .branch 55 (.branch 4 (.leaf xf_133_0) (.leaf xf_133_1)) (.branch 61 (.leaf xf_133_2) (.leaf xf_133_3))
theorem xa_133 : zCdAll 133 [0, 4, 55, 61] xm_133 := zAll2_ok (P := fun t => ∃ c, zCd 133 [0, 4, 55, 61] t c ∧ xm_133.get t = zEx c) ⟨⟨_, xc_133_0, xe_133_0⟩, ⟨_, xc_133_1, xe_133_1⟩, ⟨_, xc_133_2, xe_133_2⟩, ⟨_, xc_133_3, xe_133_3⟩, trivial⟩
/-- SquareMesh.is -/
theorem xj_134 : ∀ pc, pI 134 pc = pJ_134 pc := fun _ => rfl
noncomputable def xb_134_12 : List zF := [zq_aldg zG0, zq_ildg zG1, zq_calli 135 1 8 2, zq_iret 0]
noncomputable def xf_134_12 : zE → zKn := fun E => zq_aldg zG0 (zq_ildg zG1 (zq_calli 135 1 8 2 (zq_iret 0 (zNil) E) E) E) E
theorem xe_134_12 : xf_134_12 = zEx xb_134_12 := by
  unfold xf_134_12 xb_134_12
  rfl
theorem xc_134_12 : zCd 134 [0, 68, 79, 87, 95, 103, 111, 122, 130, 141, 150, 159, 164] 164 xb_134_12 := zc_aload_n xj_134 165 0 rfl rfl zf_ald_0 (zc_iload_n xj_134 166 1 rfl rfl zf_ild_1 (zc_invokevirtual1 xj_134 169 222 135 1 140 8 2 rfl rfl rfl rfl (zc_ireturn0 xj_134 170 rfl rfl (trivial))))
noncomputable def xb_134_11 : List zF := [zq_aldg zG0, zq_calli 169 0 8 3, zq_iret 0]
noncomputable def xf_134_11 : zE → zKn := fun E => zq_aldg zG0 (zq_calli 169 0 8 3 (zq_iret 0 (zNil) E) E) E
theorem xe_134_11 : xf_134_11 = zEx xb_134_11 := by
  unfold xf_134_11 xb_134_11
  rfl
theorem xc_134_11 : zCd 134 [0, 68, 79, 87, 95, 103, 111, 122, 130, 141, 150, 159, 164] 159 xb_134_11 := zc_aload_n xj_134 160 0 rfl rfl zf_ald_0 (zc_invokevirtual1 xj_134 163 219 169 0 136 8 3 rfl rfl rfl rfl (zc_ireturn0 xj_134 164 rfl rfl (trivial)))
noncomputable def xb_134_10 : List zF := [zq_aldg zG0, zq_getfg 8 zG0, zq_k 0, zq_calli 53 1 1 6, zq_iret 0]
noncomputable def xf_134_10 : zE → zKn := fun E => zq_aldg zG0 (zq_getfg 8 zG0 (zq_k 0 (zq_calli 53 1 1 6 (zq_iret 0 (zNil) E) E) E) E) E
theorem xe_134_10 : xf_134_10 = zEx xb_134_10 := by
  unfold xf_134_10 xb_134_10
  rfl
theorem xc_134_10 : zCd 134 [0, 68, 79, 87, 95, 103, 111, 122, 130, 141, 150, 159, 164] 150 xb_134_10 := zc_aload_n xj_134 151 0 rfl rfl zf_ald_0 (zc_getf xj_134 154 12 8 0 84 rfl rfl (zf_getf_0 _) (zc_iconst xj_134 155 0 0 rfl rfl rfl (zc_invokevirtual1 xj_134 158 216 53 1 134 1 6 rfl rfl rfl rfl (zc_ireturn0 xj_134 159 rfl rfl (trivial)))))
noncomputable def xb_134_9 : List zF := [zq_aldg zG0, zq_getfg 8 zG0, zq_k 4294967295, zq_calli 53 1 1 6, zq_iret 0]
noncomputable def xf_134_9 : zE → zKn := fun E => zq_aldg zG0 (zq_getfg 8 zG0 (zq_k 4294967295 (zq_calli 53 1 1 6 (zq_iret 0 (zNil) E) E) E) E) E
theorem xe_134_9 : xf_134_9 = zEx xb_134_9 := by
  unfold xf_134_9 xb_134_9
  rfl
theorem xc_134_9 : zCd 134 [0, 68, 79, 87, 95, 103, 111, 122, 130, 141, 150, 159, 164] 141 xb_134_9 := zc_aload_n xj_134 142 0 rfl rfl zf_ald_0 (zc_getf xj_134 145 12 8 0 84 rfl rfl (zf_getf_0 _) (zc_iconst xj_134 146 (-1) 4294967295 rfl rfl rfl (zc_invokevirtual1 xj_134 149 216 53 1 134 1 6 rfl rfl rfl rfl (zc_ireturn0 xj_134 150 rfl rfl (trivial)))))
noncomputable def xb_134_8 : List zF := [zq_aldg zG0, zq_getfg 8 zG0, zq_getfg 1 zG0, zq_getfg 5 zG7, zq_iret 0]
noncomputable def xf_134_8 : zE → zKn := fun E => zq_aldg zG0 (zq_getfg 8 zG0 (zq_getfg 1 zG0 (zq_getfg 5 zG7 (zq_iret 0 (zNil) E) E) E) E) E
theorem xe_134_8 : xf_134_8 = zEx xb_134_8 := by
  unfold xf_134_8 xb_134_8
  rfl
theorem xc_134_8 : zCd 134 [0, 68, 79, 87, 95, 103, 111, 122, 130, 141, 150, 159, 164] 130 xb_134_8 := zc_aload_n xj_134 131 0 rfl rfl zf_ald_0 (zc_getf xj_134 134 12 8 0 84 rfl rfl (zf_getf_0 _) (zc_getf xj_134 137 75 1 0 25 rfl rfl (zf_getf_0 _) (zc_getf xj_134 140 167 5 7 20 rfl rfl (zf_getf_7 _) (zc_ireturn0 xj_134 141 rfl rfl (trivial)))))
noncomputable def xb_134_7 : List zF := [zq_aldg zG0, zq_getfg 8 zG0, zq_calli 52 0 1 3, zq_iret 0]
noncomputable def xf_134_7 : zE → zKn := fun E => zq_aldg zG0 (zq_getfg 8 zG0 (zq_calli 52 0 1 3 (zq_iret 0 (zNil) E) E) E) E
theorem xe_134_7 : xf_134_7 = zEx xb_134_7 := by
  unfold xf_134_7 xb_134_7
  rfl
theorem xc_134_7 : zCd 134 [0, 68, 79, 87, 95, 103, 111, 122, 130, 141, 150, 159, 164] 122 xb_134_7 := zc_aload_n xj_134 123 0 rfl rfl zf_ald_0 (zc_getf xj_134 126 12 8 0 84 rfl rfl (zf_getf_0 _) (zc_invokevirtual1 xj_134 129 213 52 0 132 1 3 rfl rfl rfl rfl (zc_ireturn0 xj_134 130 rfl rfl (trivial))))
noncomputable def xb_134_6 : List zF := [zq_aldg zG0, zq_getfg 8 zG0, zq_getfg 1 zG0, zq_getfg 5 zG8, zq_iret 0]
noncomputable def xf_134_6 : zE → zKn := fun E => zq_aldg zG0 (zq_getfg 8 zG0 (zq_getfg 1 zG0 (zq_getfg 5 zG8 (zq_iret 0 (zNil) E) E) E) E) E
theorem xe_134_6 : xf_134_6 = zEx xb_134_6 := by
  unfold xf_134_6 xb_134_6
  rfl
theorem xc_134_6 : zCd 134 [0, 68, 79, 87, 95, 103, 111, 122, 130, 141, 150, 159, 164] 111 xb_134_6 := zc_aload_n xj_134 112 0 rfl rfl zf_ald_0 (zc_getf xj_134 115 12 8 0 84 rfl rfl (zf_getf_0 _) (zc_getf xj_134 118 75 1 0 25 rfl rfl (zf_getf_0 _) (zc_getf xj_134 121 177 5 8 23 rfl rfl (zf_getf_8 _) (zc_ireturn0 xj_134 122 rfl rfl (trivial)))))
noncomputable def xb_134_5 : List zF := [zq_aldg zG0, zq_getfg 8 zG0, zq_calli 50 0 1 3, zq_iret 0]
noncomputable def xf_134_5 : zE → zKn := fun E => zq_aldg zG0 (zq_getfg 8 zG0 (zq_calli 50 0 1 3 (zq_iret 0 (zNil) E) E) E) E
theorem xe_134_5 : xf_134_5 = zEx xb_134_5 := by
  unfold xf_134_5 xb_134_5
  rfl
theorem xc_134_5 : zCd 134 [0, 68, 79, 87, 95, 103, 111, 122, 130, 141, 150, 159, 164] 103 xb_134_5 := zc_aload_n xj_134 104 0 rfl rfl zf_ald_0 (zc_getf xj_134 107 12 8 0 84 rfl rfl (zf_getf_0 _) (zc_invokevirtual1 xj_134 110 210 50 0 131 1 3 rfl rfl rfl rfl (zc_ireturn0 xj_134 111 rfl rfl (trivial))))
noncomputable def xb_134_4 : List zF := [zq_aldg zG0, zq_getfg 8 zG0, zq_calli 49 0 1 3, zq_iret 0]
noncomputable def xf_134_4 : zE → zKn := fun E => zq_aldg zG0 (zq_getfg 8 zG0 (zq_calli 49 0 1 3 (zq_iret 0 (zNil) E) E) E) E
theorem xe_134_4 : xf_134_4 = zEx xb_134_4 := by
  unfold xf_134_4 xb_134_4
  rfl
theorem xc_134_4 : zCd 134 [0, 68, 79, 87, 95, 103, 111, 122, 130, 141, 150, 159, 164] 95 xb_134_4 := zc_aload_n xj_134 96 0 rfl rfl zf_ald_0 (zc_getf xj_134 99 12 8 0 84 rfl rfl (zf_getf_0 _) (zc_invokevirtual1 xj_134 102 207 49 0 130 1 3 rfl rfl rfl rfl (zc_ireturn0 xj_134 103 rfl rfl (trivial))))
noncomputable def xb_134_3 : List zF := [zq_aldg zG0, zq_getfg 8 zG0, zq_getfg 1 zG8, zq_iret 0]
noncomputable def xf_134_3 : zE → zKn := fun E => zq_aldg zG0 (zq_getfg 8 zG0 (zq_getfg 1 zG8 (zq_iret 0 (zNil) E) E) E) E
theorem xe_134_3 : xf_134_3 = zEx xb_134_3 := by
  unfold xf_134_3 xb_134_3
  rfl
theorem xc_134_3 : zCd 134 [0, 68, 79, 87, 95, 103, 111, 122, 130, 141, 150, 159, 164] 87 xb_134_3 := zc_aload_n xj_134 88 0 rfl rfl zf_ald_0 (zc_getf xj_134 91 12 8 0 84 rfl rfl (zf_getf_0 _) (zc_getf xj_134 94 204 1 8 51 rfl rfl (zf_getf_8 _) (zc_ireturn0 xj_134 95 rfl rfl (trivial))))
noncomputable def xb_134_2 : List zF := [zq_aldg zG0, zq_getfg 8 zG0, zq_getfg 1 zG7, zq_iret 0]
noncomputable def xf_134_2 : zE → zKn := fun E => zq_aldg zG0 (zq_getfg 8 zG0 (zq_getfg 1 zG7 (zq_iret 0 (zNil) E) E) E) E
theorem xe_134_2 : xf_134_2 = zEx xb_134_2 := by
  unfold xf_134_2 xb_134_2
  rfl
theorem xc_134_2 : zCd 134 [0, 68, 79, 87, 95, 103, 111, 122, 130, 141, 150, 159, 164] 79 xb_134_2 := zc_aload_n xj_134 80 0 rfl rfl zf_ald_0 (zc_getf xj_134 83 12 8 0 84 rfl rfl (zf_getf_0 _) (zc_getf xj_134 86 197 1 7 47 rfl rfl (zf_getf_7 _) (zc_ireturn0 xj_134 87 rfl rfl (trivial))))
noncomputable def xb_134_1 : List zF := [zq_aldg zG0, zq_getfg 8 zG0, zq_getfg 1 zG0, zq_calli 83 0 5 1, zq_iret 0]
noncomputable def xf_134_1 : zE → zKn := fun E => zq_aldg zG0 (zq_getfg 8 zG0 (zq_getfg 1 zG0 (zq_calli 83 0 5 1 (zq_iret 0 (zNil) E) E) E) E) E
theorem xe_134_1 : xf_134_1 = zEx xb_134_1 := by
  unfold xf_134_1 xb_134_1
  rfl
theorem xc_134_1 : zCd 134 [0, 68, 79, 87, 95, 103, 111, 122, 130, 141, 150, 159, 164] 68 xb_134_1 := zc_aload_n xj_134 69 0 rfl rfl zf_ald_0 (zc_getf xj_134 72 12 8 0 84 rfl rfl (zf_getf_0 _) (zc_getf xj_134 75 75 1 0 25 rfl rfl (zf_getf_0 _) (zc_invokevirtual1 xj_134 78 191 83 0 123 5 1 rfl rfl rfl rfl (zc_ireturn0 xj_134 79 rfl rfl (trivial)))))
noncomputable def xb_134_0 : List zF := [zq_ildg zG1, zq_tab 0 [68, 79, 87, 95, 103, 164, 111, 122, 130, 164, 141, 150, 159] 164]
noncomputable def xf_134_0 : zE → zKn := fun E => zq_ildg zG1 (zq_tab 0 [68, 79, 87, 95, 103, 164, 111, 122, 130, 164, 141, 150, 159] 164 (zNil) E) E
theorem xe_134_0 : xf_134_0 = zEx xb_134_0 := by
  unfold xf_134_0 xb_134_0
  rfl
theorem xc_134_0 : zCd 134 [0, 68, 79, 87, 95, 103, 111, 122, 130, 141, 150, 159, 164] 0 xb_134_0 := zc_iload_n xj_134 1 1 rfl rfl zf_ild_1 (zc_tab xj_134 2 163 0 12 #[67, 78, 86, 94, 102, 163, 110, 121, 129, 163, 140, 149, 158] 164 [68, 79, 87, 95, 103, 164, 111, 122, 130, 164, 141, 150, 159] 0 rfl rfl rfl rfl rfl (trivial))
noncomputable def xm_134 : Lean.RArray (zE → zKn) := .branch 111 (.branch 87 (.branch 68 (.leaf xf_134_0) (.branch 79 (.leaf xf_134_1) (.leaf xf_134_2))) (.branch 95 (.leaf xf_134_3) (.branch 103 (.leaf xf_134_4) (.leaf xf_134_5)))) (.branch 141 (.branch 122 (.leaf xf_134_6) (.branch 130 (.leaf xf_134_7) (.leaf xf_134_8))) (.branch 159 (.branch 150 (.leaf xf_134_9) (.leaf xf_134_10)) (.branch 164 (.leaf xf_134_11) (.leaf xf_134_12))))
theorem xa_134 : zCdAll 134 [0, 68, 79, 87, 95, 103, 111, 122, 130, 141, 150, 159, 164] xm_134 := zAll2_ok (P := fun t => ∃ c, zCd 134 [0, 68, 79, 87, 95, 103, 111, 122, 130, 141, 150, 159, 164] t c ∧ xm_134.get t = zEx c) ⟨⟨_, xc_134_0, xe_134_0⟩, ⟨_, xc_134_1, xe_134_1⟩, ⟨_, xc_134_2, xe_134_2⟩, ⟨_, xc_134_3, xe_134_3⟩, ⟨_, xc_134_4, xe_134_4⟩, ⟨_, xc_134_5, xe_134_5⟩, ⟨_, xc_134_6, xe_134_6⟩, ⟨_, xc_134_7, xe_134_7⟩, ⟨_, xc_134_8, xe_134_8⟩, ⟨_, xc_134_9, xe_134_9⟩, ⟨_, xc_134_10, xe_134_10⟩, ⟨_, xc_134_11, xe_134_11⟩, ⟨_, xc_134_12, xe_134_12⟩, trivial⟩
