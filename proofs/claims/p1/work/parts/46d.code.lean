/-! THE CODE OF EVERY METHOD AS LEAVES, with its proof. By program (wip/tools/mk46.py). -/
/-- SquareMeshModel.isBetween -/
theorem xj_203 : ∀ pc, pI 203 pc = pJ_203 pc := fun _ => rfl
noncomputable def xb_203_3 : List zF := [zq_iret 1]
noncomputable def xf_203_3 : zE → zKn := fun E => zq_iret 1 (zNil) E
theorem xe_203_3 : xf_203_3 = zEx xb_203_3 := by
  unfold xf_203_3 xb_203_3
  rfl
theorem xc_203_3 : zCd 203 [0, 14, 76, 77] 77 xb_203_3 := zc_ireturn1 xj_203 78 rfl rfl (trivial)
noncomputable def xb_203_2 : List zF := zq_k 0 :: xb_203_3
noncomputable def xf_203_2 : zE → zKn := fun E => zq_k 0 (xf_203_3 E) E
theorem xe_203_2 : xf_203_2 = zEx xb_203_2 := by
  unfold xf_203_2 xb_203_2
  rw [xe_203_3]
  rfl
theorem xc_203_2 : zCd 203 [0, 14, 76, 77] 76 xb_203_2 := zc_iconst xj_203 77 0 0 rfl rfl rfl (xc_203_3)
noncomputable def xb_203_1 : List zF := [zq_aldg zG0, zq_ildg zG2, zN1 192 2 zg_192, zq_aldg zG0, zq_ildg zG1, zN1 192 2 zg_192, zq_sub, zq_ildg zG3, zq_aldg zG0, zq_ildg zG1, zN1 192 2 zg_192, zq_sub, zq_mul, zq_aldg zG0, zq_ildg zG2, zN1 193 2 zg_193, zq_aldg zG0, zq_ildg zG1, zN1 193 2 zg_193, zq_sub, zq_ildg zG4, zq_aldg zG0, zq_ildg zG1, zN1 193 2 zg_193, zq_sub, zq_mul, zq_add, zq_istg zE5, zq_ildg zG5, zq_if_le 76, zq_ildg zG5, zq_aldg zG0, zq_ildg zG1, zq_ildg zG2, zq_calli 204 2 9 3, zq_ic_ge 76, zq_k 1, zq_goto 77]
noncomputable def xf_203_1 : zE → zKn := fun E => zq_aldg zG0 (zq_ildg zG2 (zN1 192 2 zg_192 (zq_aldg zG0 (zq_ildg zG1 (zN1 192 2 zg_192 (zq_sub (zq_ildg zG3 (zq_aldg zG0 (zq_ildg zG1 (zN1 192 2 zg_192 (zq_sub (zq_mul (zq_aldg zG0 (zq_ildg zG2 (zN1 193 2 zg_193 (zq_aldg zG0 (zq_ildg zG1 (zN1 193 2 zg_193 (zq_sub (zq_ildg zG4 (zq_aldg zG0 (zq_ildg zG1 (zN1 193 2 zg_193 (zq_sub (zq_mul (zq_add (zq_istg zE5 (zq_ildg zG5 (zq_if_le 76 (zq_ildg zG5 (zq_aldg zG0 (zq_ildg zG1 (zq_ildg zG2 (zq_calli 204 2 9 3 (zq_ic_ge 76 (zq_k 1 (zq_goto 77 (zNil) E) E) E) E) E) E) E) E) E) E) E) E) E) E) E) E) E) E) E) E) E) E) E) E) E) E) E) E) E) E) E) E) E) E) E) E) E) E
set_option maxRecDepth 100000 in
theorem xe_203_1 : xf_203_1 = zEx xb_203_1 := by
  unfold xf_203_1 xb_203_1
  rfl
theorem xc_203_1 : zCd 203 [0, 14, 76, 77] 14 xb_203_1 := zc_aload_n xj_203 15 0 rfl rfl zf_ald_0 (zc_iload_n xj_203 16 2 rfl rfl zf_ild_2 (zc_any xj_203 19 (.invokevirtual 75) [1, 192, 1, 260, 9, 2] rfl rfl (zN1 192 2 zg_192) rfl rfl (zc_aload_n xj_203 20 0 rfl rfl zf_ald_0 (zc_iload_n xj_203 21 1 rfl rfl zf_ild_1 (zc_any xj_203 24 (.invokevirtual 75) [1, 192, 1, 260, 9, 2] rfl rfl (zN1 192 2 zg_192) rfl rfl (zc_isub xj_203 25 rfl rfl (zc_iload_n xj_203 26 3 rfl rfl zf_ild_3 (zc_aload_n xj_203 27 0 rfl rfl zf_ald_0 (zc_iload_n xj_203 28 1 rfl rfl zf_ild_1 (zc_any xj_203 31 (.invokevirtual 75) [1, 192, 1, 260, 9, 2] rfl rfl (zN1 192 2 zg_192) rfl rfl (zc_isub xj_203 32 rfl rfl (zc_imul xj_203 33 rfl rfl (zc_aload_n xj_203 34 0 rfl rfl zf_ald_0 (zc_iload_n xj_203 35 2 rfl rfl zf_ild_2 (zc_any xj_203 38 (.invokevirtual 79) [1, 193, 1, 261, 9, 2] rfl rfl (zN1 193 2 zg_193) rfl rfl (zc_aload_n xj_203 39 0 rfl rfl zf_ald_0 (zc_iload_n xj_203 40 1 rfl rfl zf_ild_1 (zc_any xj_203 43 (.invokevirtual 79) [1, 193, 1, 261, 9, 2] rfl rfl (zN1 193 2 zg_193) rfl rfl (zc_isub xj_203 44 rfl rfl (zc_iload xj_203 46 4 rfl rfl zf_ild_4 (zc_aload_n xj_203 47 0 rfl rfl zf_ald_0 (zc_iload_n xj_203 48 1 rfl rfl zf_ild_1 (zc_any xj_203 51 (.invokevirtual 79) [1, 193, 1, 261, 9, 2] rfl rfl (zN1 193 2 zg_193) rfl rfl (zc_isub xj_203 52 rfl rfl (zc_imul xj_203 53 rfl rfl (zc_iadd xj_203 54 rfl rfl (zc_istore xj_203 56 5 rfl rfl zf_ist_5 (zc_iload xj_203 58 5 rfl rfl zf_ild_5 (zc_if_le xj_203 61 18 76 rfl rfl rfl (zc_iload xj_203 63 5 rfl rfl zf_ild_5 (zc_aload_n xj_203 64 0 rfl rfl zf_ald_0 (zc_iload_n xj_203 65 1 rfl rfl zf_ild_1 (zc_iload_n xj_203 66 2 rfl rfl zf_ild_2 (zc_invokevirtual1 xj_203 69 86 204 2 270 9 3 rfl rfl rfl rfl (zc_ic_ge xj_203 72 7 76 rfl rfl rfl (zc_iconst xj_203 73 1 1 rfl rfl rfl (zc_goto xj_203 74 4 77 rfl rfl rfl (trivial))))))))))))))))))))))))))))))))))))))
noncomputable def xb_203_0 : List zF := [zq_aldg zG0, zq_ildg zG1, zq_ildg zG2, zq_ildg zG3, zq_ildg zG4, zq_calli 201 4 9 5, zq_if_eq 14, zq_k 0, zq_iret 1]
noncomputable def xf_203_0 : zE → zKn := fun E => zq_aldg zG0 (zq_ildg zG1 (zq_ildg zG2 (zq_ildg zG3 (zq_ildg zG4 (zq_calli 201 4 9 5 (zq_if_eq 14 (zq_k 0 (zq_iret 1 (zNil) E) E) E) E) E) E) E) E) E
theorem xe_203_0 : xf_203_0 = zEx xb_203_0 := by
  unfold xf_203_0 xb_203_0
  rfl
theorem xc_203_0 : zCd 203 [0, 14, 76, 77] 0 xb_203_0 := zc_aload_n xj_203 1 0 rfl rfl zf_ald_0 (zc_iload_n xj_203 2 1 rfl rfl zf_ild_1 (zc_iload_n xj_203 3 2 rfl rfl zf_ild_2 (zc_iload_n xj_203 4 3 rfl rfl zf_ild_3 (zc_iload xj_203 6 4 rfl rfl zf_ild_4 (zc_invokevirtual1 xj_203 9 82 201 4 259 9 5 rfl rfl rfl rfl (zc_if_eq xj_203 12 5 14 rfl rfl rfl (zc_iconst xj_203 13 0 0 rfl rfl rfl (zc_ireturn1 xj_203 14 rfl rfl (trivial)))))))))
noncomputable def xm_203 : Lean.RArray (zE → zKn) := .branch 76 (.branch 14 (.leaf xf_203_0) (.leaf xf_203_1)) (.branch 77 (.leaf xf_203_2) (.leaf xf_203_3))
theorem xa_203 : zCdAll 203 [0, 14, 76, 77] xm_203 := zAll2_ok (P := fun t => ∃ c, zCd 203 [0, 14, 76, 77] t c ∧ xm_203.get t = zEx c) ⟨⟨_, xc_203_0, xe_203_0⟩, ⟨_, xc_203_1, xe_203_1⟩, ⟨_, xc_203_2, xe_203_2⟩, ⟨_, xc_203_3, xe_203_3⟩, trivial⟩
/-- SquareMeshModel.squareOf -/
theorem xj_204 : ∀ pc, pI 204 pc = pJ_204 pc := fun _ => rfl
noncomputable def xb_204_0 : List zF := [zq_aldg zG0, zq_ildg zG2, zN1 192 2 zg_192, zq_aldg zG0, zq_ildg zG1, zN1 192 2 zg_192, zq_sub, zq_aldg zG0, zq_ildg zG2, zN1 192 2 zg_192, zq_aldg zG0, zq_ildg zG1, zN1 192 2 zg_192, zq_sub, zq_mul, zq_aldg zG0, zq_ildg zG2, zN1 193 2 zg_193, zq_aldg zG0, zq_ildg zG1, zN1 193 2 zg_193, zq_sub, zq_aldg zG0, zq_ildg zG2, zN1 193 2 zg_193, zq_aldg zG0, zq_ildg zG1, zN1 193 2 zg_193, zq_sub, zq_mul, zq_add, zq_iret 0]
noncomputable def xf_204_0 : zE → zKn := fun E => zq_aldg zG0 (zq_ildg zG2 (zN1 192 2 zg_192 (zq_aldg zG0 (zq_ildg zG1 (zN1 192 2 zg_192 (zq_sub (zq_aldg zG0 (zq_ildg zG2 (zN1 192 2 zg_192 (zq_aldg zG0 (zq_ildg zG1 (zN1 192 2 zg_192 (zq_sub (zq_mul (zq_aldg zG0 (zq_ildg zG2 (zN1 193 2 zg_193 (zq_aldg zG0 (zq_ildg zG1 (zN1 193 2 zg_193 (zq_sub (zq_aldg zG0 (zq_ildg zG2 (zN1 193 2 zg_193 (zq_aldg zG0 (zq_ildg zG1 (zN1 193 2 zg_193 (zq_sub (zq_mul (zq_add (zq_iret 0 (zNil) E) E) E) E) E) E) E) E) E) E) E) E) E) E) E) E) E) E) E) E) E) E) E) E) E) E) E) E) E) E) E) E
set_option maxRecDepth 100000 in
theorem xe_204_0 : xf_204_0 = zEx xb_204_0 := by
  unfold xf_204_0 xb_204_0
  rfl
theorem xc_204_0 : zCd 204 [0] 0 xb_204_0 := zc_aload_n xj_204 1 0 rfl rfl zf_ald_0 (zc_iload_n xj_204 2 2 rfl rfl zf_ild_2 (zc_any xj_204 5 (.invokevirtual 75) [1, 192, 1, 260, 9, 2] rfl rfl (zN1 192 2 zg_192) rfl rfl (zc_aload_n xj_204 6 0 rfl rfl zf_ald_0 (zc_iload_n xj_204 7 1 rfl rfl zf_ild_1 (zc_any xj_204 10 (.invokevirtual 75) [1, 192, 1, 260, 9, 2] rfl rfl (zN1 192 2 zg_192) rfl rfl (zc_isub xj_204 11 rfl rfl (zc_aload_n xj_204 12 0 rfl rfl zf_ald_0 (zc_iload_n xj_204 13 2 rfl rfl zf_ild_2 (zc_any xj_204 16 (.invokevirtual 75) [1, 192, 1, 260, 9, 2] rfl rfl (zN1 192 2 zg_192) rfl rfl (zc_aload_n xj_204 17 0 rfl rfl zf_ald_0 (zc_iload_n xj_204 18 1 rfl rfl zf_ild_1 (zc_any xj_204 21 (.invokevirtual 75) [1, 192, 1, 260, 9, 2] rfl rfl (zN1 192 2 zg_192) rfl rfl (zc_isub xj_204 22 rfl rfl (zc_imul xj_204 23 rfl rfl (zc_aload_n xj_204 24 0 rfl rfl zf_ald_0 (zc_iload_n xj_204 25 2 rfl rfl zf_ild_2 (zc_any xj_204 28 (.invokevirtual 79) [1, 193, 1, 261, 9, 2] rfl rfl (zN1 193 2 zg_193) rfl rfl (zc_aload_n xj_204 29 0 rfl rfl zf_ald_0 (zc_iload_n xj_204 30 1 rfl rfl zf_ild_1 (zc_any xj_204 33 (.invokevirtual 79) [1, 193, 1, 261, 9, 2] rfl rfl (zN1 193 2 zg_193) rfl rfl (zc_isub xj_204 34 rfl rfl (zc_aload_n xj_204 35 0 rfl rfl zf_ald_0 (zc_iload_n xj_204 36 2 rfl rfl zf_ild_2 (zc_any xj_204 39 (.invokevirtual 79) [1, 193, 1, 261, 9, 2] rfl rfl (zN1 193 2 zg_193) rfl rfl (zc_aload_n xj_204 40 0 rfl rfl zf_ald_0 (zc_iload_n xj_204 41 1 rfl rfl zf_ild_1 (zc_any xj_204 44 (.invokevirtual 79) [1, 193, 1, 261, 9, 2] rfl rfl (zN1 193 2 zg_193) rfl rfl (zc_isub xj_204 45 rfl rfl (zc_imul xj_204 46 rfl rfl (zc_iadd xj_204 47 rfl rfl (zc_ireturn0 xj_204 48 rfl rfl (trivial))))))))))))))))))))))))))))))))
noncomputable def xm_204 : Lean.RArray (zE → zKn) := .leaf xf_204_0
theorem xa_204 : zCdAll 204 [0] xm_204 := zAll2_ok (P := fun t => ∃ c, zCd 204 [0] t c ∧ xm_204.get t = zEx c) ⟨⟨_, xc_204_0, xe_204_0⟩, trivial⟩
/-- SquareMeshModel.areApart -/
theorem xj_205 : ∀ pc, pI 205 pc = pJ_205 pc := fun _ => rfl
noncomputable def xb_205_4 : List zF := [zq_iret 1]
noncomputable def xf_205_4 : zE → zKn := fun E => zq_iret 1 (zNil) E
theorem xe_205_4 : xf_205_4 = zEx xb_205_4 := by
  unfold xf_205_4 xb_205_4
  rfl
theorem xc_205_4 : zCd 205 [0, 8, 16, 20, 21] 21 xb_205_4 := zc_ireturn1 xj_205 22 rfl rfl (trivial)
noncomputable def xb_205_3 : List zF := zq_k 0 :: xb_205_4
noncomputable def xf_205_3 : zE → zKn := fun E => zq_k 0 (xf_205_4 E) E
theorem xe_205_3 : xf_205_3 = zEx xb_205_3 := by
  unfold xf_205_3 xb_205_3
  rw [xe_205_4]
  rfl
theorem xc_205_3 : zCd 205 [0, 8, 16, 20, 21] 20 xb_205_3 := zc_iconst xj_205 21 0 0 rfl rfl rfl (xc_205_4)
noncomputable def xb_205_2 : List zF := [zq_k 1, zq_goto 21]
noncomputable def xf_205_2 : zE → zKn := fun E => zq_k 1 (zq_goto 21 (zNil) E) E
theorem xe_205_2 : xf_205_2 = zEx xb_205_2 := by
  unfold xf_205_2 xb_205_2
  rfl
theorem xc_205_2 : zCd 205 [0, 8, 16, 20, 21] 16 xb_205_2 := zc_iconst xj_205 17 1 1 rfl rfl rfl (zc_goto xj_205 18 4 21 rfl rfl rfl (trivial))
noncomputable def xb_205_1 : List zF := zq_ildg zG0 :: zq_if_ge 20 :: zq_ildg zG1 :: zq_if_le 20 :: xb_205_2
noncomputable def xf_205_1 : zE → zKn := fun E => zq_ildg zG0 (zq_if_ge 20 (zq_ildg zG1 (zq_if_le 20 (xf_205_2 E) E) E) E) E
theorem xe_205_1 : xf_205_1 = zEx xb_205_1 := by
  unfold xf_205_1 xb_205_1
  rw [xe_205_2]
  rfl
theorem xc_205_1 : zCd 205 [0, 8, 16, 20, 21] 8 xb_205_1 := zc_iload_n xj_205 9 0 rfl rfl zf_ild_0 (zc_if_ge xj_205 12 11 20 rfl rfl rfl (zc_iload_n xj_205 13 1 rfl rfl zf_ild_1 (zc_if_le xj_205 16 7 20 rfl rfl rfl (xc_205_2))))
noncomputable def xb_205_0 : List zF := zq_ildg zG0 :: zq_if_le 8 :: zq_ildg zG1 :: zq_if_lt 16 :: xb_205_1
noncomputable def xf_205_0 : zE → zKn := fun E => zq_ildg zG0 (zq_if_le 8 (zq_ildg zG1 (zq_if_lt 16 (xf_205_1 E) E) E) E) E
theorem xe_205_0 : xf_205_0 = zEx xb_205_0 := by
  unfold xf_205_0 xb_205_0
  rw [xe_205_1]
  rfl
theorem xc_205_0 : zCd 205 [0, 8, 16, 20, 21] 0 xb_205_0 := zc_iload_n xj_205 1 0 rfl rfl zf_ild_0 (zc_if_le xj_205 4 7 8 rfl rfl rfl (zc_iload_n xj_205 5 1 rfl rfl zf_ild_1 (zc_if_lt xj_205 8 11 16 rfl rfl rfl (xc_205_1))))
noncomputable def xm_205 : Lean.RArray (zE → zKn) := .branch 16 (.branch 8 (.leaf xf_205_0) (.leaf xf_205_1)) (.branch 20 (.leaf xf_205_2) (.branch 21 (.leaf xf_205_3) (.leaf xf_205_4)))
theorem xa_205 : zCdAll 205 [0, 8, 16, 20, 21] xm_205 := zAll2_ok (P := fun t => ∃ c, zCd 205 [0, 8, 16, 20, 21] t c ∧ xm_205.get t = zEx c) ⟨⟨_, xc_205_0, xe_205_0⟩, ⟨_, xc_205_1, xe_205_1⟩, ⟨_, xc_205_2, xe_205_2⟩, ⟨_, xc_205_3, xe_205_3⟩, ⟨_, xc_205_4, xe_205_4⟩, trivial⟩
/-- SquareMeshModel.crosses -/
theorem xj_206 : ∀ pc, pI 206 pc = pJ_206 pc := fun _ => rfl
noncomputable def xb_206_2 : List zF := [zq_iret 1]
noncomputable def xf_206_2 : zE → zKn := fun E => zq_iret 1 (zNil) E
theorem xe_206_2 : xf_206_2 = zEx xb_206_2 := by
  unfold xf_206_2 xb_206_2
  rfl
theorem xc_206_2 : zCd 206 [0, 47, 48] 48 xb_206_2 := zc_ireturn1 xj_206 49 rfl rfl (trivial)
noncomputable def xb_206_1 : List zF := zq_k 0 :: xb_206_2
noncomputable def xf_206_1 : zE → zKn := fun E => zq_k 0 (xf_206_2 E) E
theorem xe_206_1 : xf_206_1 = zEx xb_206_1 := by
  unfold xf_206_1 xb_206_1
  rw [xe_206_2]
  rfl
theorem xc_206_1 : zCd 206 [0, 47, 48] 47 xb_206_1 := zc_iconst xj_206 48 0 0 rfl rfl rfl (xc_206_2)
noncomputable def xb_206_0 : List zF := [zq_aldg zG0, zq_ildg zG1, zq_ildg zG2, zq_ildg zG3, zq_calli 202 3 9 4, zq_aldg zG0, zq_ildg zG1, zq_ildg zG2, zq_ildg zG4, zq_calli 202 3 9 4, zq_calls 205 2 2, zq_if_eq 47, zq_aldg zG0, zq_ildg zG3, zq_ildg zG4, zq_ildg zG1, zq_calli 202 3 9 4, zq_aldg zG0, zq_ildg zG3, zq_ildg zG4, zq_ildg zG2, zq_calli 202 3 9 4, zq_calls 205 2 2, zq_if_eq 47, zq_k 1, zq_goto 48]
noncomputable def xf_206_0 : zE → zKn := fun E => zq_aldg zG0 (zq_ildg zG1 (zq_ildg zG2 (zq_ildg zG3 (zq_calli 202 3 9 4 (zq_aldg zG0 (zq_ildg zG1 (zq_ildg zG2 (zq_ildg zG4 (zq_calli 202 3 9 4 (zq_calls 205 2 2 (zq_if_eq 47 (zq_aldg zG0 (zq_ildg zG3 (zq_ildg zG4 (zq_ildg zG1 (zq_calli 202 3 9 4 (zq_aldg zG0 (zq_ildg zG3 (zq_ildg zG4 (zq_ildg zG2 (zq_calli 202 3 9 4 (zq_calls 205 2 2 (zq_if_eq 47 (zq_k 1 (zq_goto 48 (zNil) E) E) E) E) E) E) E) E) E) E) E) E) E) E) E) E) E) E) E) E) E) E) E) E) E) E
theorem xe_206_0 : xf_206_0 = zEx xb_206_0 := by
  unfold xf_206_0 xb_206_0
  rfl
theorem xc_206_0 : zCd 206 [0, 47, 48] 0 xb_206_0 := zc_aload_n xj_206 1 0 rfl rfl zf_ald_0 (zc_iload_n xj_206 2 1 rfl rfl zf_ild_1 (zc_iload_n xj_206 3 2 rfl rfl zf_ild_2 (zc_iload_n xj_206 4 3 rfl rfl zf_ild_3 (zc_invokevirtual1 xj_206 7 90 202 3 266 9 4 rfl rfl rfl rfl (zc_aload_n xj_206 8 0 rfl rfl zf_ald_0 (zc_iload_n xj_206 9 1 rfl rfl zf_ild_1 (zc_iload_n xj_206 10 2 rfl rfl zf_ild_2 (zc_iload xj_206 12 4 rfl rfl zf_ild_4 (zc_invokevirtual1 xj_206 15 90 202 3 266 9 4 rfl rfl rfl rfl (zc_invokestatic2 xj_206 18 94 205 2 273 0 2 rfl rfl rfl rfl (zc_if_eq xj_206 21 29 47 rfl rfl rfl (zc_aload_n xj_206 22 0 rfl rfl zf_ald_0 (zc_iload_n xj_206 23 3 rfl rfl zf_ild_3 (zc_iload xj_206 25 4 rfl rfl zf_ild_4 (zc_iload_n xj_206 26 1 rfl rfl zf_ild_1 (zc_invokevirtual1 xj_206 29 90 202 3 266 9 4 rfl rfl rfl rfl (zc_aload_n xj_206 30 0 rfl rfl zf_ald_0 (zc_iload_n xj_206 31 3 rfl rfl zf_ild_3 (zc_iload xj_206 33 4 rfl rfl zf_ild_4 (zc_iload_n xj_206 34 2 rfl rfl zf_ild_2 (zc_invokevirtual1 xj_206 37 90 202 3 266 9 4 rfl rfl rfl rfl (zc_invokestatic2 xj_206 40 94 205 2 273 0 2 rfl rfl rfl rfl (zc_if_eq xj_206 43 7 47 rfl rfl rfl (zc_iconst xj_206 44 1 1 rfl rfl rfl (zc_goto xj_206 45 4 48 rfl rfl rfl (trivial))))))))))))))))))))))))))
noncomputable def xm_206 : Lean.RArray (zE → zKn) := .branch 47 (.leaf xf_206_0) (.branch 48 (.leaf xf_206_1) (.leaf xf_206_2))
theorem xa_206 : zCdAll 206 [0, 47, 48] xm_206 := zAll2_ok (P := fun t => ∃ c, zCd 206 [0, 47, 48] t c ∧ xm_206.get t = zEx c) ⟨⟨_, xc_206_0, xe_206_0⟩, ⟨_, xc_206_1, xe_206_1⟩, ⟨_, xc_206_2, xe_206_2⟩, trivial⟩
/-- SquareMeshModel.isClear -/
theorem xj_207 : ∀ pc, pI 207 pc = pJ_207 pc := fun _ => rfl
noncomputable def xb_207_3 : List zF := [zq_k 1, zq_iret 1]
noncomputable def xf_207_3 : zE → zKn := fun E => zq_k 1 (zq_iret 1 (zNil) E) E
theorem xe_207_3 : xf_207_3 = zEx xb_207_3 := by
  unfold xf_207_3 xb_207_3
  rfl
theorem xc_207_3 : zCd 207 [0, 2, 47, 53] 53 xb_207_3 := zc_iconst xj_207 54 1 1 rfl rfl rfl (zc_ireturn1 xj_207 55 rfl rfl (trivial))
noncomputable def xb_207_2 : List zF := [zq_incg zG3 zE3 1, zq_goto 2]
noncomputable def xf_207_2 : zE → zKn := fun E => zq_incg zG3 zE3 1 (zq_goto 2 (zNil) E) E
theorem xe_207_2 : xf_207_2 = zEx xb_207_2 := by
  unfold xf_207_2 xb_207_2
  rfl
theorem xc_207_2 : zCd 207 [0, 2, 47, 53] 47 xb_207_2 := zc_iinc xj_207 50 3 1 1 rfl rfl rfl (zf_inc_3 _) (zc_goto xj_207 51 (-48) 2 rfl rfl rfl (trivial))
noncomputable def xb_207_1 : List zF := [zq_ildg zG3, zq_k 40, zq_ic_ge 53, zq_aldg zG0, zq_ildg zG3, zN1 191 2 zg_191, zq_if_eq 47, zq_ildg zG3, zq_ildg zG1, zq_ic_eq 47, zq_ildg zG3, zq_ildg zG2, zq_ic_eq 47, zq_aldg zG0, zq_ildg zG1, zq_ildg zG2, zq_aldg zG0, zq_ildg zG3, zN1 192 2 zg_192, zq_aldg zG0, zq_ildg zG3, zN1 193 2 zg_193, zq_calli 203 4 9 6, zq_if_eq 47, zq_k 0, zq_iret 1]
noncomputable def xf_207_1 : zE → zKn := fun E => zq_ildg zG3 (zq_k 40 (zq_ic_ge 53 (zq_aldg zG0 (zq_ildg zG3 (zN1 191 2 zg_191 (zq_if_eq 47 (zq_ildg zG3 (zq_ildg zG1 (zq_ic_eq 47 (zq_ildg zG3 (zq_ildg zG2 (zq_ic_eq 47 (zq_aldg zG0 (zq_ildg zG1 (zq_ildg zG2 (zq_aldg zG0 (zq_ildg zG3 (zN1 192 2 zg_192 (zq_aldg zG0 (zq_ildg zG3 (zN1 193 2 zg_193 (zq_calli 203 4 9 6 (zq_if_eq 47 (zq_k 0 (zq_iret 1 (zNil) E) E) E) E) E) E) E) E) E) E) E) E) E) E) E) E) E) E) E) E) E) E) E) E) E) E
theorem xe_207_1 : xf_207_1 = zEx xb_207_1 := by
  unfold xf_207_1 xb_207_1
  rfl
theorem xc_207_1 : zCd 207 [0, 2, 47, 53] 2 xb_207_1 := zc_iload_n xj_207 3 3 rfl rfl zf_ild_3 (zc_bipush xj_207 5 40 40 rfl rfl rfl (zc_ic_ge xj_207 8 48 53 rfl rfl rfl (zc_aload_n xj_207 9 0 rfl rfl zf_ald_0 (zc_iload_n xj_207 10 3 rfl rfl zf_ild_3 (zc_any xj_207 13 (.invokevirtual 71) [1, 191, 1, 264, 9, 2] rfl rfl (zN1 191 2 zg_191) rfl rfl (zc_if_eq xj_207 16 34 47 rfl rfl rfl (zc_iload_n xj_207 17 3 rfl rfl zf_ild_3 (zc_iload_n xj_207 18 1 rfl rfl zf_ild_1 (zc_ic_eq xj_207 21 29 47 rfl rfl rfl (zc_iload_n xj_207 22 3 rfl rfl zf_ild_3 (zc_iload_n xj_207 23 2 rfl rfl zf_ild_2 (zc_ic_eq xj_207 26 24 47 rfl rfl rfl (zc_aload_n xj_207 27 0 rfl rfl zf_ald_0 (zc_iload_n xj_207 28 1 rfl rfl zf_ild_1 (zc_iload_n xj_207 29 2 rfl rfl zf_ild_2 (zc_aload_n xj_207 30 0 rfl rfl zf_ald_0 (zc_iload_n xj_207 31 3 rfl rfl zf_ild_3 (zc_any xj_207 34 (.invokevirtual 75) [1, 192, 1, 260, 9, 2] rfl rfl (zN1 192 2 zg_192) rfl rfl (zc_aload_n xj_207 35 0 rfl rfl zf_ald_0 (zc_iload_n xj_207 36 3 rfl rfl zf_ild_3 (zc_any xj_207 39 (.invokevirtual 79) [1, 193, 1, 261, 9, 2] rfl rfl (zN1 193 2 zg_193) rfl rfl (zc_invokevirtual1 xj_207 42 98 203 4 269 9 6 rfl rfl rfl rfl (zc_if_eq xj_207 45 5 47 rfl rfl rfl (zc_iconst xj_207 46 0 0 rfl rfl rfl (zc_ireturn1 xj_207 47 rfl rfl (trivial))))))))))))))))))))))))))
noncomputable def xb_207_0 : List zF := zq_k 0 :: zq_istg zE3 :: xb_207_1
noncomputable def xf_207_0 : zE → zKn := fun E => zq_k 0 (zq_istg zE3 (xf_207_1 E) E) E
theorem xe_207_0 : xf_207_0 = zEx xb_207_0 := by
  unfold xf_207_0 xb_207_0
  rw [xe_207_1]
  rfl
theorem xc_207_0 : zCd 207 [0, 2, 47, 53] 0 xb_207_0 := zc_iconst xj_207 1 0 0 rfl rfl rfl (zc_istore_n xj_207 2 3 rfl rfl zf_ist_3 (xc_207_1))
noncomputable def xm_207 : Lean.RArray (zE → zKn) := .branch 47 (.branch 2 (.leaf xf_207_0) (.leaf xf_207_1)) (.branch 53 (.leaf xf_207_2) (.leaf xf_207_3))
theorem xa_207 : zCdAll 207 [0, 2, 47, 53] xm_207 := zAll2_ok (P := fun t => ∃ c, zCd 207 [0, 2, 47, 53] t c ∧ xm_207.get t = zEx c) ⟨⟨_, xc_207_0, xe_207_0⟩, ⟨_, xc_207_1, xe_207_1⟩, ⟨_, xc_207_2, xe_207_2⟩, ⟨_, xc_207_3, xe_207_3⟩, trivial⟩
/-- SquareMeshModel.isUncut -/
theorem xj_208 : ∀ pc, pI 208 pc = pJ_208 pc := fun _ => rfl
noncomputable def xb_208_5 : List zF := [zq_k 1, zq_iret 1]
noncomputable def xf_208_5 : zE → zKn := fun E => zq_k 1 (zq_iret 1 (zNil) E) E
theorem xe_208_5 : xf_208_5 = zEx xb_208_5 := by
  unfold xf_208_5 xb_208_5
  rfl
theorem xc_208_5 : zCd 208 [0, 2, 11, 41, 47, 53] 53 xb_208_5 := zc_iconst xj_208 54 1 1 rfl rfl rfl (zc_ireturn1 xj_208 55 rfl rfl (trivial))
noncomputable def xb_208_4 : List zF := [zq_incg zG3 zE3 1, zq_goto 2]
noncomputable def xf_208_4 : zE → zKn := fun E => zq_incg zG3 zE3 1 (zq_goto 2 (zNil) E) E
theorem xe_208_4 : xf_208_4 = zEx xb_208_4 := by
  unfold xf_208_4 xb_208_4
  rfl
theorem xc_208_4 : zCd 208 [0, 2, 11, 41, 47, 53] 47 xb_208_4 := zc_iinc xj_208 50 3 1 1 rfl rfl rfl (zf_inc_3 _) (zc_goto xj_208 51 (-48) 2 rfl rfl rfl (trivial))
noncomputable def xb_208_3 : List zF := [zq_incg zG4 zE4 1, zq_goto 11]
noncomputable def xf_208_3 : zE → zKn := fun E => zq_incg zG4 zE4 1 (zq_goto 11 (zNil) E) E
theorem xe_208_3 : xf_208_3 = zEx xb_208_3 := by
  unfold xf_208_3 xb_208_3
  rfl
theorem xc_208_3 : zCd 208 [0, 2, 11, 41, 47, 53] 41 xb_208_3 := zc_iinc xj_208 44 4 1 1 rfl rfl rfl (zf_inc_4 _) (zc_goto xj_208 45 (-33) 11 rfl rfl rfl (trivial))
noncomputable def xb_208_2 : List zF := [zq_ildg zG4, zq_ildg zG3, zq_ic_ge 47, zq_aldg zG0, zq_ildg zG3, zq_ildg zG4, zN2 196 3 zg_196, zq_if_eq 41, zq_aldg zG0, zq_ildg zG1, zq_ildg zG2, zq_ildg zG3, zq_ildg zG4, zq_calli 206 4 9 5, zq_if_eq 41, zq_k 0, zq_iret 1]
noncomputable def xf_208_2 : zE → zKn := fun E => zq_ildg zG4 (zq_ildg zG3 (zq_ic_ge 47 (zq_aldg zG0 (zq_ildg zG3 (zq_ildg zG4 (zN2 196 3 zg_196 (zq_if_eq 41 (zq_aldg zG0 (zq_ildg zG1 (zq_ildg zG2 (zq_ildg zG3 (zq_ildg zG4 (zq_calli 206 4 9 5 (zq_if_eq 41 (zq_k 0 (zq_iret 1 (zNil) E) E) E) E) E) E) E) E) E) E) E) E) E) E) E) E) E
theorem xe_208_2 : xf_208_2 = zEx xb_208_2 := by
  unfold xf_208_2 xb_208_2
  rfl
theorem xc_208_2 : zCd 208 [0, 2, 11, 41, 47, 53] 11 xb_208_2 := zc_iload xj_208 13 4 rfl rfl zf_ild_4 (zc_iload_n xj_208 14 3 rfl rfl zf_ild_3 (zc_ic_ge xj_208 17 33 47 rfl rfl rfl (zc_aload_n xj_208 18 0 rfl rfl zf_ald_0 (zc_iload_n xj_208 19 3 rfl rfl zf_ild_3 (zc_iload xj_208 21 4 rfl rfl zf_ild_4 (zc_any xj_208 24 (.invokevirtual 102) [1, 196, 2, 258, 9, 3] rfl rfl (zN2 196 3 zg_196) rfl rfl (zc_if_eq xj_208 27 17 41 rfl rfl rfl (zc_aload_n xj_208 28 0 rfl rfl zf_ald_0 (zc_iload_n xj_208 29 1 rfl rfl zf_ild_1 (zc_iload_n xj_208 30 2 rfl rfl zf_ild_2 (zc_iload_n xj_208 31 3 rfl rfl zf_ild_3 (zc_iload xj_208 33 4 rfl rfl zf_ild_4 (zc_invokevirtual1 xj_208 36 105 206 4 272 9 5 rfl rfl rfl rfl (zc_if_eq xj_208 39 5 41 rfl rfl rfl (zc_iconst xj_208 40 0 0 rfl rfl rfl (zc_ireturn1 xj_208 41 rfl rfl (trivial)))))))))))))))))
noncomputable def xb_208_1 : List zF := zq_ildg zG3 :: zq_k 40 :: zq_ic_ge 53 :: zq_k 0 :: zq_istg zE4 :: xb_208_2
noncomputable def xf_208_1 : zE → zKn := fun E => zq_ildg zG3 (zq_k 40 (zq_ic_ge 53 (zq_k 0 (zq_istg zE4 (xf_208_2 E) E) E) E) E) E
theorem xe_208_1 : xf_208_1 = zEx xb_208_1 := by
  unfold xf_208_1 xb_208_1
  rw [xe_208_2]
  rfl
theorem xc_208_1 : zCd 208 [0, 2, 11, 41, 47, 53] 2 xb_208_1 := zc_iload_n xj_208 3 3 rfl rfl zf_ild_3 (zc_bipush xj_208 5 40 40 rfl rfl rfl (zc_ic_ge xj_208 8 48 53 rfl rfl rfl (zc_iconst xj_208 9 0 0 rfl rfl rfl (zc_istore xj_208 11 4 rfl rfl zf_ist_4 (xc_208_2)))))
noncomputable def xb_208_0 : List zF := zq_k 0 :: zq_istg zE3 :: xb_208_1
noncomputable def xf_208_0 : zE → zKn := fun E => zq_k 0 (zq_istg zE3 (xf_208_1 E) E) E
theorem xe_208_0 : xf_208_0 = zEx xb_208_0 := by
  unfold xf_208_0 xb_208_0
  rw [xe_208_1]
  rfl
theorem xc_208_0 : zCd 208 [0, 2, 11, 41, 47, 53] 0 xb_208_0 := zc_iconst xj_208 1 0 0 rfl rfl rfl (zc_istore_n xj_208 2 3 rfl rfl zf_ist_3 (xc_208_1))
noncomputable def xm_208 : Lean.RArray (zE → zKn) := .branch 41 (.branch 2 (.leaf xf_208_0) (.branch 11 (.leaf xf_208_1) (.leaf xf_208_2))) (.branch 47 (.leaf xf_208_3) (.branch 53 (.leaf xf_208_4) (.leaf xf_208_5)))
theorem xa_208 : zCdAll 208 [0, 2, 11, 41, 47, 53] xm_208 := zAll2_ok (P := fun t => ∃ c, zCd 208 [0, 2, 11, 41, 47, 53] t c ∧ xm_208.get t = zEx c) ⟨⟨_, xc_208_0, xe_208_0⟩, ⟨_, xc_208_1, xe_208_1⟩, ⟨_, xc_208_2, xe_208_2⟩, ⟨_, xc_208_3, xe_208_3⟩, ⟨_, xc_208_4, xe_208_4⟩, ⟨_, xc_208_5, xe_208_5⟩, trivial⟩
/-- SquareMeshModel.seesNow -/
theorem xj_209 : ∀ pc, pI 209 pc = pJ_209 pc := fun _ => rfl
noncomputable def xb_209_2 : List zF := [zq_iret 1]
noncomputable def xf_209_2 : zE → zKn := fun E => zq_iret 1 (zNil) E
theorem xe_209_2 : xf_209_2 = zEx xb_209_2 := by
  unfold xf_209_2 xb_209_2
  rfl
theorem xc_209_2 : zCd 209 [0, 22, 23] 23 xb_209_2 := zc_ireturn1 xj_209 24 rfl rfl (trivial)
noncomputable def xb_209_1 : List zF := zq_k 0 :: xb_209_2
noncomputable def xf_209_1 : zE → zKn := fun E => zq_k 0 (xf_209_2 E) E
theorem xe_209_1 : xf_209_1 = zEx xb_209_1 := by
  unfold xf_209_1 xb_209_1
  rw [xe_209_2]
  rfl
theorem xc_209_1 : zCd 209 [0, 22, 23] 22 xb_209_1 := zc_iconst xj_209 23 0 0 rfl rfl rfl (xc_209_2)
noncomputable def xb_209_0 : List zF := [zq_aldg zG0, zq_ildg zG1, zq_ildg zG2, zq_calli 207 2 9 4, zq_if_eq 22, zq_aldg zG0, zq_ildg zG1, zq_ildg zG2, zN2 208 5 zg_208, zq_if_eq 22, zq_k 1, zq_goto 23]
noncomputable def xf_209_0 : zE → zKn := fun E => zq_aldg zG0 (zq_ildg zG1 (zq_ildg zG2 (zq_calli 207 2 9 4 (zq_if_eq 22 (zq_aldg zG0 (zq_ildg zG1 (zq_ildg zG2 (zN2 208 5 zg_208 (zq_if_eq 22 (zq_k 1 (zq_goto 23 (zNil) E) E) E) E) E) E) E) E) E) E) E) E
theorem xe_209_0 : xf_209_0 = zEx xb_209_0 := by
  unfold xf_209_0 xb_209_0
  rfl
theorem xc_209_0 : zCd 209 [0, 22, 23] 0 xb_209_0 := zc_aload_n xj_209 1 0 rfl rfl zf_ald_0 (zc_iload_n xj_209 2 1 rfl rfl zf_ild_1 (zc_iload_n xj_209 3 2 rfl rfl zf_ild_2 (zc_invokevirtual1 xj_209 6 108 207 2 268 9 4 rfl rfl rfl rfl (zc_if_eq xj_209 9 16 22 rfl rfl rfl (zc_aload_n xj_209 10 0 rfl rfl zf_ald_0 (zc_iload_n xj_209 11 1 rfl rfl zf_ild_1 (zc_iload_n xj_209 12 2 rfl rfl zf_ild_2 (zc_any xj_209 15 (.invokevirtual 111) [1, 208, 2, 271, 9, 5] rfl rfl (zN2 208 5 zg_208) rfl rfl (zc_if_eq xj_209 18 7 22 rfl rfl rfl (zc_iconst xj_209 19 1 1 rfl rfl rfl (zc_goto xj_209 20 4 23 rfl rfl rfl (trivial))))))))))))
noncomputable def xm_209 : Lean.RArray (zE → zKn) := .branch 22 (.leaf xf_209_0) (.branch 23 (.leaf xf_209_1) (.leaf xf_209_2))
theorem xa_209 : zCdAll 209 [0, 22, 23] xm_209 := zAll2_ok (P := fun t => ∃ c, zCd 209 [0, 22, 23] t c ∧ xm_209.get t = zEx c) ⟨⟨_, xc_209_0, xe_209_0⟩, ⟨_, xc_209_1, xe_209_1⟩, ⟨_, xc_209_2, xe_209_2⟩, trivial⟩
/-- SquareMeshModel.insideOf -/
theorem xj_210 : ∀ pc, pI 210 pc = pJ_210 pc := fun _ => rfl
noncomputable def xb_210_0 : List zF := [zq_aldg zG0, zq_ildg zG1, zN1 192 2 zg_192, zq_ildg zG4, zq_sub, zq_i2l, zq_lst 6, zq_aldg zG0, zq_ildg zG1, zN1 193 2 zg_193, zq_ildg zG5, zq_sub, zq_i2l, zq_lst 8, zq_aldg zG0, zq_ildg zG2, zN1 192 2 zg_192, zq_ildg zG4, zq_sub, zq_i2l, zq_lst 10, zq_aldg zG0, zq_ildg zG2, zN1 193 2 zg_193, zq_ildg zG5, zq_sub, zq_i2l, zq_lst 12, zq_aldg zG0, zq_ildg zG3, zN1 192 2 zg_192, zq_ildg zG4, zq_sub, zq_i2l, zq_lst 14, zq_aldg zG0, zq_ildg zG3, zN1 193 2 zg_193, zq_ildg zG5, zq_sub, zq_i2l, zq_lst 16, zq_lldg zG6, zq_lldg zG6, zq_lmul, zq_lldg zG8, zq_lldg zG8, zq_lmul, zq_ladd, zq_lldg zG10, zq_lldg zG16, zq_lmul, zq_lldg zG12, zq_lldg zG14, zq_lmul, zq_lsub, zq_lmul, zq_lldg zG10, zq_lldg zG10, zq_lmul, zq_lldg zG12, zq_lldg zG12, zq_lmul, zq_ladd, zq_lldg zG6, zq_lldg zG16, zq_lmul, zq_lldg zG8, zq_lldg zG14, zq_lmul, zq_lsub, zq_lmul, zq_lsub, zq_lldg zG14, zq_lldg zG14, zq_lmul, zq_lldg zG16, zq_lldg zG16, zq_lmul, zq_ladd, zq_lldg zG6, zq_lldg zG12, zq_lmul, zq_lldg zG8, zq_lldg zG10, zq_lmul, zq_lsub, zq_lmul, zq_ladd, zq_lret]
noncomputable def xf_210_0 : zE → zKn := fun E => zq_aldg zG0 (zq_ildg zG1 (zN1 192 2 zg_192 (zq_ildg zG4 (zq_sub (zq_i2l (zq_lst 6 (zq_aldg zG0 (zq_ildg zG1 (zN1 193 2 zg_193 (zq_ildg zG5 (zq_sub (zq_i2l (zq_lst 8 (zq_aldg zG0 (zq_ildg zG2 (zN1 192 2 zg_192 (zq_ildg zG4 (zq_sub (zq_i2l (zq_lst 10 (zq_aldg zG0 (zq_ildg zG2 (zN1 193 2 zg_193 (zq_ildg zG5 (zq_sub (zq_i2l (zq_lst 12 (zq_aldg zG0 (zq_ildg zG3 (zN1 192 2 zg_192 (zq_ildg zG4 (zq_sub (zq_i2l (zq_lst 14 (zq_aldg zG0 (zq_ildg zG3 (zN1 193 2 zg_193 (zq_ildg zG5 (zq_sub (zq_i2l (zq_lst 16 (zq_lldg zG6 (zq_lldg zG6 (zq_lmul (zq_lldg zG8 (zq_lldg zG8 (zq_lmul (zq_ladd (zq_lldg zG10 (zq_lldg zG16 (zq_lmul (zq_lldg zG12 (zq_lldg zG14 (zq_lmul (zq_lsub (zq_lmul (zq_lldg zG10 (zq_lldg zG10 (zq_lmul (zq_lldg zG12 (zq_lldg zG12 (zq_lmul (zq_ladd (zq_lldg zG6 (zq_lldg zG16 (zq_lmul (zq_lldg zG8 (zq_lldg zG14 (zq_lmul (zq_lsub (zq_lmul (zq_lsub (zq_lldg zG14 (zq_lldg zG14 (zq_lmul (zq_lldg zG16 (zq_lldg zG16 (zq_lmul (zq_ladd (zq_lldg zG6 (zq_lldg zG12 (zq_lmul (zq_lldg zG8 (zq_lldg zG10 (zq_lmul (zq_lsub (zq_lmul (zq_ladd (zq_lret (zNil) E) E) E) E) E) E) E) E) E) E) E) E) E) E) E) E) E) E) E) E) E) E) E) E) E) E) E) E) E) E) E) E) E) E) E) E) E) E) E) E) E) E) E) E) E) E) E) E) E) E) E) E) E) E) E) E) E) E) E) E) E) E) E) E) E) E) E) E) E) E) E) E) E) E) E) E) E) E) E) E) E) E) E) E) E) E) E) E) E) E
set_option maxRecDepth 100000 in
theorem xe_210_0 : xf_210_0 = zEx xb_210_0 := by
  unfold xf_210_0 xb_210_0
  rfl
theorem xc_210_0 : zCd 210 [0] 0 xb_210_0 := zc_aload_n xj_210 1 0 rfl rfl zf_ald_0 (zc_iload_n xj_210 2 1 rfl rfl zf_ild_1 (zc_any xj_210 5 (.invokevirtual 75) [1, 192, 1, 260, 9, 2] rfl rfl (zN1 192 2 zg_192) rfl rfl (zc_iload xj_210 7 4 rfl rfl zf_ild_4 (zc_isub xj_210 8 rfl rfl (zc_i2l xj_210 9 rfl rfl (zc_lstore xj_210 11 6 rfl rfl rfl (zc_aload_n xj_210 12 0 rfl rfl zf_ald_0 (zc_iload_n xj_210 13 1 rfl rfl zf_ild_1 (zc_any xj_210 16 (.invokevirtual 79) [1, 193, 1, 261, 9, 2] rfl rfl (zN1 193 2 zg_193) rfl rfl (zc_iload xj_210 18 5 rfl rfl zf_ild_5 (zc_isub xj_210 19 rfl rfl (zc_i2l xj_210 20 rfl rfl (zc_lstore xj_210 22 8 rfl rfl rfl (zc_aload_n xj_210 23 0 rfl rfl zf_ald_0 (zc_iload_n xj_210 24 2 rfl rfl zf_ild_2 (zc_any xj_210 27 (.invokevirtual 75) [1, 192, 1, 260, 9, 2] rfl rfl (zN1 192 2 zg_192) rfl rfl (zc_iload xj_210 29 4 rfl rfl zf_ild_4 (zc_isub xj_210 30 rfl rfl (zc_i2l xj_210 31 rfl rfl (zc_lstore xj_210 33 10 rfl rfl rfl (zc_aload_n xj_210 34 0 rfl rfl zf_ald_0 (zc_iload_n xj_210 35 2 rfl rfl zf_ild_2 (zc_any xj_210 38 (.invokevirtual 79) [1, 193, 1, 261, 9, 2] rfl rfl (zN1 193 2 zg_193) rfl rfl (zc_iload xj_210 40 5 rfl rfl zf_ild_5 (zc_isub xj_210 41 rfl rfl (zc_i2l xj_210 42 rfl rfl (zc_lstore xj_210 44 12 rfl rfl rfl (zc_aload_n xj_210 45 0 rfl rfl zf_ald_0 (zc_iload_n xj_210 46 3 rfl rfl zf_ild_3 (zc_any xj_210 49 (.invokevirtual 75) [1, 192, 1, 260, 9, 2] rfl rfl (zN1 192 2 zg_192) rfl rfl (zc_iload xj_210 51 4 rfl rfl zf_ild_4 (zc_isub xj_210 52 rfl rfl (zc_i2l xj_210 53 rfl rfl (zc_lstore xj_210 55 14 rfl rfl rfl (zc_aload_n xj_210 56 0 rfl rfl zf_ald_0 (zc_iload_n xj_210 57 3 rfl rfl zf_ild_3 (zc_any xj_210 60 (.invokevirtual 79) [1, 193, 1, 261, 9, 2] rfl rfl (zN1 193 2 zg_193) rfl rfl (zc_iload xj_210 62 5 rfl rfl zf_ild_5 (zc_isub xj_210 63 rfl rfl (zc_i2l xj_210 64 rfl rfl (zc_lstore xj_210 66 16 rfl rfl rfl (zc_lload xj_210 68 6 rfl rfl zf_lld_6 (zc_lload xj_210 70 6 rfl rfl zf_lld_6 (zc_lmul xj_210 71 rfl rfl (zc_lload xj_210 73 8 rfl rfl zf_lld_8 (zc_lload xj_210 75 8 rfl rfl zf_lld_8 (zc_lmul xj_210 76 rfl rfl (zc_ladd xj_210 77 rfl rfl (zc_lload xj_210 79 10 rfl rfl zf_lld_10 (zc_lload xj_210 81 16 rfl rfl zf_lld_16 (zc_lmul xj_210 82 rfl rfl (zc_lload xj_210 84 12 rfl rfl zf_lld_12 (zc_lload xj_210 86 14 rfl rfl zf_lld_14 (zc_lmul xj_210 87 rfl rfl (zc_lsub xj_210 88 rfl rfl (zc_lmul xj_210 89 rfl rfl (zc_lload xj_210 91 10 rfl rfl zf_lld_10 (zc_lload xj_210 93 10 rfl rfl zf_lld_10 (zc_lmul xj_210 94 rfl rfl (zc_lload xj_210 96 12 rfl rfl zf_lld_12 (zc_lload xj_210 98 12 rfl rfl zf_lld_12 (zc_lmul xj_210 99 rfl rfl (zc_ladd xj_210 100 rfl rfl (zc_lload xj_210 102 6 rfl rfl zf_lld_6 (zc_lload xj_210 104 16 rfl rfl zf_lld_16 (zc_lmul xj_210 105 rfl rfl (zc_lload xj_210 107 8 rfl rfl zf_lld_8 (zc_lload xj_210 109 14 rfl rfl zf_lld_14 (zc_lmul xj_210 110 rfl rfl (zc_lsub xj_210 111 rfl rfl (zc_lmul xj_210 112 rfl rfl (zc_lsub xj_210 113 rfl rfl (zc_lload xj_210 115 14 rfl rfl zf_lld_14 (zc_lload xj_210 117 14 rfl rfl zf_lld_14 (zc_lmul xj_210 118 rfl rfl (zc_lload xj_210 120 16 rfl rfl zf_lld_16 (zc_lload xj_210 122 16 rfl rfl zf_lld_16 (zc_lmul xj_210 123 rfl rfl (zc_ladd xj_210 124 rfl rfl (zc_lload xj_210 126 6 rfl rfl zf_lld_6 (zc_lload xj_210 128 12 rfl rfl zf_lld_12 (zc_lmul xj_210 129 rfl rfl (zc_lload xj_210 131 8 rfl rfl zf_lld_8 (zc_lload xj_210 133 10 rfl rfl zf_lld_10 (zc_lmul xj_210 134 rfl rfl (zc_lsub xj_210 135 rfl rfl (zc_lmul xj_210 136 rfl rfl (zc_ladd xj_210 137 rfl rfl (zc_lreturn xj_210 138 rfl rfl (trivial))))))))))))))))))))))))))))))))))))))))))))))))))))))))))))))))))))))))))))))))))))))))))
noncomputable def xm_210 : Lean.RArray (zE → zKn) := .leaf xf_210_0
theorem xa_210 : zCdAll 210 [0] xm_210 := zAll2_ok (P := fun t => ∃ c, zCd 210 [0] t c ∧ xm_210.get t = zEx c) ⟨⟨_, xc_210_0, xe_210_0⟩, trivial⟩
/-- SquareMeshModel.insideBy -/
theorem xj_211 : ∀ pc, pI 211 pc = pJ_211 pc := fun _ => rfl
noncomputable def xb_211_0 : List zF := [zq_aldg zG0, zq_ildg zG1, zq_ildg zG2, zq_ildg zG3, zq_aldg zG0, zq_ildg zG4, zN1 192 2 zg_192, zq_aldg zG0, zq_ildg zG4, zN1 193 2 zg_193, zq_calli 210 5 9 18, zq_lret]
noncomputable def xf_211_0 : zE → zKn := fun E => zq_aldg zG0 (zq_ildg zG1 (zq_ildg zG2 (zq_ildg zG3 (zq_aldg zG0 (zq_ildg zG4 (zN1 192 2 zg_192 (zq_aldg zG0 (zq_ildg zG4 (zN1 193 2 zg_193 (zq_calli 210 5 9 18 (zq_lret (zNil) E) E) E) E) E) E) E) E) E) E) E) E
theorem xe_211_0 : xf_211_0 = zEx xb_211_0 := by
  unfold xf_211_0 xb_211_0
  rfl
theorem xc_211_0 : zCd 211 [0] 0 xb_211_0 := zc_aload_n xj_211 1 0 rfl rfl zf_ald_0 (zc_iload_n xj_211 2 1 rfl rfl zf_ild_1 (zc_iload_n xj_211 3 2 rfl rfl zf_ild_2 (zc_iload_n xj_211 4 3 rfl rfl zf_ild_3 (zc_aload_n xj_211 5 0 rfl rfl zf_ald_0 (zc_iload xj_211 7 4 rfl rfl zf_ild_4 (zc_any xj_211 10 (.invokevirtual 75) [1, 192, 1, 260, 9, 2] rfl rfl (zN1 192 2 zg_192) rfl rfl (zc_aload_n xj_211 11 0 rfl rfl zf_ald_0 (zc_iload xj_211 13 4 rfl rfl zf_ild_4 (zc_any xj_211 16 (.invokevirtual 79) [1, 193, 1, 261, 9, 2] rfl rfl (zN1 193 2 zg_193) rfl rfl (zc_invokevirtual1 xj_211 19 114 210 5 276 9 18 rfl rfl rfl rfl (zc_lreturn xj_211 20 rfl rfl (trivial))))))))))))
noncomputable def xm_211 : Lean.RArray (zE → zKn) := .leaf xf_211_0
theorem xa_211 : zCdAll 211 [0] xm_211 := zAll2_ok (P := fun t => ∃ c, zCd 211 [0] t c ∧ xm_211.get t = zEx c) ⟨⟨_, xc_211_0, xe_211_0⟩, trivial⟩
/-- SquareMeshModel.leftAt -/
theorem xj_212 : ∀ pc, pI 212 pc = pJ_212 pc := fun _ => rfl
noncomputable def xb_212_0 : List zF := [zq_aldg zG0, zq_getfg 9 zG3, zq_k 40, zq_ildg zG1, zq_mul, zq_ildg zG2, zq_add, zq_ild_ 0, zq_iret 0]
noncomputable def xf_212_0 : zE → zKn := fun E => zq_aldg zG0 (zq_getfg 9 zG3 (zq_k 40 (zq_ildg zG1 (zq_mul (zq_ildg zG2 (zq_add (zq_ild_ 0 (zq_iret 0 (zNil) E) E) E) E) E) E) E) E) E
theorem xe_212_0 : xf_212_0 = zEx xb_212_0 := by
  unfold xf_212_0 xb_212_0
  rfl
theorem xc_212_0 : zCd 212 [0] 0 xb_212_0 := zc_aload_n xj_212 1 0 rfl rfl zf_ald_0 (zc_getf xj_212 4 20 9 3 97 rfl rfl (zf_getf_3 _) (zc_bipush xj_212 6 40 40 rfl rfl rfl (zc_iload_n xj_212 7 1 rfl rfl zf_ild_1 (zc_imul xj_212 8 rfl rfl (zc_iload_n xj_212 9 2 rfl rfl zf_ild_2 (zc_iadd xj_212 10 rfl rfl (zc_iaload xj_212 11 rfl rfl (zc_ireturn0 xj_212 12 rfl rfl (trivial)))))))))
noncomputable def xm_212 : Lean.RArray (zE → zKn) := .leaf xf_212_0
theorem xa_212 : zCdAll 212 [0] xm_212 := zAll2_ok (P := fun t => ∃ c, zCd 212 [0] t c ∧ xm_212.get t = zEx c) ⟨⟨_, xc_212_0, xe_212_0⟩, trivial⟩
/-- SquareMeshModel.isEdgeNow -/
theorem xj_213 : ∀ pc, pI 213 pc = pJ_213 pc := fun _ => rfl
noncomputable def xb_213_3 : List zF := [zq_iret 1]
noncomputable def xf_213_3 : zE → zKn := fun E => zq_iret 1 (zNil) E
theorem xe_213_3 : xf_213_3 = zEx xb_213_3 := by
  unfold xf_213_3 xb_213_3
  rfl
theorem xc_213_3 : zCd 213 [0, 20, 24, 25] 25 xb_213_3 := zc_ireturn1 xj_213 26 rfl rfl (trivial)
noncomputable def xb_213_2 : List zF := zq_k 0 :: xb_213_3
noncomputable def xf_213_2 : zE → zKn := fun E => zq_k 0 (xf_213_3 E) E
theorem xe_213_2 : xf_213_2 = zEx xb_213_2 := by
  unfold xf_213_2 xb_213_2
  rw [xe_213_3]
  rfl
theorem xc_213_2 : zCd 213 [0, 20, 24, 25] 24 xb_213_2 := zc_iconst xj_213 25 0 0 rfl rfl rfl (xc_213_3)
noncomputable def xb_213_1 : List zF := [zq_k 1, zq_goto 25]
noncomputable def xf_213_1 : zE → zKn := fun E => zq_k 1 (zq_goto 25 (zNil) E) E
theorem xe_213_1 : xf_213_1 = zEx xb_213_1 := by
  unfold xf_213_1 xb_213_1
  rfl
theorem xc_213_1 : zCd 213 [0, 20, 24, 25] 20 xb_213_1 := zc_iconst xj_213 21 1 1 rfl rfl rfl (zc_goto xj_213 22 4 25 rfl rfl rfl (trivial))
noncomputable def xb_213_0 : List zF := zq_aldg zG0 :: zq_ildg zG1 :: zq_ildg zG2 :: zN2 212 3 zg_212 :: zq_k 4294967295 :: zq_ic_ne 20 :: zq_aldg zG0 :: zq_ildg zG2 :: zq_ildg zG1 :: zN2 212 3 zg_212 :: zq_k 4294967295 :: zq_ic_eq 24 :: xb_213_1
noncomputable def xf_213_0 : zE → zKn := fun E => zq_aldg zG0 (zq_ildg zG1 (zq_ildg zG2 (zN2 212 3 zg_212 (zq_k 4294967295 (zq_ic_ne 20 (zq_aldg zG0 (zq_ildg zG2 (zq_ildg zG1 (zN2 212 3 zg_212 (zq_k 4294967295 (zq_ic_eq 24 (xf_213_1 E) E) E) E) E) E) E) E) E) E) E) E) E
theorem xe_213_0 : xf_213_0 = zEx xb_213_0 := by
  unfold xf_213_0 xb_213_0
  rw [xe_213_1]
  rfl
theorem xc_213_0 : zCd 213 [0, 20, 24, 25] 0 xb_213_0 := zc_aload_n xj_213 1 0 rfl rfl zf_ald_0 (zc_iload_n xj_213 2 1 rfl rfl zf_ild_1 (zc_iload_n xj_213 3 2 rfl rfl zf_ild_2 (zc_any xj_213 6 (.invokevirtual 118) [1, 212, 2, 262, 9, 3] rfl rfl (zN2 212 3 zg_212) rfl rfl (zc_iconst xj_213 7 (-1) 4294967295 rfl rfl rfl (zc_ic_ne xj_213 10 13 20 rfl rfl rfl (zc_aload_n xj_213 11 0 rfl rfl zf_ald_0 (zc_iload_n xj_213 12 2 rfl rfl zf_ild_2 (zc_iload_n xj_213 13 1 rfl rfl zf_ild_1 (zc_any xj_213 16 (.invokevirtual 118) [1, 212, 2, 262, 9, 3] rfl rfl (zN2 212 3 zg_212) rfl rfl (zc_iconst xj_213 17 (-1) 4294967295 rfl rfl rfl (zc_ic_eq xj_213 20 7 24 rfl rfl rfl (xc_213_1))))))))))))
noncomputable def xm_213 : Lean.RArray (zE → zKn) := .branch 24 (.branch 20 (.leaf xf_213_0) (.leaf xf_213_1)) (.branch 25 (.leaf xf_213_2) (.leaf xf_213_3))
theorem xa_213 : zCdAll 213 [0, 20, 24, 25] xm_213 := zAll2_ok (P := fun t => ∃ c, zCd 213 [0, 20, 24, 25] t c ∧ xm_213.get t = zEx c) ⟨⟨_, xc_213_0, xe_213_0⟩, ⟨_, xc_213_1, xe_213_1⟩, ⟨_, xc_213_2, xe_213_2⟩, ⟨_, xc_213_3, xe_213_3⟩, trivial⟩
/-- SquareMeshModel.isBetter -/
theorem xj_214 : ∀ pc, pI 214 pc = pJ_214 pc := fun _ => rfl
noncomputable def xb_214_14 : List zF := [zq_iret 1]
noncomputable def xf_214_14 : zE → zKn := fun E => zq_iret 1 (zNil) E
theorem xe_214_14 : xf_214_14 = zEx xb_214_14 := by
  unfold xf_214_14 xb_214_14
  rfl
theorem xc_214_14 : zCd 214 [0, 29, 30, 31, 47, 60, 75, 96, 97, 98, 119, 120, 121, 132, 133] 133 xb_214_14 := zc_ireturn1 xj_214 134 rfl rfl (trivial)
noncomputable def xb_214_13 : List zF := zq_k 0 :: xb_214_14
noncomputable def xf_214_13 : zE → zKn := fun E => zq_k 0 (xf_214_14 E) E
theorem xe_214_13 : xf_214_13 = zEx xb_214_13 := by
  unfold xf_214_13 xb_214_13
  rw [xe_214_14]
  rfl
theorem xc_214_13 : zCd 214 [0, 29, 30, 31, 47, 60, 75, 96, 97, 98, 119, 120, 121, 132, 133] 132 xb_214_13 := zc_iconst xj_214 133 0 0 rfl rfl rfl (xc_214_14)
noncomputable def xb_214_12 : List zF := [zq_ildg zG7, zq_ildg zG4, zq_ic_ne 132, zq_k 1, zq_goto 133]
noncomputable def xf_214_12 : zE → zKn := fun E => zq_ildg zG7 (zq_ildg zG4 (zq_ic_ne 132 (zq_k 1 (zq_goto 133 (zNil) E) E) E) E) E
theorem xe_214_12 : xf_214_12 = zEx xb_214_12 := by
  unfold xf_214_12 xb_214_12
  rfl
theorem xc_214_12 : zCd 214 [0, 29, 30, 31, 47, 60, 75, 96, 97, 98, 119, 120, 121, 132, 133] 121 xb_214_12 := zc_iload xj_214 123 7 rfl rfl zf_ild_7 (zc_iload xj_214 125 4 rfl rfl zf_ild_4 (zc_ic_ne xj_214 128 7 132 rfl rfl rfl (zc_iconst xj_214 129 1 1 rfl rfl rfl (zc_goto xj_214 130 4 133 rfl rfl rfl (trivial)))))
noncomputable def xb_214_11 : List zF := [zq_iret 1]
noncomputable def xf_214_11 : zE → zKn := fun E => zq_iret 1 (zNil) E
theorem xe_214_11 : xf_214_11 = zEx xb_214_11 := by
  unfold xf_214_11 xb_214_11
  rfl
theorem xc_214_11 : zCd 214 [0, 29, 30, 31, 47, 60, 75, 96, 97, 98, 119, 120, 121, 132, 133] 120 xb_214_11 := zc_ireturn1 xj_214 121 rfl rfl (trivial)
noncomputable def xb_214_10 : List zF := zq_k 0 :: xb_214_11
noncomputable def xf_214_10 : zE → zKn := fun E => zq_k 0 (xf_214_11 E) E
theorem xe_214_10 : xf_214_10 = zEx xb_214_10 := by
  unfold xf_214_10 xb_214_10
  rw [xe_214_11]
  rfl
theorem xc_214_10 : zCd 214 [0, 29, 30, 31, 47, 60, 75, 96, 97, 98, 119, 120, 121, 132, 133] 119 xb_214_10 := zc_iconst xj_214 120 0 0 rfl rfl rfl (xc_214_11)
noncomputable def xb_214_9 : List zF := [zq_ildg zG7, zq_ildg zG2, zq_ic_ne 121, zq_aldg zG0, zq_ildg zG2, zq_ildg zG4, zq_ildg zG3, zq_calli 202 3 9 4, zq_if_ge 119, zq_k 1, zq_goto 120]
noncomputable def xf_214_9 : zE → zKn := fun E => zq_ildg zG7 (zq_ildg zG2 (zq_ic_ne 121 (zq_aldg zG0 (zq_ildg zG2 (zq_ildg zG4 (zq_ildg zG3 (zq_calli 202 3 9 4 (zq_if_ge 119 (zq_k 1 (zq_goto 120 (zNil) E) E) E) E) E) E) E) E) E) E) E
theorem xe_214_9 : xf_214_9 = zEx xb_214_9 := by
  unfold xf_214_9 xb_214_9
  rfl
theorem xc_214_9 : zCd 214 [0, 29, 30, 31, 47, 60, 75, 96, 97, 98, 119, 120, 121, 132, 133] 98 xb_214_9 := zc_iload xj_214 100 7 rfl rfl zf_ild_7 (zc_iload_n xj_214 101 2 rfl rfl zf_ild_2 (zc_ic_ne xj_214 104 20 121 rfl rfl rfl (zc_aload_n xj_214 105 0 rfl rfl zf_ald_0 (zc_iload_n xj_214 106 2 rfl rfl zf_ild_2 (zc_iload xj_214 108 4 rfl rfl zf_ild_4 (zc_iload_n xj_214 109 3 rfl rfl zf_ild_3 (zc_invokevirtual1 xj_214 112 90 202 3 266 9 4 rfl rfl rfl rfl (zc_if_ge xj_214 115 7 119 rfl rfl rfl (zc_iconst xj_214 116 1 1 rfl rfl rfl (zc_goto xj_214 117 4 120 rfl rfl rfl (trivial)))))))))))
noncomputable def xb_214_8 : List zF := [zq_iret 1]
noncomputable def xf_214_8 : zE → zKn := fun E => zq_iret 1 (zNil) E
theorem xe_214_8 : xf_214_8 = zEx xb_214_8 := by
  unfold xf_214_8 xb_214_8
  rfl
theorem xc_214_8 : zCd 214 [0, 29, 30, 31, 47, 60, 75, 96, 97, 98, 119, 120, 121, 132, 133] 97 xb_214_8 := zc_ireturn1 xj_214 98 rfl rfl (trivial)
noncomputable def xb_214_7 : List zF := zq_k 0 :: xb_214_8
noncomputable def xf_214_7 : zE → zKn := fun E => zq_k 0 (xf_214_8 E) E
theorem xe_214_7 : xf_214_7 = zEx xb_214_7 := by
  unfold xf_214_7 xb_214_7
  rw [xe_214_8]
  rfl
theorem xc_214_7 : zCd 214 [0, 29, 30, 31, 47, 60, 75, 96, 97, 98, 119, 120, 121, 132, 133] 96 xb_214_7 := zc_iconst xj_214 97 0 0 rfl rfl rfl (xc_214_8)
noncomputable def xb_214_6 : List zF := [zq_ildg zG7, zq_ildg zG1, zq_ic_ne 98, zq_aldg zG0, zq_ildg zG1, zq_ildg zG4, zq_ildg zG3, zq_calli 202 3 9 4, zq_if_le 96, zq_k 1, zq_goto 97]
noncomputable def xf_214_6 : zE → zKn := fun E => zq_ildg zG7 (zq_ildg zG1 (zq_ic_ne 98 (zq_aldg zG0 (zq_ildg zG1 (zq_ildg zG4 (zq_ildg zG3 (zq_calli 202 3 9 4 (zq_if_le 96 (zq_k 1 (zq_goto 97 (zNil) E) E) E) E) E) E) E) E) E) E) E
theorem xe_214_6 : xf_214_6 = zEx xb_214_6 := by
  unfold xf_214_6 xb_214_6
  rfl
theorem xc_214_6 : zCd 214 [0, 29, 30, 31, 47, 60, 75, 96, 97, 98, 119, 120, 121, 132, 133] 75 xb_214_6 := zc_iload xj_214 77 7 rfl rfl zf_ild_7 (zc_iload_n xj_214 78 1 rfl rfl zf_ild_1 (zc_ic_ne xj_214 81 20 98 rfl rfl rfl (zc_aload_n xj_214 82 0 rfl rfl zf_ald_0 (zc_iload_n xj_214 83 1 rfl rfl zf_ild_1 (zc_iload xj_214 85 4 rfl rfl zf_ild_4 (zc_iload_n xj_214 86 3 rfl rfl zf_ild_3 (zc_invokevirtual1 xj_214 89 90 202 3 266 9 4 rfl rfl rfl rfl (zc_if_le xj_214 92 7 96 rfl rfl rfl (zc_iconst xj_214 93 1 1 rfl rfl rfl (zc_goto xj_214 94 4 97 rfl rfl rfl (trivial)))))))))))
noncomputable def xb_214_5 : List zF := zq_aldg zG0 :: zq_ildg zG4 :: zq_ildg zG7 :: zq_calli 200 2 9 3 :: zq_if_eq 75 :: zq_ildg zG4 :: zq_istg zE7 :: xb_214_6
noncomputable def xf_214_5 : zE → zKn := fun E => zq_aldg zG0 (zq_ildg zG4 (zq_ildg zG7 (zq_calli 200 2 9 3 (zq_if_eq 75 (zq_ildg zG4 (zq_istg zE7 (xf_214_6 E) E) E) E) E) E) E) E
theorem xe_214_5 : xf_214_5 = zEx xb_214_5 := by
  unfold xf_214_5 xb_214_5
  rw [xe_214_6]
  rfl
theorem xc_214_5 : zCd 214 [0, 29, 30, 31, 47, 60, 75, 96, 97, 98, 119, 120, 121, 132, 133] 60 xb_214_5 := zc_aload_n xj_214 61 0 rfl rfl zf_ald_0 (zc_iload xj_214 63 4 rfl rfl zf_ild_4 (zc_iload xj_214 65 7 rfl rfl zf_ild_7 (zc_invokevirtual1 xj_214 68 125 200 2 277 9 3 rfl rfl rfl rfl (zc_if_eq xj_214 71 7 75 rfl rfl rfl (zc_iload xj_214 73 4 rfl rfl zf_ild_4 (zc_istore xj_214 75 7 rfl rfl zf_ist_7 (xc_214_6)))))))
noncomputable def xb_214_4 : List zF := zq_aldg zG0 :: zq_ildg zG3 :: zq_ildg zG7 :: zq_calli 200 2 9 3 :: zq_if_eq 60 :: zq_ildg zG3 :: zq_istg zE7 :: xb_214_5
noncomputable def xf_214_4 : zE → zKn := fun E => zq_aldg zG0 (zq_ildg zG3 (zq_ildg zG7 (zq_calli 200 2 9 3 (zq_if_eq 60 (zq_ildg zG3 (zq_istg zE7 (xf_214_5 E) E) E) E) E) E) E) E
theorem xe_214_4 : xf_214_4 = zEx xb_214_4 := by
  unfold xf_214_4 xb_214_4
  rw [xe_214_5]
  rfl
theorem xc_214_4 : zCd 214 [0, 29, 30, 31, 47, 60, 75, 96, 97, 98, 119, 120, 121, 132, 133] 47 xb_214_4 := zc_aload_n xj_214 48 0 rfl rfl zf_ald_0 (zc_iload_n xj_214 49 3 rfl rfl zf_ild_3 (zc_iload xj_214 51 7 rfl rfl zf_ild_7 (zc_invokevirtual1 xj_214 54 125 200 2 277 9 3 rfl rfl rfl rfl (zc_if_eq xj_214 57 6 60 rfl rfl rfl (zc_iload_n xj_214 58 3 rfl rfl zf_ild_3 (zc_istore xj_214 60 7 rfl rfl zf_ist_7 (xc_214_5)))))))
noncomputable def xb_214_3 : List zF := zq_ildg zG1 :: zq_istg zE7 :: zq_aldg zG0 :: zq_ildg zG2 :: zq_ildg zG7 :: zq_calli 200 2 9 3 :: zq_if_eq 47 :: zq_ildg zG2 :: zq_istg zE7 :: xb_214_4
noncomputable def xf_214_3 : zE → zKn := fun E => zq_ildg zG1 (zq_istg zE7 (zq_aldg zG0 (zq_ildg zG2 (zq_ildg zG7 (zq_calli 200 2 9 3 (zq_if_eq 47 (zq_ildg zG2 (zq_istg zE7 (xf_214_4 E) E) E) E) E) E) E) E) E) E
theorem xe_214_3 : xf_214_3 = zEx xb_214_3 := by
  unfold xf_214_3 xb_214_3
  rw [xe_214_4]
  rfl
theorem xc_214_3 : zCd 214 [0, 29, 30, 31, 47, 60, 75, 96, 97, 98, 119, 120, 121, 132, 133] 31 xb_214_3 := zc_iload_n xj_214 32 1 rfl rfl zf_ild_1 (zc_istore xj_214 34 7 rfl rfl zf_ist_7 (zc_aload_n xj_214 35 0 rfl rfl zf_ald_0 (zc_iload_n xj_214 36 2 rfl rfl zf_ild_2 (zc_iload xj_214 38 7 rfl rfl zf_ild_7 (zc_invokevirtual1 xj_214 41 125 200 2 277 9 3 rfl rfl rfl rfl (zc_if_eq xj_214 44 6 47 rfl rfl rfl (zc_iload_n xj_214 45 2 rfl rfl zf_ild_2 (zc_istore xj_214 47 7 rfl rfl zf_ist_7 (xc_214_4)))))))))
noncomputable def xb_214_2 : List zF := [zq_iret 1]
noncomputable def xf_214_2 : zE → zKn := fun E => zq_iret 1 (zNil) E
theorem xe_214_2 : xf_214_2 = zEx xb_214_2 := by
  unfold xf_214_2 xb_214_2
  rfl
theorem xc_214_2 : zCd 214 [0, 29, 30, 31, 47, 60, 75, 96, 97, 98, 119, 120, 121, 132, 133] 30 xb_214_2 := zc_ireturn1 xj_214 31 rfl rfl (trivial)
noncomputable def xb_214_1 : List zF := zq_k 0 :: xb_214_2
noncomputable def xf_214_1 : zE → zKn := fun E => zq_k 0 (xf_214_2 E) E
theorem xe_214_1 : xf_214_1 = zEx xb_214_1 := by
  unfold xf_214_1 xb_214_1
  rw [xe_214_2]
  rfl
theorem xc_214_1 : zCd 214 [0, 29, 30, 31, 47, 60, 75, 96, 97, 98, 119, 120, 121, 132, 133] 29 xb_214_1 := zc_iconst xj_214 30 0 0 rfl rfl rfl (xc_214_2)
noncomputable def xb_214_0 : List zF := [zq_aldg zG0, zq_ildg zG1, zq_ildg zG2, zq_ildg zG3, zq_ildg zG4, zq_calli 211 4 9 5, zq_lst 5, zq_lldg zG5, zq_kl 0, zq_lcmp, zq_if_eq 31, zq_lldg zG5, zq_kl 0, zq_lcmp, zq_if_le 29, zq_k 1, zq_goto 30]
noncomputable def xf_214_0 : zE → zKn := fun E => zq_aldg zG0 (zq_ildg zG1 (zq_ildg zG2 (zq_ildg zG3 (zq_ildg zG4 (zq_calli 211 4 9 5 (zq_lst 5 (zq_lldg zG5 (zq_kl 0 (zq_lcmp (zq_if_eq 31 (zq_lldg zG5 (zq_kl 0 (zq_lcmp (zq_if_le 29 (zq_k 1 (zq_goto 30 (zNil) E) E) E) E) E) E) E) E) E) E) E) E) E) E) E) E) E
theorem xe_214_0 : xf_214_0 = zEx xb_214_0 := by
  unfold xf_214_0 xb_214_0
  rfl
theorem xc_214_0 : zCd 214 [0, 29, 30, 31, 47, 60, 75, 96, 97, 98, 119, 120, 121, 132, 133] 0 xb_214_0 := zc_aload_n xj_214 1 0 rfl rfl zf_ald_0 (zc_iload_n xj_214 2 1 rfl rfl zf_ild_1 (zc_iload_n xj_214 3 2 rfl rfl zf_ild_2 (zc_iload_n xj_214 4 3 rfl rfl zf_ild_3 (zc_iload xj_214 6 4 rfl rfl zf_ild_4 (zc_invokevirtual1 xj_214 9 121 211 4 275 9 5 rfl rfl rfl rfl (zc_lstore xj_214 11 5 rfl rfl rfl (zc_lload xj_214 13 5 rfl rfl zf_lld_5 (zc_lconst xj_214 14 0 rfl rfl (zc_lcmp xj_214 15 rfl rfl (zc_if_eq xj_214 18 16 31 rfl rfl rfl (zc_lload xj_214 20 5 rfl rfl zf_lld_5 (zc_lconst xj_214 21 0 rfl rfl (zc_lcmp xj_214 22 rfl rfl (zc_if_le xj_214 25 7 29 rfl rfl rfl (zc_iconst xj_214 26 1 1 rfl rfl rfl (zc_goto xj_214 27 4 30 rfl rfl rfl (trivial)))))))))))))))))
noncomputable def xm_214 : Lean.RArray (zE → zKn) := .branch 96 (.branch 31 (.branch 29 (.leaf xf_214_0) (.branch 30 (.leaf xf_214_1) (.leaf xf_214_2))) (.branch 60 (.branch 47 (.leaf xf_214_3) (.leaf xf_214_4)) (.branch 75 (.leaf xf_214_5) (.leaf xf_214_6)))) (.branch 120 (.branch 98 (.branch 97 (.leaf xf_214_7) (.leaf xf_214_8)) (.branch 119 (.leaf xf_214_9) (.leaf xf_214_10))) (.branch 132 (.branch 121 (.leaf xf_214_11) (.leaf xf_214_12)) (.branch 133 (.leaf xf_214_13) (.leaf xf_214_14))))
theorem xa_214 : zCdAll 214 [0, 29, 30, 31, 47, 60, 75, 96, 97, 98, 119, 120, 121, 132, 133] xm_214 := zAll2_ok (P := fun t => ∃ c, zCd 214 [0, 29, 30, 31, 47, 60, 75, 96, 97, 98, 119, 120, 121, 132, 133] t c ∧ xm_214.get t = zEx c) ⟨⟨_, xc_214_0, xe_214_0⟩, ⟨_, xc_214_1, xe_214_1⟩, ⟨_, xc_214_2, xe_214_2⟩, ⟨_, xc_214_3, xe_214_3⟩, ⟨_, xc_214_4, xe_214_4⟩, ⟨_, xc_214_5, xe_214_5⟩, ⟨_, xc_214_6, xe_214_6⟩, ⟨_, xc_214_7, xe_214_7⟩, ⟨_, xc_214_8, xe_214_8⟩, ⟨_, xc_214_9, xe_214_9⟩, ⟨_, xc_214_10, xe_214_10⟩, ⟨_, xc_214_11, xe_214_11⟩, ⟨_, xc_214_12, xe_214_12⟩, ⟨_, xc_214_13, xe_214_13⟩, ⟨_, xc_214_14, xe_214_14⟩, trivial⟩
/-- SquareMeshModel.cornerFor -/
theorem xj_215 : ∀ pc, pI 215 pc = pJ_215 pc := fun _ => rfl
noncomputable def xb_215_5 : List zF := [zq_ildg zG3, zq_iret 0]
noncomputable def xf_215_5 : zE → zKn := fun E => zq_ildg zG3 (zq_iret 0 (zNil) E) E
theorem xe_215_5 : xf_215_5 = zEx xb_215_5 := by
  unfold xf_215_5 xb_215_5
  rfl
theorem xc_215_5 : zCd 215 [0, 5, 55, 72, 75, 81] 81 xb_215_5 := zc_iload_n xj_215 82 3 rfl rfl zf_ild_3 (zc_ireturn0 xj_215 83 rfl rfl (trivial))
noncomputable def xb_215_4 : List zF := [zq_incg zG4 zE4 1, zq_goto 5]
noncomputable def xf_215_4 : zE → zKn := fun E => zq_incg zG4 zE4 1 (zq_goto 5 (zNil) E) E
theorem xe_215_4 : xf_215_4 = zEx xb_215_4 := by
  unfold xf_215_4 xb_215_4
  rfl
theorem xc_215_4 : zCd 215 [0, 5, 55, 72, 75, 81] 75 xb_215_4 := zc_iinc xj_215 78 4 1 1 rfl rfl rfl (zf_inc_4 _) (zc_goto xj_215 79 (-73) 5 rfl rfl rfl (trivial))
noncomputable def xb_215_3 : List zF := zq_ildg zG4 :: zq_istg zE3 :: xb_215_4
noncomputable def xf_215_3 : zE → zKn := fun E => zq_ildg zG4 (zq_istg zE3 (xf_215_4 E) E) E
theorem xe_215_3 : xf_215_3 = zEx xb_215_3 := by
  unfold xf_215_3 xb_215_3
  rw [xe_215_4]
  rfl
theorem xc_215_3 : zCd 215 [0, 5, 55, 72, 75, 81] 72 xb_215_3 := zc_iload xj_215 74 4 rfl rfl zf_ild_4 (zc_istore_n xj_215 75 3 rfl rfl zf_ist_3 (xc_215_4))
noncomputable def xb_215_2 : List zF := zq_ildg zG3 :: zq_k 4294967295 :: zq_ic_eq 72 :: zq_aldg zG0 :: zq_ildg zG1 :: zq_ildg zG2 :: zq_ildg zG3 :: zq_ildg zG4 :: zq_calli 214 4 9 8 :: zq_if_eq 75 :: xb_215_3
noncomputable def xf_215_2 : zE → zKn := fun E => zq_ildg zG3 (zq_k 4294967295 (zq_ic_eq 72 (zq_aldg zG0 (zq_ildg zG1 (zq_ildg zG2 (zq_ildg zG3 (zq_ildg zG4 (zq_calli 214 4 9 8 (zq_if_eq 75 (xf_215_3 E) E) E) E) E) E) E) E) E) E) E
theorem xe_215_2 : xf_215_2 = zEx xb_215_2 := by
  unfold xf_215_2 xb_215_2
  rw [xe_215_3]
  rfl
theorem xc_215_2 : zCd 215 [0, 5, 55, 72, 75, 81] 55 xb_215_2 := zc_iload_n xj_215 56 3 rfl rfl zf_ild_3 (zc_iconst xj_215 57 (-1) 4294967295 rfl rfl rfl (zc_ic_eq xj_215 60 15 72 rfl rfl rfl (zc_aload_n xj_215 61 0 rfl rfl zf_ald_0 (zc_iload_n xj_215 62 1 rfl rfl zf_ild_1 (zc_iload_n xj_215 63 2 rfl rfl zf_ild_2 (zc_iload_n xj_215 64 3 rfl rfl zf_ild_3 (zc_iload xj_215 66 4 rfl rfl zf_ild_4 (zc_invokevirtual1 xj_215 69 131 214 4 274 9 8 rfl rfl rfl rfl (zc_if_eq xj_215 72 6 75 rfl rfl rfl (xc_215_3))))))))))
noncomputable def xb_215_1 : List zF := [zq_ildg zG4, zq_k 40, zq_ic_ge 81, zq_aldg zG0, zq_ildg zG4, zN1 191 2 zg_191, zq_if_eq 75, zq_aldg zG0, zq_ildg zG1, zq_ildg zG2, zq_ildg zG4, zq_calli 202 3 9 4, zq_if_le 75, zq_aldg zG0, zq_ildg zG1, zq_ildg zG4, zq_calli 209 2 9 3, zq_if_eq 75, zq_aldg zG0, zq_ildg zG2, zq_ildg zG4, zq_calli 209 2 9 3, zq_if_ne 55, zq_goto 75]
noncomputable def xf_215_1 : zE → zKn := fun E => zq_ildg zG4 (zq_k 40 (zq_ic_ge 81 (zq_aldg zG0 (zq_ildg zG4 (zN1 191 2 zg_191 (zq_if_eq 75 (zq_aldg zG0 (zq_ildg zG1 (zq_ildg zG2 (zq_ildg zG4 (zq_calli 202 3 9 4 (zq_if_le 75 (zq_aldg zG0 (zq_ildg zG1 (zq_ildg zG4 (zq_calli 209 2 9 3 (zq_if_eq 75 (zq_aldg zG0 (zq_ildg zG2 (zq_ildg zG4 (zq_calli 209 2 9 3 (zq_if_ne 55 (zq_goto 75 (zNil) E) E) E) E) E) E) E) E) E) E) E) E) E) E) E) E) E) E) E) E) E) E) E) E
theorem xe_215_1 : xf_215_1 = zEx xb_215_1 := by
  unfold xf_215_1 xb_215_1
  rfl
theorem xc_215_1 : zCd 215 [0, 5, 55, 72, 75, 81] 5 xb_215_1 := zc_iload xj_215 7 4 rfl rfl zf_ild_4 (zc_bipush xj_215 9 40 40 rfl rfl rfl (zc_ic_ge xj_215 12 72 81 rfl rfl rfl (zc_aload_n xj_215 13 0 rfl rfl zf_ald_0 (zc_iload xj_215 15 4 rfl rfl zf_ild_4 (zc_any xj_215 18 (.invokevirtual 71) [1, 191, 1, 264, 9, 2] rfl rfl (zN1 191 2 zg_191) rfl rfl (zc_if_eq xj_215 21 57 75 rfl rfl rfl (zc_aload_n xj_215 22 0 rfl rfl zf_ald_0 (zc_iload_n xj_215 23 1 rfl rfl zf_ild_1 (zc_iload_n xj_215 24 2 rfl rfl zf_ild_2 (zc_iload xj_215 26 4 rfl rfl zf_ild_4 (zc_invokevirtual1 xj_215 29 90 202 3 266 9 4 rfl rfl rfl rfl (zc_if_le xj_215 32 46 75 rfl rfl rfl (zc_aload_n xj_215 33 0 rfl rfl zf_ald_0 (zc_iload_n xj_215 34 1 rfl rfl zf_ild_1 (zc_iload xj_215 36 4 rfl rfl zf_ild_4 (zc_invokevirtual1 xj_215 39 128 209 2 267 9 3 rfl rfl rfl rfl (zc_if_eq xj_215 42 36 75 rfl rfl rfl (zc_aload_n xj_215 43 0 rfl rfl zf_ald_0 (zc_iload_n xj_215 44 2 rfl rfl zf_ild_2 (zc_iload xj_215 46 4 rfl rfl zf_ild_4 (zc_invokevirtual1 xj_215 49 128 209 2 267 9 3 rfl rfl rfl rfl (zc_if_ne xj_215 52 6 55 rfl rfl rfl (zc_goto xj_215 53 23 75 rfl rfl rfl (trivial))))))))))))))))))))))))
noncomputable def xb_215_0 : List zF := zq_k 4294967295 :: zq_istg zE3 :: zq_k 0 :: zq_istg zE4 :: xb_215_1
noncomputable def xf_215_0 : zE → zKn := fun E => zq_k 4294967295 (zq_istg zE3 (zq_k 0 (zq_istg zE4 (xf_215_1 E) E) E) E) E
theorem xe_215_0 : xf_215_0 = zEx xb_215_0 := by
  unfold xf_215_0 xb_215_0
  rw [xe_215_1]
  rfl
theorem xc_215_0 : zCd 215 [0, 5, 55, 72, 75, 81] 0 xb_215_0 := zc_iconst xj_215 1 (-1) 4294967295 rfl rfl rfl (zc_istore_n xj_215 2 3 rfl rfl zf_ist_3 (zc_iconst xj_215 3 0 0 rfl rfl rfl (zc_istore xj_215 5 4 rfl rfl zf_ist_4 (xc_215_1))))
noncomputable def xm_215 : Lean.RArray (zE → zKn) := .branch 72 (.branch 5 (.leaf xf_215_0) (.branch 55 (.leaf xf_215_1) (.leaf xf_215_2))) (.branch 75 (.leaf xf_215_3) (.branch 81 (.leaf xf_215_4) (.leaf xf_215_5)))
theorem xa_215 : zCdAll 215 [0, 5, 55, 72, 75, 81] xm_215 := zAll2_ok (P := fun t => ∃ c, zCd 215 [0, 5, 55, 72, 75, 81] t c ∧ xm_215.get t = zEx c) ⟨⟨_, xc_215_0, xe_215_0⟩, ⟨_, xc_215_1, xe_215_1⟩, ⟨_, xc_215_2, xe_215_2⟩, ⟨_, xc_215_3, xe_215_3⟩, ⟨_, xc_215_4, xe_215_4⟩, ⟨_, xc_215_5, xe_215_5⟩, trivial⟩
/-- SquareMeshModel.comeTriangle -/
theorem xj_216 : ∀ pc, pI 216 pc = pJ_216 pc := fun _ => rfl
noncomputable def xb_216_0 : List zF := [zq_aldg zG0, zq_getfg 9 zG2, zq_k 3, zq_aldg zG0, zq_getfg 9 zG4, zq_mul, zq_ildg zG1, zq_iast, zq_aldg zG0, zq_getfg 9 zG2, zq_k 3, zq_aldg zG0, zq_getfg 9 zG4, zq_mul, zq_k 1, zq_add, zq_ildg zG2, zq_iast, zq_aldg zG0, zq_getfg 9 zG2, zq_k 3, zq_aldg zG0, zq_getfg 9 zG4, zq_mul, zq_k 2, zq_add, zq_ildg zG3, zq_iast, zq_aldg zG0, zq_getfg 9 zG3, zq_k 40, zq_ildg zG1, zq_mul, zq_ildg zG2, zq_add, zq_aldg zG0, zq_getfg 9 zG4, zq_iast, zq_aldg zG0, zq_getfg 9 zG3, zq_k 40, zq_ildg zG2, zq_mul, zq_ildg zG3, zq_add, zq_aldg zG0, zq_getfg 9 zG4, zq_iast, zq_aldg zG0, zq_getfg 9 zG3, zq_k 40, zq_ildg zG3, zq_mul, zq_ildg zG1, zq_add, zq_aldg zG0, zq_getfg 9 zG4, zq_iast, zq_aldg zG0, zq_dup, zq_getfg 9 zG4, zq_k 1, zq_add, zq_putf 9 4 0, zq_vret]
noncomputable def xf_216_0 : zE → zKn := fun E => zq_aldg zG0 (zq_getfg 9 zG2 (zq_k 3 (zq_aldg zG0 (zq_getfg 9 zG4 (zq_mul (zq_ildg zG1 (zq_iast (zq_aldg zG0 (zq_getfg 9 zG2 (zq_k 3 (zq_aldg zG0 (zq_getfg 9 zG4 (zq_mul (zq_k 1 (zq_add (zq_ildg zG2 (zq_iast (zq_aldg zG0 (zq_getfg 9 zG2 (zq_k 3 (zq_aldg zG0 (zq_getfg 9 zG4 (zq_mul (zq_k 2 (zq_add (zq_ildg zG3 (zq_iast (zq_aldg zG0 (zq_getfg 9 zG3 (zq_k 40 (zq_ildg zG1 (zq_mul (zq_ildg zG2 (zq_add (zq_aldg zG0 (zq_getfg 9 zG4 (zq_iast (zq_aldg zG0 (zq_getfg 9 zG3 (zq_k 40 (zq_ildg zG2 (zq_mul (zq_ildg zG3 (zq_add (zq_aldg zG0 (zq_getfg 9 zG4 (zq_iast (zq_aldg zG0 (zq_getfg 9 zG3 (zq_k 40 (zq_ildg zG3 (zq_mul (zq_ildg zG1 (zq_add (zq_aldg zG0 (zq_getfg 9 zG4 (zq_iast (zq_aldg zG0 (zq_dup (zq_getfg 9 zG4 (zq_k 1 (zq_add (zq_putf 9 4 0 (zq_vret (zNil) E) E) E) E) E) E) E) E) E) E) E) E) E) E) E) E) E) E) E) E) E) E) E) E) E) E) E) E) E) E) E) E) E) E) E) E) E) E) E) E) E) E) E) E) E) E) E) E) E) E) E) E) E) E) E) E) E) E) E) E) E) E) E) E) E
set_option maxRecDepth 100000 in
theorem xe_216_0 : xf_216_0 = zEx xb_216_0 := by
  unfold xf_216_0 xb_216_0
  rfl
theorem xc_216_0 : zCd 216 [0] 0 xb_216_0 := zc_aload_n xj_216 1 0 rfl rfl zf_ald_0 (zc_getf xj_216 4 17 9 2 96 rfl rfl (zf_getf_2 _) (zc_iconst xj_216 5 3 3 rfl rfl rfl (zc_aload_n xj_216 6 0 rfl rfl zf_ald_0 (zc_getf xj_216 9 134 9 4 98 rfl rfl (zf_getf_4 _) (zc_imul xj_216 10 rfl rfl (zc_iload_n xj_216 11 1 rfl rfl zf_ild_1 (zc_iastore xj_216 12 rfl rfl (zc_aload_n xj_216 13 0 rfl rfl zf_ald_0 (zc_getf xj_216 16 17 9 2 96 rfl rfl (zf_getf_2 _) (zc_iconst xj_216 17 3 3 rfl rfl rfl (zc_aload_n xj_216 18 0 rfl rfl zf_ald_0 (zc_getf xj_216 21 134 9 4 98 rfl rfl (zf_getf_4 _) (zc_imul xj_216 22 rfl rfl (zc_iconst xj_216 23 1 1 rfl rfl rfl (zc_iadd xj_216 24 rfl rfl (zc_iload_n xj_216 25 2 rfl rfl zf_ild_2 (zc_iastore xj_216 26 rfl rfl (zc_aload_n xj_216 27 0 rfl rfl zf_ald_0 (zc_getf xj_216 30 17 9 2 96 rfl rfl (zf_getf_2 _) (zc_iconst xj_216 31 3 3 rfl rfl rfl (zc_aload_n xj_216 32 0 rfl rfl zf_ald_0 (zc_getf xj_216 35 134 9 4 98 rfl rfl (zf_getf_4 _) (zc_imul xj_216 36 rfl rfl (zc_iconst xj_216 37 2 2 rfl rfl rfl (zc_iadd xj_216 38 rfl rfl (zc_iload_n xj_216 39 3 rfl rfl zf_ild_3 (zc_iastore xj_216 40 rfl rfl (zc_aload_n xj_216 41 0 rfl rfl zf_ald_0 (zc_getf xj_216 44 20 9 3 97 rfl rfl (zf_getf_3 _) (zc_bipush xj_216 46 40 40 rfl rfl rfl (zc_iload_n xj_216 47 1 rfl rfl zf_ild_1 (zc_imul xj_216 48 rfl rfl (zc_iload_n xj_216 49 2 rfl rfl zf_ild_2 (zc_iadd xj_216 50 rfl rfl (zc_aload_n xj_216 51 0 rfl rfl zf_ald_0 (zc_getf xj_216 54 134 9 4 98 rfl rfl (zf_getf_4 _) (zc_iastore xj_216 55 rfl rfl (zc_aload_n xj_216 56 0 rfl rfl zf_ald_0 (zc_getf xj_216 59 20 9 3 97 rfl rfl (zf_getf_3 _) (zc_bipush xj_216 61 40 40 rfl rfl rfl (zc_iload_n xj_216 62 2 rfl rfl zf_ild_2 (zc_imul xj_216 63 rfl rfl (zc_iload_n xj_216 64 3 rfl rfl zf_ild_3 (zc_iadd xj_216 65 rfl rfl (zc_aload_n xj_216 66 0 rfl rfl zf_ald_0 (zc_getf xj_216 69 134 9 4 98 rfl rfl (zf_getf_4 _) (zc_iastore xj_216 70 rfl rfl (zc_aload_n xj_216 71 0 rfl rfl zf_ald_0 (zc_getf xj_216 74 20 9 3 97 rfl rfl (zf_getf_3 _) (zc_bipush xj_216 76 40 40 rfl rfl rfl (zc_iload_n xj_216 77 3 rfl rfl zf_ild_3 (zc_imul xj_216 78 rfl rfl (zc_iload_n xj_216 79 1 rfl rfl zf_ild_1 (zc_iadd xj_216 80 rfl rfl (zc_aload_n xj_216 81 0 rfl rfl zf_ald_0 (zc_getf xj_216 84 134 9 4 98 rfl rfl (zf_getf_4 _) (zc_iastore xj_216 85 rfl rfl (zc_aload_n xj_216 86 0 rfl rfl zf_ald_0 (zc_dup xj_216 87 rfl rfl (zc_getf xj_216 90 134 9 4 98 rfl rfl (zf_getf_4 _) (zc_iconst xj_216 91 1 1 rfl rfl rfl (zc_iadd xj_216 92 rfl rfl (zc_putf xj_216 95 134 9 4 98 0 rfl rfl rfl (zc_return_ xj_216 96 rfl rfl (trivial)))))))))))))))))))))))))))))))))))))))))))))))))))))))))))))))))
noncomputable def xm_216 : Lean.RArray (zE → zKn) := .leaf xf_216_0
theorem xa_216 : zCdAll 216 [0] xm_216 := zAll2_ok (P := fun t => ∃ c, zCd 216 [0] t c ∧ xm_216.get t = zEx c) ⟨⟨_, xc_216_0, xe_216_0⟩, trivial⟩
/-- SquareMeshModel.isBorder -/
theorem xj_217 : ∀ pc, pI 217 pc = pJ_217 pc := fun _ => rfl
noncomputable def xb_217_2 : List zF := [zq_iret 1]
noncomputable def xf_217_2 : zE → zKn := fun E => zq_iret 1 (zNil) E
theorem xe_217_2 : xf_217_2 = zEx xb_217_2 := by
  unfold xf_217_2 xb_217_2
  rfl
theorem xc_217_2 : zCd 217 [0, 14, 15] 15 xb_217_2 := zc_ireturn1 xj_217 16 rfl rfl (trivial)
noncomputable def xb_217_1 : List zF := zq_k 0 :: xb_217_2
noncomputable def xf_217_1 : zE → zKn := fun E => zq_k 0 (xf_217_2 E) E
theorem xe_217_1 : xf_217_1 = zEx xb_217_1 := by
  unfold xf_217_1 xb_217_1
  rw [xe_217_2]
  rfl
theorem xc_217_1 : zCd 217 [0, 14, 15] 14 xb_217_1 := zc_iconst xj_217 15 0 0 rfl rfl rfl (xc_217_2)
noncomputable def xb_217_0 : List zF := [zq_aldg zG0, zq_ildg zG1, zq_ildg zG2, zN2 196 3 zg_196, zq_k 2, zq_ic_ne 14, zq_k 1, zq_goto 15]
noncomputable def xf_217_0 : zE → zKn := fun E => zq_aldg zG0 (zq_ildg zG1 (zq_ildg zG2 (zN2 196 3 zg_196 (zq_k 2 (zq_ic_ne 14 (zq_k 1 (zq_goto 15 (zNil) E) E) E) E) E) E) E) E
theorem xe_217_0 : xf_217_0 = zEx xb_217_0 := by
  unfold xf_217_0 xb_217_0
  rfl
theorem xc_217_0 : zCd 217 [0, 14, 15] 0 xb_217_0 := zc_aload_n xj_217 1 0 rfl rfl zf_ald_0 (zc_iload_n xj_217 2 1 rfl rfl zf_ild_1 (zc_iload_n xj_217 3 2 rfl rfl zf_ild_2 (zc_any xj_217 6 (.invokevirtual 102) [1, 196, 2, 258, 9, 3] rfl rfl (zN2 196 3 zg_196) rfl rfl (zc_iconst xj_217 7 2 2 rfl rfl rfl (zc_ic_ne xj_217 10 7 14 rfl rfl rfl (zc_iconst xj_217 11 1 1 rfl rfl rfl (zc_goto xj_217 12 4 15 rfl rfl rfl (trivial))))))))
noncomputable def xm_217 : Lean.RArray (zE → zKn) := .branch 14 (.leaf xf_217_0) (.branch 15 (.leaf xf_217_1) (.leaf xf_217_2))
theorem xa_217 : zCdAll 217 [0, 14, 15] xm_217 := zAll2_ok (P := fun t => ∃ c, zCd 217 [0, 14, 15] t c ∧ xm_217.get t = zEx c) ⟨⟨_, xc_217_0, xe_217_0⟩, ⟨_, xc_217_1, xe_217_1⟩, ⟨_, xc_217_2, xe_217_2⟩, trivial⟩
/-- SquareMeshModel.isInward -/
theorem xj_218 : ∀ pc, pI 218 pc = pJ_218 pc := fun _ => rfl
noncomputable def xb_218_2 : List zF := [zq_iret 1]
noncomputable def xf_218_2 : zE → zKn := fun E => zq_iret 1 (zNil) E
theorem xe_218_2 : xf_218_2 = zEx xb_218_2 := by
  unfold xf_218_2 xb_218_2
  rfl
theorem xc_218_2 : zCd 218 [0, 24, 25] 25 xb_218_2 := zc_ireturn1 xj_218 26 rfl rfl (trivial)
noncomputable def xb_218_1 : List zF := zq_k 0 :: xb_218_2
noncomputable def xf_218_1 : zE → zKn := fun E => zq_k 0 (xf_218_2 E) E
theorem xe_218_1 : xf_218_1 = zEx xb_218_1 := by
  unfold xf_218_1 xb_218_1
  rw [xe_218_2]
  rfl
theorem xc_218_1 : zCd 218 [0, 24, 25] 24 xb_218_1 := zc_iconst xj_218 25 0 0 rfl rfl rfl (xc_218_2)
noncomputable def xb_218_0 : List zF := [zq_aldg zG0, zq_ildg zG1, zq_ildg zG2, zN2 217 3 zg_217, zq_if_eq 24, zq_aldg zG0, zq_ildg zG1, zq_ildg zG2, zq_k 0, zq_k 0, zq_calli 201 4 9 5, zq_if_le 24, zq_k 1, zq_goto 25]
noncomputable def xf_218_0 : zE → zKn := fun E => zq_aldg zG0 (zq_ildg zG1 (zq_ildg zG2 (zN2 217 3 zg_217 (zq_if_eq 24 (zq_aldg zG0 (zq_ildg zG1 (zq_ildg zG2 (zq_k 0 (zq_k 0 (zq_calli 201 4 9 5 (zq_if_le 24 (zq_k 1 (zq_goto 25 (zNil) E) E) E) E) E) E) E) E) E) E) E) E) E) E
theorem xe_218_0 : xf_218_0 = zEx xb_218_0 := by
  unfold xf_218_0 xb_218_0
  rfl
theorem xc_218_0 : zCd 218 [0, 24, 25] 0 xb_218_0 := zc_aload_n xj_218 1 0 rfl rfl zf_ald_0 (zc_iload_n xj_218 2 1 rfl rfl zf_ild_1 (zc_iload_n xj_218 3 2 rfl rfl zf_ild_2 (zc_any xj_218 6 (.invokevirtual 138) [1, 217, 2, 257, 9, 3] rfl rfl (zN2 217 3 zg_217) rfl rfl (zc_if_eq xj_218 9 18 24 rfl rfl rfl (zc_aload_n xj_218 10 0 rfl rfl zf_ald_0 (zc_iload_n xj_218 11 1 rfl rfl zf_ild_1 (zc_iload_n xj_218 12 2 rfl rfl zf_ild_2 (zc_iconst xj_218 13 0 0 rfl rfl rfl (zc_iconst xj_218 14 0 0 rfl rfl rfl (zc_invokevirtual1 xj_218 17 82 201 4 259 9 5 rfl rfl rfl rfl (zc_if_le xj_218 20 7 24 rfl rfl rfl (zc_iconst xj_218 21 1 1 rfl rfl rfl (zc_goto xj_218 22 4 25 rfl rfl rfl (trivial))))))))))))))
noncomputable def xm_218 : Lean.RArray (zE → zKn) := .branch 24 (.leaf xf_218_0) (.branch 25 (.leaf xf_218_1) (.leaf xf_218_2))
theorem xa_218 : zCdAll 218 [0, 24, 25] xm_218 := zAll2_ok (P := fun t => ∃ c, zCd 218 [0, 24, 25] t c ∧ xm_218.get t = zEx c) ⟨⟨_, xc_218_0, xe_218_0⟩, ⟨_, xc_218_1, xe_218_1⟩, ⟨_, xc_218_2, xe_218_2⟩, trivial⟩
/-- SquareMeshModel.layMesh -/
theorem xj_219 : ∀ pc, pI 219 pc = pJ_219 pc := fun _ => rfl
noncomputable def xb_219_12 : List zF := [zq_aldg zG0, zq_calli 220 0 9 5, zq_vret]
noncomputable def xf_219_12 : zE → zKn := fun E => zq_aldg zG0 (zq_calli 220 0 9 5 (zq_vret (zNil) E) E) E
theorem xe_219_12 : xf_219_12 = zEx xb_219_12 := by
  unfold xf_219_12 xb_219_12
  rfl
theorem xc_219_12 : zCd 219 [0, 7, 27, 29, 37, 74, 80, 86, 88, 98, 165, 171, 177] 177 xb_219_12 := zc_aload_n xj_219 178 0 rfl rfl zf_ald_0 (zc_invokevirtual1 xj_219 181 150 220 0 279 9 5 rfl rfl rfl rfl (zc_return_ xj_219 182 rfl rfl (trivial)))
noncomputable def xb_219_11 : List zF := [zq_incg zG1 zE1 1, zq_goto 88]
noncomputable def xf_219_11 : zE → zKn := fun E => zq_incg zG1 zE1 1 (zq_goto 88 (zNil) E) E
theorem xe_219_11 : xf_219_11 = zEx xb_219_11 := by
  unfold xf_219_11 xb_219_11
  rfl
theorem xc_219_11 : zCd 219 [0, 7, 27, 29, 37, 74, 80, 86, 88, 98, 165, 171, 177] 171 xb_219_11 := zc_iinc xj_219 174 1 1 1 rfl rfl rfl (zf_inc_1 _) (zc_goto xj_219 175 (-86) 88 rfl rfl rfl (trivial))
noncomputable def xb_219_10 : List zF := [zq_incg zG2 zE2 1, zq_goto 98]
noncomputable def xf_219_10 : zE → zKn := fun E => zq_incg zG2 zE2 1 (zq_goto 98 (zNil) E) E
theorem xe_219_10 : xf_219_10 = zEx xb_219_10 := by
  unfold xf_219_10 xb_219_10
  rfl
theorem xc_219_10 : zCd 219 [0, 7, 27, 29, 37, 74, 80, 86, 88, 98, 165, 171, 177] 165 xb_219_10 := zc_iinc xj_219 168 2 1 1 rfl rfl rfl (zf_inc_2 _) (zc_goto xj_219 169 (-70) 98 rfl rfl rfl (trivial))
noncomputable def xb_219_9 : List zF := zq_ildg zG2 :: zq_k 3 :: zq_ic_ge 171 :: zq_aldg zG0 :: zq_getfg 9 zG2 :: zq_k 3 :: zq_ildg zG1 :: zq_mul :: zq_ildg zG2 :: zq_add :: zq_ild_ 0 :: zq_istg zE3 :: zq_aldg zG0 :: zq_getfg 9 zG2 :: zq_k 3 :: zq_ildg zG1 :: zq_mul :: zq_ildg zG2 :: zq_k 1 :: zq_add :: zq_k 3 :: zq_rem :: zq_add :: zq_ild_ 0 :: zq_istg zE4 :: zq_aldg zG0 :: zq_ildg zG3 :: zq_ildg zG4 :: zN2 217 3 zg_217 :: zq_if_ne 165 :: zq_aldg zG0 :: zq_ildg zG4 :: zq_ildg zG3 :: zN2 212 3 zg_212 :: zq_k 4294967295 :: zq_ic_ne 165 :: zq_aldg zG0 :: zq_ildg zG4 :: zq_ildg zG3 :: zq_aldg zG0 :: zq_ildg zG4 :: zq_ildg zG3 :: zq_calli 215 2 9 5 :: zq_calli 216 3 9 4 :: xb_219_10
noncomputable def xf_219_9 : zE → zKn := fun E => zq_ildg zG2 (zq_k 3 (zq_ic_ge 171 (zq_aldg zG0 (zq_getfg 9 zG2 (zq_k 3 (zq_ildg zG1 (zq_mul (zq_ildg zG2 (zq_add (zq_ild_ 0 (zq_istg zE3 (zq_aldg zG0 (zq_getfg 9 zG2 (zq_k 3 (zq_ildg zG1 (zq_mul (zq_ildg zG2 (zq_k 1 (zq_add (zq_k 3 (zq_rem (zq_add (zq_ild_ 0 (zq_istg zE4 (zq_aldg zG0 (zq_ildg zG3 (zq_ildg zG4 (zN2 217 3 zg_217 (zq_if_ne 165 (zq_aldg zG0 (zq_ildg zG4 (zq_ildg zG3 (zN2 212 3 zg_212 (zq_k 4294967295 (zq_ic_ne 165 (zq_aldg zG0 (zq_ildg zG4 (zq_ildg zG3 (zq_aldg zG0 (zq_ildg zG4 (zq_ildg zG3 (zq_calli 215 2 9 5 (zq_calli 216 3 9 4 (xf_219_10 E) E) E) E) E) E) E) E) E) E) E) E) E) E) E) E) E) E) E) E) E) E) E) E) E) E) E) E) E) E) E) E) E) E) E) E) E) E) E) E) E) E) E) E) E
set_option maxRecDepth 100000 in
theorem xe_219_9 : xf_219_9 = zEx xb_219_9 := by
  unfold xf_219_9 xb_219_9
  rw [xe_219_10]
  rfl
theorem xc_219_9 : zCd 219 [0, 7, 27, 29, 37, 74, 80, 86, 88, 98, 165, 171, 177] 98 xb_219_9 := zc_iload_n xj_219 99 2 rfl rfl zf_ild_2 (zc_iconst xj_219 100 3 3 rfl rfl rfl (zc_ic_ge xj_219 103 71 171 rfl rfl rfl (zc_aload_n xj_219 104 0 rfl rfl zf_ald_0 (zc_getf xj_219 107 17 9 2 96 rfl rfl (zf_getf_2 _) (zc_iconst xj_219 108 3 3 rfl rfl rfl (zc_iload_n xj_219 109 1 rfl rfl zf_ild_1 (zc_imul xj_219 110 rfl rfl (zc_iload_n xj_219 111 2 rfl rfl zf_ild_2 (zc_iadd xj_219 112 rfl rfl (zc_iaload xj_219 113 rfl rfl (zc_istore_n xj_219 114 3 rfl rfl zf_ist_3 (zc_aload_n xj_219 115 0 rfl rfl zf_ald_0 (zc_getf xj_219 118 17 9 2 96 rfl rfl (zf_getf_2 _) (zc_iconst xj_219 119 3 3 rfl rfl rfl (zc_iload_n xj_219 120 1 rfl rfl zf_ild_1 (zc_imul xj_219 121 rfl rfl (zc_iload_n xj_219 122 2 rfl rfl zf_ild_2 (zc_iconst xj_219 123 1 1 rfl rfl rfl (zc_iadd xj_219 124 rfl rfl (zc_iconst xj_219 125 3 3 rfl rfl rfl (zc_irem xj_219 126 rfl rfl (zc_iadd xj_219 127 rfl rfl (zc_iaload xj_219 128 rfl rfl (zc_istore xj_219 130 4 rfl rfl zf_ist_4 (zc_aload_n xj_219 131 0 rfl rfl zf_ald_0 (zc_iload_n xj_219 132 3 rfl rfl zf_ild_3 (zc_iload xj_219 134 4 rfl rfl zf_ild_4 (zc_any xj_219 137 (.invokevirtual 138) [1, 217, 2, 257, 9, 3] rfl rfl (zN2 217 3 zg_217) rfl rfl (zc_if_ne xj_219 140 28 165 rfl rfl rfl (zc_aload_n xj_219 141 0 rfl rfl zf_ald_0 (zc_iload xj_219 143 4 rfl rfl zf_ild_4 (zc_iload_n xj_219 144 3 rfl rfl zf_ild_3 (zc_any xj_219 147 (.invokevirtual 118) [1, 212, 2, 262, 9, 3] rfl rfl (zN2 212 3 zg_212) rfl rfl (zc_iconst xj_219 148 (-1) 4294967295 rfl rfl rfl (zc_ic_ne xj_219 151 17 165 rfl rfl rfl (zc_aload_n xj_219 152 0 rfl rfl zf_ald_0 (zc_iload xj_219 154 4 rfl rfl zf_ild_4 (zc_iload_n xj_219 155 3 rfl rfl zf_ild_3 (zc_aload_n xj_219 156 0 rfl rfl zf_ald_0 (zc_iload xj_219 158 4 rfl rfl zf_ild_4 (zc_iload_n xj_219 159 3 rfl rfl zf_ild_3 (zc_invokevirtual1 xj_219 162 144 215 2 263 9 5 rfl rfl rfl rfl (zc_invokevirtual1 xj_219 165 147 216 3 278 9 4 rfl rfl rfl rfl (xc_219_10))))))))))))))))))))))))))))))))))))))))))))
noncomputable def xb_219_8 : List zF := zq_ildg zG1 :: zq_aldg zG0 :: zq_getfg 9 zG4 :: zq_ic_ge 177 :: zq_k 0 :: zq_istg zE2 :: xb_219_9
noncomputable def xf_219_8 : zE → zKn := fun E => zq_ildg zG1 (zq_aldg zG0 (zq_getfg 9 zG4 (zq_ic_ge 177 (zq_k 0 (zq_istg zE2 (xf_219_9 E) E) E) E) E) E) E
theorem xe_219_8 : xf_219_8 = zEx xb_219_8 := by
  unfold xf_219_8 xb_219_8
  rw [xe_219_9]
  rfl
theorem xc_219_8 : zCd 219 [0, 7, 27, 29, 37, 74, 80, 86, 88, 98, 165, 171, 177] 88 xb_219_8 := zc_iload_n xj_219 89 1 rfl rfl zf_ild_1 (zc_aload_n xj_219 90 0 rfl rfl zf_ald_0 (zc_getf xj_219 93 134 9 4 98 rfl rfl (zf_getf_4 _) (zc_ic_ge xj_219 96 84 177 rfl rfl rfl (zc_iconst xj_219 97 0 0 rfl rfl rfl (zc_istore_n xj_219 98 2 rfl rfl zf_ist_2 (xc_219_9))))))
noncomputable def xb_219_7 : List zF := zq_k 0 :: zq_istg zE1 :: xb_219_8
noncomputable def xf_219_7 : zE → zKn := fun E => zq_k 0 (zq_istg zE1 (xf_219_8 E) E) E
theorem xe_219_7 : xf_219_7 = zEx xb_219_7 := by
  unfold xf_219_7 xb_219_7
  rw [xe_219_8]
  rfl
theorem xc_219_7 : zCd 219 [0, 7, 27, 29, 37, 74, 80, 86, 88, 98, 165, 171, 177] 86 xb_219_7 := zc_iconst xj_219 87 0 0 rfl rfl rfl (zc_istore_n xj_219 88 1 rfl rfl zf_ist_1 (xc_219_8))
noncomputable def xb_219_6 : List zF := [zq_incg zG1 zE1 1, zq_goto 29]
noncomputable def xf_219_6 : zE → zKn := fun E => zq_incg zG1 zE1 1 (zq_goto 29 (zNil) E) E
theorem xe_219_6 : xf_219_6 = zEx xb_219_6 := by
  unfold xf_219_6 xb_219_6
  rfl
theorem xc_219_6 : zCd 219 [0, 7, 27, 29, 37, 74, 80, 86, 88, 98, 165, 171, 177] 80 xb_219_6 := zc_iinc xj_219 83 1 1 1 rfl rfl rfl (zf_inc_1 _) (zc_goto xj_219 84 (-54) 29 rfl rfl rfl (trivial))
noncomputable def xb_219_5 : List zF := [zq_incg zG2 zE2 1, zq_goto 37]
noncomputable def xf_219_5 : zE → zKn := fun E => zq_incg zG2 zE2 1 (zq_goto 37 (zNil) E) E
theorem xe_219_5 : xf_219_5 = zEx xb_219_5 := by
  unfold xf_219_5 xb_219_5
  rfl
theorem xc_219_5 : zCd 219 [0, 7, 27, 29, 37, 74, 80, 86, 88, 98, 165, 171, 177] 74 xb_219_5 := zc_iinc xj_219 77 2 1 1 rfl rfl rfl (zf_inc_2 _) (zc_goto xj_219 78 (-40) 37 rfl rfl rfl (trivial))
noncomputable def xb_219_4 : List zF := zq_ildg zG2 :: zq_k 40 :: zq_ic_ge 80 :: zq_aldg zG0 :: zq_ildg zG1 :: zq_ildg zG2 :: zq_calli 218 2 9 3 :: zq_if_eq 74 :: zq_aldg zG0 :: zq_ildg zG1 :: zq_ildg zG2 :: zN2 212 3 zg_212 :: zq_k 4294967295 :: zq_ic_ne 74 :: zq_aldg zG0 :: zq_ildg zG1 :: zq_ildg zG2 :: zq_aldg zG0 :: zq_ildg zG1 :: zq_ildg zG2 :: zq_calli 215 2 9 5 :: zq_calli 216 3 9 4 :: xb_219_5
noncomputable def xf_219_4 : zE → zKn := fun E => zq_ildg zG2 (zq_k 40 (zq_ic_ge 80 (zq_aldg zG0 (zq_ildg zG1 (zq_ildg zG2 (zq_calli 218 2 9 3 (zq_if_eq 74 (zq_aldg zG0 (zq_ildg zG1 (zq_ildg zG2 (zN2 212 3 zg_212 (zq_k 4294967295 (zq_ic_ne 74 (zq_aldg zG0 (zq_ildg zG1 (zq_ildg zG2 (zq_aldg zG0 (zq_ildg zG1 (zq_ildg zG2 (zq_calli 215 2 9 5 (zq_calli 216 3 9 4 (xf_219_5 E) E) E) E) E) E) E) E) E) E) E) E) E) E) E) E) E) E) E) E) E) E) E
theorem xe_219_4 : xf_219_4 = zEx xb_219_4 := by
  unfold xf_219_4 xb_219_4
  rw [xe_219_5]
  rfl
theorem xc_219_4 : zCd 219 [0, 7, 27, 29, 37, 74, 80, 86, 88, 98, 165, 171, 177] 37 xb_219_4 := zc_iload_n xj_219 38 2 rfl rfl zf_ild_2 (zc_bipush xj_219 40 40 40 rfl rfl rfl (zc_ic_ge xj_219 43 40 80 rfl rfl rfl (zc_aload_n xj_219 44 0 rfl rfl zf_ald_0 (zc_iload_n xj_219 45 1 rfl rfl zf_ild_1 (zc_iload_n xj_219 46 2 rfl rfl zf_ild_2 (zc_invokevirtual1 xj_219 49 141 218 2 256 9 3 rfl rfl rfl rfl (zc_if_eq xj_219 52 25 74 rfl rfl rfl (zc_aload_n xj_219 53 0 rfl rfl zf_ald_0 (zc_iload_n xj_219 54 1 rfl rfl zf_ild_1 (zc_iload_n xj_219 55 2 rfl rfl zf_ild_2 (zc_any xj_219 58 (.invokevirtual 118) [1, 212, 2, 262, 9, 3] rfl rfl (zN2 212 3 zg_212) rfl rfl (zc_iconst xj_219 59 (-1) 4294967295 rfl rfl rfl (zc_ic_ne xj_219 62 15 74 rfl rfl rfl (zc_aload_n xj_219 63 0 rfl rfl zf_ald_0 (zc_iload_n xj_219 64 1 rfl rfl zf_ild_1 (zc_iload_n xj_219 65 2 rfl rfl zf_ild_2 (zc_aload_n xj_219 66 0 rfl rfl zf_ald_0 (zc_iload_n xj_219 67 1 rfl rfl zf_ild_1 (zc_iload_n xj_219 68 2 rfl rfl zf_ild_2 (zc_invokevirtual1 xj_219 71 144 215 2 263 9 5 rfl rfl rfl rfl (zc_invokevirtual1 xj_219 74 147 216 3 278 9 4 rfl rfl rfl rfl (xc_219_5))))))))))))))))))))))
noncomputable def xb_219_3 : List zF := zq_ildg zG1 :: zq_k 40 :: zq_ic_ge 86 :: zq_k 0 :: zq_istg zE2 :: xb_219_4
noncomputable def xf_219_3 : zE → zKn := fun E => zq_ildg zG1 (zq_k 40 (zq_ic_ge 86 (zq_k 0 (zq_istg zE2 (xf_219_4 E) E) E) E) E) E
theorem xe_219_3 : xf_219_3 = zEx xb_219_3 := by
  unfold xf_219_3 xb_219_3
  rw [xe_219_4]
  rfl
theorem xc_219_3 : zCd 219 [0, 7, 27, 29, 37, 74, 80, 86, 88, 98, 165, 171, 177] 29 xb_219_3 := zc_iload_n xj_219 30 1 rfl rfl zf_ild_1 (zc_bipush xj_219 32 40 40 rfl rfl rfl (zc_ic_ge xj_219 35 54 86 rfl rfl rfl (zc_iconst xj_219 36 0 0 rfl rfl rfl (zc_istore_n xj_219 37 2 rfl rfl zf_ist_2 (xc_219_4)))))
noncomputable def xb_219_2 : List zF := zq_k 0 :: zq_istg zE1 :: xb_219_3
noncomputable def xf_219_2 : zE → zKn := fun E => zq_k 0 (zq_istg zE1 (xf_219_3 E) E) E
theorem xe_219_2 : xf_219_2 = zEx xb_219_2 := by
  unfold xf_219_2 xb_219_2
  rw [xe_219_3]
  rfl
theorem xc_219_2 : zCd 219 [0, 7, 27, 29, 37, 74, 80, 86, 88, 98, 165, 171, 177] 27 xb_219_2 := zc_iconst xj_219 28 0 0 rfl rfl rfl (zc_istore_n xj_219 29 1 rfl rfl zf_ist_1 (xc_219_3))
noncomputable def xb_219_1 : List zF := [zq_ildg zG1, zq_k 1600, zq_ic_ge 27, zq_aldg zG0, zq_getfg 9 zG3, zq_ildg zG1, zq_k 4294967295, zq_iast, zq_incg zG1 zE1 1, zq_goto 7]
noncomputable def xf_219_1 : zE → zKn := fun E => zq_ildg zG1 (zq_k 1600 (zq_ic_ge 27 (zq_aldg zG0 (zq_getfg 9 zG3 (zq_ildg zG1 (zq_k 4294967295 (zq_iast (zq_incg zG1 zE1 1 (zq_goto 7 (zNil) E) E) E) E) E) E) E) E) E) E
theorem xe_219_1 : xf_219_1 = zEx xb_219_1 := by
  unfold xf_219_1 xb_219_1
  rfl
theorem xc_219_1 : zCd 219 [0, 7, 27, 29, 37, 74, 80, 86, 88, 98, 165, 171, 177] 7 xb_219_1 := zc_iload_n xj_219 8 1 rfl rfl zf_ild_1 (zc_sipush xj_219 11 1600 1600 rfl rfl rfl (zc_ic_ge xj_219 14 16 27 rfl rfl rfl (zc_aload_n xj_219 15 0 rfl rfl zf_ald_0 (zc_getf xj_219 18 20 9 3 97 rfl rfl (zf_getf_3 _) (zc_iload_n xj_219 19 1 rfl rfl zf_ild_1 (zc_iconst xj_219 20 (-1) 4294967295 rfl rfl rfl (zc_iastore xj_219 21 rfl rfl (zc_iinc xj_219 24 1 1 1 rfl rfl rfl (zf_inc_1 _) (zc_goto xj_219 25 (-17) 7 rfl rfl rfl (trivial))))))))))
noncomputable def xb_219_0 : List zF := zq_aldg zG0 :: zq_k 0 :: zq_putf 9 4 0 :: zq_k 0 :: zq_istg zE1 :: xb_219_1
noncomputable def xf_219_0 : zE → zKn := fun E => zq_aldg zG0 (zq_k 0 (zq_putf 9 4 0 (zq_k 0 (zq_istg zE1 (xf_219_1 E) E) E) E) E) E
theorem xe_219_0 : xf_219_0 = zEx xb_219_0 := by
  unfold xf_219_0 xb_219_0
  rw [xe_219_1]
  rfl
theorem xc_219_0 : zCd 219 [0, 7, 27, 29, 37, 74, 80, 86, 88, 98, 165, 171, 177] 0 xb_219_0 := zc_aload_n xj_219 1 0 rfl rfl zf_ald_0 (zc_iconst xj_219 2 0 0 rfl rfl rfl (zc_putf xj_219 5 134 9 4 98 0 rfl rfl rfl (zc_iconst xj_219 6 0 0 rfl rfl rfl (zc_istore_n xj_219 7 1 rfl rfl zf_ist_1 (xc_219_1)))))
noncomputable def xm_219 : Lean.RArray (zE → zKn) := .branch 80 (.branch 29 (.branch 7 (.leaf xf_219_0) (.branch 27 (.leaf xf_219_1) (.leaf xf_219_2))) (.branch 37 (.leaf xf_219_3) (.branch 74 (.leaf xf_219_4) (.leaf xf_219_5)))) (.branch 98 (.branch 86 (.leaf xf_219_6) (.branch 88 (.leaf xf_219_7) (.leaf xf_219_8))) (.branch 171 (.branch 165 (.leaf xf_219_9) (.leaf xf_219_10)) (.branch 177 (.leaf xf_219_11) (.leaf xf_219_12))))
theorem xa_219 : zCdAll 219 [0, 7, 27, 29, 37, 74, 80, 86, 88, 98, 165, 171, 177] xm_219 := zAll2_ok (P := fun t => ∃ c, zCd 219 [0, 7, 27, 29, 37, 74, 80, 86, 88, 98, 165, 171, 177] t c ∧ xm_219.get t = zEx c) ⟨⟨_, xc_219_0, xe_219_0⟩, ⟨_, xc_219_1, xe_219_1⟩, ⟨_, xc_219_2, xe_219_2⟩, ⟨_, xc_219_3, xe_219_3⟩, ⟨_, xc_219_4, xe_219_4⟩, ⟨_, xc_219_5, xe_219_5⟩, ⟨_, xc_219_6, xe_219_6⟩, ⟨_, xc_219_7, xe_219_7⟩, ⟨_, xc_219_8, xe_219_8⟩, ⟨_, xc_219_9, xe_219_9⟩, ⟨_, xc_219_10, xe_219_10⟩, ⟨_, xc_219_11, xe_219_11⟩, ⟨_, xc_219_12, xe_219_12⟩, trivial⟩
/-- SquareMeshModel.order -/
theorem xj_220 : ∀ pc, pI 220 pc = pJ_220 pc := fun _ => rfl
noncomputable def xb_220_13 : List zF := [zq_vret]
noncomputable def xf_220_13 : zE → zKn := fun E => zq_vret (zNil) E
theorem xe_220_13 : xf_220_13 = zEx xb_220_13 := by
  unfold xf_220_13 xb_220_13
  rfl
theorem xc_220_13 : zCd 220 [0, 2, 10, 52, 113, 115, 136, 195, 201, 207, 209, 219, 264, 270] 270 xb_220_13 := zc_return_ xj_220 271 rfl rfl (trivial)
noncomputable def xb_220_12 : List zF := [zq_incg zG1 zE1 1, zq_goto 209]
noncomputable def xf_220_12 : zE → zKn := fun E => zq_incg zG1 zE1 1 (zq_goto 209 (zNil) E) E
theorem xe_220_12 : xf_220_12 = zEx xb_220_12 := by
  unfold xf_220_12 xb_220_12
  rfl
theorem xc_220_12 : zCd 220 [0, 2, 10, 52, 113, 115, 136, 195, 201, 207, 209, 219, 264, 270] 264 xb_220_12 := zc_iinc xj_220 267 1 1 1 rfl rfl rfl (zf_inc_1 _) (zc_goto xj_220 268 (-58) 209 rfl rfl rfl (trivial))
noncomputable def xb_220_11 : List zF := [zq_ildg zG2, zq_k 3, zq_ic_ge 264, zq_aldg zG0, zq_getfg 9 zG3, zq_k 40, zq_aldg zG0, zq_getfg 9 zG2, zq_k 3, zq_ildg zG1, zq_mul, zq_ildg zG2, zq_add, zq_ild_ 0, zq_mul, zq_aldg zG0, zq_getfg 9 zG2, zq_k 3, zq_ildg zG1, zq_mul, zq_ildg zG2, zq_k 1, zq_add, zq_k 3, zq_rem, zq_add, zq_ild_ 0, zq_add, zq_ildg zG1, zq_iast, zq_incg zG2 zE2 1, zq_goto 219]
noncomputable def xf_220_11 : zE → zKn := fun E => zq_ildg zG2 (zq_k 3 (zq_ic_ge 264 (zq_aldg zG0 (zq_getfg 9 zG3 (zq_k 40 (zq_aldg zG0 (zq_getfg 9 zG2 (zq_k 3 (zq_ildg zG1 (zq_mul (zq_ildg zG2 (zq_add (zq_ild_ 0 (zq_mul (zq_aldg zG0 (zq_getfg 9 zG2 (zq_k 3 (zq_ildg zG1 (zq_mul (zq_ildg zG2 (zq_k 1 (zq_add (zq_k 3 (zq_rem (zq_add (zq_ild_ 0 (zq_add (zq_ildg zG1 (zq_iast (zq_incg zG2 zE2 1 (zq_goto 219 (zNil) E) E) E) E) E) E) E) E) E) E) E) E) E) E) E) E) E) E) E) E) E) E) E) E) E) E) E) E) E) E) E) E
set_option maxRecDepth 100000 in
theorem xe_220_11 : xf_220_11 = zEx xb_220_11 := by
  unfold xf_220_11 xb_220_11
  rfl
theorem xc_220_11 : zCd 220 [0, 2, 10, 52, 113, 115, 136, 195, 201, 207, 209, 219, 264, 270] 219 xb_220_11 := zc_iload_n xj_220 220 2 rfl rfl zf_ild_2 (zc_iconst xj_220 221 3 3 rfl rfl rfl (zc_ic_ge xj_220 224 43 264 rfl rfl rfl (zc_aload_n xj_220 225 0 rfl rfl zf_ald_0 (zc_getf xj_220 228 20 9 3 97 rfl rfl (zf_getf_3 _) (zc_bipush xj_220 230 40 40 rfl rfl rfl (zc_aload_n xj_220 231 0 rfl rfl zf_ald_0 (zc_getf xj_220 234 17 9 2 96 rfl rfl (zf_getf_2 _) (zc_iconst xj_220 235 3 3 rfl rfl rfl (zc_iload_n xj_220 236 1 rfl rfl zf_ild_1 (zc_imul xj_220 237 rfl rfl (zc_iload_n xj_220 238 2 rfl rfl zf_ild_2 (zc_iadd xj_220 239 rfl rfl (zc_iaload xj_220 240 rfl rfl (zc_imul xj_220 241 rfl rfl (zc_aload_n xj_220 242 0 rfl rfl zf_ald_0 (zc_getf xj_220 245 17 9 2 96 rfl rfl (zf_getf_2 _) (zc_iconst xj_220 246 3 3 rfl rfl rfl (zc_iload_n xj_220 247 1 rfl rfl zf_ild_1 (zc_imul xj_220 248 rfl rfl (zc_iload_n xj_220 249 2 rfl rfl zf_ild_2 (zc_iconst xj_220 250 1 1 rfl rfl rfl (zc_iadd xj_220 251 rfl rfl (zc_iconst xj_220 252 3 3 rfl rfl rfl (zc_irem xj_220 253 rfl rfl (zc_iadd xj_220 254 rfl rfl (zc_iaload xj_220 255 rfl rfl (zc_iadd xj_220 256 rfl rfl (zc_iload_n xj_220 257 1 rfl rfl zf_ild_1 (zc_iastore xj_220 258 rfl rfl (zc_iinc xj_220 261 2 1 1 rfl rfl rfl (zf_inc_2 _) (zc_goto xj_220 262 (-42) 219 rfl rfl rfl (trivial))))))))))))))))))))))))))))))))
noncomputable def xb_220_10 : List zF := zq_ildg zG1 :: zq_aldg zG0 :: zq_getfg 9 zG4 :: zq_ic_ge 270 :: zq_k 0 :: zq_istg zE2 :: xb_220_11
noncomputable def xf_220_10 : zE → zKn := fun E => zq_ildg zG1 (zq_aldg zG0 (zq_getfg 9 zG4 (zq_ic_ge 270 (zq_k 0 (zq_istg zE2 (xf_220_11 E) E) E) E) E) E) E
theorem xe_220_10 : xf_220_10 = zEx xb_220_10 := by
  unfold xf_220_10 xb_220_10
  rw [xe_220_11]
  rfl
theorem xc_220_10 : zCd 220 [0, 2, 10, 52, 113, 115, 136, 195, 201, 207, 209, 219, 264, 270] 209 xb_220_10 := zc_iload_n xj_220 210 1 rfl rfl zf_ild_1 (zc_aload_n xj_220 211 0 rfl rfl zf_ald_0 (zc_getf xj_220 214 134 9 4 98 rfl rfl (zf_getf_4 _) (zc_ic_ge xj_220 217 56 270 rfl rfl rfl (zc_iconst xj_220 218 0 0 rfl rfl rfl (zc_istore_n xj_220 219 2 rfl rfl zf_ist_2 (xc_220_11))))))
noncomputable def xb_220_9 : List zF := zq_k 0 :: zq_istg zE1 :: xb_220_10
noncomputable def xf_220_9 : zE → zKn := fun E => zq_k 0 (zq_istg zE1 (xf_220_10 E) E) E
theorem xe_220_9 : xf_220_9 = zEx xb_220_9 := by
  unfold xf_220_9 xb_220_9
  rw [xe_220_10]
  rfl
theorem xc_220_9 : zCd 220 [0, 2, 10, 52, 113, 115, 136, 195, 201, 207, 209, 219, 264, 270] 207 xb_220_9 := zc_iconst xj_220 208 0 0 rfl rfl rfl (zc_istore_n xj_220 209 1 rfl rfl zf_ist_1 (xc_220_10))
noncomputable def xb_220_8 : List zF := [zq_incg zG1 zE1 1, zq_goto 2]
noncomputable def xf_220_8 : zE → zKn := fun E => zq_incg zG1 zE1 1 (zq_goto 2 (zNil) E) E
theorem xe_220_8 : xf_220_8 = zEx xb_220_8 := by
  unfold xf_220_8 xb_220_8
  rfl
theorem xc_220_8 : zCd 220 [0, 2, 10, 52, 113, 115, 136, 195, 201, 207, 209, 219, 264, 270] 201 xb_220_8 := zc_iinc xj_220 204 1 1 1 rfl rfl rfl (zf_inc_1 _) (zc_goto xj_220 205 (-202) 2 rfl rfl rfl (trivial))
noncomputable def xb_220_7 : List zF := [zq_incg zG2 zE2 4294967295, zq_goto 115]
noncomputable def xf_220_7 : zE → zKn := fun E => zq_incg zG2 zE2 4294967295 (zq_goto 115 (zNil) E) E
theorem xe_220_7 : xf_220_7 = zEx xb_220_7 := by
  unfold xf_220_7 xb_220_7
  rfl
theorem xc_220_7 : zCd 220 [0, 2, 10, 52, 113, 115, 136, 195, 201, 207, 209, 219, 264, 270] 195 xb_220_7 := zc_iinc xj_220 198 2 (-1) 4294967295 rfl rfl rfl (zf_inc_2 _) (zc_goto xj_220 199 (-83) 115 rfl rfl rfl (trivial))
noncomputable def xb_220_6 : List zF := [zq_ildg zG3, zq_k 3, zq_ic_ge 195, zq_aldg zG0, zq_getfg 9 zG2, zq_k 3, zq_ildg zG2, zq_mul, zq_ildg zG3, zq_add, zq_ild_ 0, zq_istg zE4, zq_aldg zG0, zq_getfg 9 zG2, zq_k 3, zq_ildg zG2, zq_mul, zq_ildg zG3, zq_add, zq_aldg zG0, zq_getfg 9 zG2, zq_k 3, zq_ildg zG2, zq_mul, zq_k 3, zq_sub, zq_ildg zG3, zq_add, zq_ild_ 0, zq_iast, zq_aldg zG0, zq_getfg 9 zG2, zq_k 3, zq_ildg zG2, zq_mul, zq_k 3, zq_sub, zq_ildg zG3, zq_add, zq_ildg zG4, zq_iast, zq_incg zG3 zE3 1, zq_goto 136]
noncomputable def xf_220_6 : zE → zKn := fun E => zq_ildg zG3 (zq_k 3 (zq_ic_ge 195 (zq_aldg zG0 (zq_getfg 9 zG2 (zq_k 3 (zq_ildg zG2 (zq_mul (zq_ildg zG3 (zq_add (zq_ild_ 0 (zq_istg zE4 (zq_aldg zG0 (zq_getfg 9 zG2 (zq_k 3 (zq_ildg zG2 (zq_mul (zq_ildg zG3 (zq_add (zq_aldg zG0 (zq_getfg 9 zG2 (zq_k 3 (zq_ildg zG2 (zq_mul (zq_k 3 (zq_sub (zq_ildg zG3 (zq_add (zq_ild_ 0 (zq_iast (zq_aldg zG0 (zq_getfg 9 zG2 (zq_k 3 (zq_ildg zG2 (zq_mul (zq_k 3 (zq_sub (zq_ildg zG3 (zq_add (zq_ildg zG4 (zq_iast (zq_incg zG3 zE3 1 (zq_goto 136 (zNil) E) E) E) E) E) E) E) E) E) E) E) E) E) E) E) E) E) E) E) E) E) E) E) E) E) E) E) E) E) E) E) E) E) E) E) E) E) E) E) E) E) E) E
set_option maxRecDepth 100000 in
theorem xe_220_6 : xf_220_6 = zEx xb_220_6 := by
  unfold xf_220_6 xb_220_6
  rfl
theorem xc_220_6 : zCd 220 [0, 2, 10, 52, 113, 115, 136, 195, 201, 207, 209, 219, 264, 270] 136 xb_220_6 := zc_iload_n xj_220 137 3 rfl rfl zf_ild_3 (zc_iconst xj_220 138 3 3 rfl rfl rfl (zc_ic_ge xj_220 141 57 195 rfl rfl rfl (zc_aload_n xj_220 142 0 rfl rfl zf_ald_0 (zc_getf xj_220 145 17 9 2 96 rfl rfl (zf_getf_2 _) (zc_iconst xj_220 146 3 3 rfl rfl rfl (zc_iload_n xj_220 147 2 rfl rfl zf_ild_2 (zc_imul xj_220 148 rfl rfl (zc_iload_n xj_220 149 3 rfl rfl zf_ild_3 (zc_iadd xj_220 150 rfl rfl (zc_iaload xj_220 151 rfl rfl (zc_istore xj_220 153 4 rfl rfl zf_ist_4 (zc_aload_n xj_220 154 0 rfl rfl zf_ald_0 (zc_getf xj_220 157 17 9 2 96 rfl rfl (zf_getf_2 _) (zc_iconst xj_220 158 3 3 rfl rfl rfl (zc_iload_n xj_220 159 2 rfl rfl zf_ild_2 (zc_imul xj_220 160 rfl rfl (zc_iload_n xj_220 161 3 rfl rfl zf_ild_3 (zc_iadd xj_220 162 rfl rfl (zc_aload_n xj_220 163 0 rfl rfl zf_ald_0 (zc_getf xj_220 166 17 9 2 96 rfl rfl (zf_getf_2 _) (zc_iconst xj_220 167 3 3 rfl rfl rfl (zc_iload_n xj_220 168 2 rfl rfl zf_ild_2 (zc_imul xj_220 169 rfl rfl (zc_iconst xj_220 170 3 3 rfl rfl rfl (zc_isub xj_220 171 rfl rfl (zc_iload_n xj_220 172 3 rfl rfl zf_ild_3 (zc_iadd xj_220 173 rfl rfl (zc_iaload xj_220 174 rfl rfl (zc_iastore xj_220 175 rfl rfl (zc_aload_n xj_220 176 0 rfl rfl zf_ald_0 (zc_getf xj_220 179 17 9 2 96 rfl rfl (zf_getf_2 _) (zc_iconst xj_220 180 3 3 rfl rfl rfl (zc_iload_n xj_220 181 2 rfl rfl zf_ild_2 (zc_imul xj_220 182 rfl rfl (zc_iconst xj_220 183 3 3 rfl rfl rfl (zc_isub xj_220 184 rfl rfl (zc_iload_n xj_220 185 3 rfl rfl zf_ild_3 (zc_iadd xj_220 186 rfl rfl (zc_iload xj_220 188 4 rfl rfl zf_ild_4 (zc_iastore xj_220 189 rfl rfl (zc_iinc xj_220 192 3 1 1 rfl rfl rfl (zf_inc_3 _) (zc_goto xj_220 193 (-56) 136 rfl rfl rfl (trivial)))))))))))))))))))))))))))))))))))))))))))
noncomputable def xb_220_5 : List zF := zq_ildg zG2 :: zq_if_le 201 :: zq_aldg zG0 :: zq_ildg zG2 :: zq_calli 221 1 9 2 :: zq_aldg zG0 :: zq_ildg zG2 :: zq_k 1 :: zq_sub :: zq_calli 221 1 9 2 :: zq_ic_ge 201 :: zq_k 0 :: zq_istg zE3 :: xb_220_6
noncomputable def xf_220_5 : zE → zKn := fun E => zq_ildg zG2 (zq_if_le 201 (zq_aldg zG0 (zq_ildg zG2 (zq_calli 221 1 9 2 (zq_aldg zG0 (zq_ildg zG2 (zq_k 1 (zq_sub (zq_calli 221 1 9 2 (zq_ic_ge 201 (zq_k 0 (zq_istg zE3 (xf_220_6 E) E) E) E) E) E) E) E) E) E) E) E) E) E
theorem xe_220_5 : xf_220_5 = zEx xb_220_5 := by
  unfold xf_220_5 xb_220_5
  rw [xe_220_6]
  rfl
theorem xc_220_5 : zCd 220 [0, 2, 10, 52, 113, 115, 136, 195, 201, 207, 209, 219, 264, 270] 115 xb_220_5 := zc_iload_n xj_220 116 2 rfl rfl zf_ild_2 (zc_if_le xj_220 119 85 201 rfl rfl rfl (zc_aload_n xj_220 120 0 rfl rfl zf_ald_0 (zc_iload_n xj_220 121 2 rfl rfl zf_ild_2 (zc_invokevirtual1 xj_220 124 153 221 1 280 9 2 rfl rfl rfl rfl (zc_aload_n xj_220 125 0 rfl rfl zf_ald_0 (zc_iload_n xj_220 126 2 rfl rfl zf_ild_2 (zc_iconst xj_220 127 1 1 rfl rfl rfl (zc_isub xj_220 128 rfl rfl (zc_invokevirtual1 xj_220 131 153 221 1 280 9 2 rfl rfl rfl rfl (zc_ic_ge xj_220 134 70 201 rfl rfl rfl (zc_iconst xj_220 135 0 0 rfl rfl rfl (zc_istore_n xj_220 136 3 rfl rfl zf_ist_3 (xc_220_6)))))))))))))
noncomputable def xb_220_4 : List zF := zq_ildg zG1 :: zq_istg zE2 :: xb_220_5
noncomputable def xf_220_4 : zE → zKn := fun E => zq_ildg zG1 (zq_istg zE2 (xf_220_5 E) E) E
theorem xe_220_4 : xf_220_4 = zEx xb_220_4 := by
  unfold xf_220_4 xb_220_4
  rw [xe_220_5]
  rfl
theorem xc_220_4 : zCd 220 [0, 2, 10, 52, 113, 115, 136, 195, 201, 207, 209, 219, 264, 270] 113 xb_220_4 := zc_iload_n xj_220 114 1 rfl rfl zf_ild_1 (zc_istore_n xj_220 115 2 rfl rfl zf_ist_2 (xc_220_5))
noncomputable def xb_220_3 : List zF := [zq_aldg zG0, zq_getfg 9 zG2, zq_k 3, zq_ildg zG1, zq_mul, zq_ild_ 0, zq_istg zE2, zq_aldg zG0, zq_getfg 9 zG2, zq_k 3, zq_ildg zG1, zq_mul, zq_aldg zG0, zq_getfg 9 zG2, zq_k 3, zq_ildg zG1, zq_mul, zq_k 1, zq_add, zq_ild_ 0, zq_iast, zq_aldg zG0, zq_getfg 9 zG2, zq_k 3, zq_ildg zG1, zq_mul, zq_k 1, zq_add, zq_aldg zG0, zq_getfg 9 zG2, zq_k 3, zq_ildg zG1, zq_mul, zq_k 2, zq_add, zq_ild_ 0, zq_iast, zq_aldg zG0, zq_getfg 9 zG2, zq_k 3, zq_ildg zG1, zq_mul, zq_k 2, zq_add, zq_ildg zG2, zq_iast, zq_goto 10]
noncomputable def xf_220_3 : zE → zKn := fun E => zq_aldg zG0 (zq_getfg 9 zG2 (zq_k 3 (zq_ildg zG1 (zq_mul (zq_ild_ 0 (zq_istg zE2 (zq_aldg zG0 (zq_getfg 9 zG2 (zq_k 3 (zq_ildg zG1 (zq_mul (zq_aldg zG0 (zq_getfg 9 zG2 (zq_k 3 (zq_ildg zG1 (zq_mul (zq_k 1 (zq_add (zq_ild_ 0 (zq_iast (zq_aldg zG0 (zq_getfg 9 zG2 (zq_k 3 (zq_ildg zG1 (zq_mul (zq_k 1 (zq_add (zq_aldg zG0 (zq_getfg 9 zG2 (zq_k 3 (zq_ildg zG1 (zq_mul (zq_k 2 (zq_add (zq_ild_ 0 (zq_iast (zq_aldg zG0 (zq_getfg 9 zG2 (zq_k 3 (zq_ildg zG1 (zq_mul (zq_k 2 (zq_add (zq_ildg zG2 (zq_iast (zq_goto 10 (zNil) E) E) E) E) E) E) E) E) E) E) E) E) E) E) E) E) E) E) E) E) E) E) E) E) E) E) E) E) E) E) E) E) E) E) E) E) E) E) E) E) E) E) E) E) E) E) E
set_option maxRecDepth 100000 in
theorem xe_220_3 : xf_220_3 = zEx xb_220_3 := by
  unfold xf_220_3 xb_220_3
  rfl
theorem xc_220_3 : zCd 220 [0, 2, 10, 52, 113, 115, 136, 195, 201, 207, 209, 219, 264, 270] 52 xb_220_3 := zc_aload_n xj_220 53 0 rfl rfl zf_ald_0 (zc_getf xj_220 56 17 9 2 96 rfl rfl (zf_getf_2 _) (zc_iconst xj_220 57 3 3 rfl rfl rfl (zc_iload_n xj_220 58 1 rfl rfl zf_ild_1 (zc_imul xj_220 59 rfl rfl (zc_iaload xj_220 60 rfl rfl (zc_istore_n xj_220 61 2 rfl rfl zf_ist_2 (zc_aload_n xj_220 62 0 rfl rfl zf_ald_0 (zc_getf xj_220 65 17 9 2 96 rfl rfl (zf_getf_2 _) (zc_iconst xj_220 66 3 3 rfl rfl rfl (zc_iload_n xj_220 67 1 rfl rfl zf_ild_1 (zc_imul xj_220 68 rfl rfl (zc_aload_n xj_220 69 0 rfl rfl zf_ald_0 (zc_getf xj_220 72 17 9 2 96 rfl rfl (zf_getf_2 _) (zc_iconst xj_220 73 3 3 rfl rfl rfl (zc_iload_n xj_220 74 1 rfl rfl zf_ild_1 (zc_imul xj_220 75 rfl rfl (zc_iconst xj_220 76 1 1 rfl rfl rfl (zc_iadd xj_220 77 rfl rfl (zc_iaload xj_220 78 rfl rfl (zc_iastore xj_220 79 rfl rfl (zc_aload_n xj_220 80 0 rfl rfl zf_ald_0 (zc_getf xj_220 83 17 9 2 96 rfl rfl (zf_getf_2 _) (zc_iconst xj_220 84 3 3 rfl rfl rfl (zc_iload_n xj_220 85 1 rfl rfl zf_ild_1 (zc_imul xj_220 86 rfl rfl (zc_iconst xj_220 87 1 1 rfl rfl rfl (zc_iadd xj_220 88 rfl rfl (zc_aload_n xj_220 89 0 rfl rfl zf_ald_0 (zc_getf xj_220 92 17 9 2 96 rfl rfl (zf_getf_2 _) (zc_iconst xj_220 93 3 3 rfl rfl rfl (zc_iload_n xj_220 94 1 rfl rfl zf_ild_1 (zc_imul xj_220 95 rfl rfl (zc_iconst xj_220 96 2 2 rfl rfl rfl (zc_iadd xj_220 97 rfl rfl (zc_iaload xj_220 98 rfl rfl (zc_iastore xj_220 99 rfl rfl (zc_aload_n xj_220 100 0 rfl rfl zf_ald_0 (zc_getf xj_220 103 17 9 2 96 rfl rfl (zf_getf_2 _) (zc_iconst xj_220 104 3 3 rfl rfl rfl (zc_iload_n xj_220 105 1 rfl rfl zf_ild_1 (zc_imul xj_220 106 rfl rfl (zc_iconst xj_220 107 2 2 rfl rfl rfl (zc_iadd xj_220 108 rfl rfl (zc_iload_n xj_220 109 2 rfl rfl zf_ild_2 (zc_iastore xj_220 110 rfl rfl (zc_goto xj_220 111 (-100) 10 rfl rfl rfl (trivial)))))))))))))))))))))))))))))))))))))))))))))))
noncomputable def xb_220_2 : List zF := zq_aldg zG0 :: zq_getfg 9 zG2 :: zq_k 3 :: zq_ildg zG1 :: zq_mul :: zq_ild_ 0 :: zq_aldg zG0 :: zq_getfg 9 zG2 :: zq_k 3 :: zq_ildg zG1 :: zq_mul :: zq_k 1 :: zq_add :: zq_ild_ 0 :: zq_ic_gt 52 :: zq_aldg zG0 :: zq_getfg 9 zG2 :: zq_k 3 :: zq_ildg zG1 :: zq_mul :: zq_ild_ 0 :: zq_aldg zG0 :: zq_getfg 9 zG2 :: zq_k 3 :: zq_ildg zG1 :: zq_mul :: zq_k 2 :: zq_add :: zq_ild_ 0 :: zq_ic_le 113 :: xb_220_3
noncomputable def xf_220_2 : zE → zKn := fun E => zq_aldg zG0 (zq_getfg 9 zG2 (zq_k 3 (zq_ildg zG1 (zq_mul (zq_ild_ 0 (zq_aldg zG0 (zq_getfg 9 zG2 (zq_k 3 (zq_ildg zG1 (zq_mul (zq_k 1 (zq_add (zq_ild_ 0 (zq_ic_gt 52 (zq_aldg zG0 (zq_getfg 9 zG2 (zq_k 3 (zq_ildg zG1 (zq_mul (zq_ild_ 0 (zq_aldg zG0 (zq_getfg 9 zG2 (zq_k 3 (zq_ildg zG1 (zq_mul (zq_k 2 (zq_add (zq_ild_ 0 (zq_ic_le 113 (xf_220_3 E) E) E) E) E) E) E) E) E) E) E) E) E) E) E) E) E) E) E) E) E) E) E) E) E) E) E) E) E) E) E
theorem xe_220_2 : xf_220_2 = zEx xb_220_2 := by
  unfold xf_220_2 xb_220_2
  rw [xe_220_3]
  rfl
theorem xc_220_2 : zCd 220 [0, 2, 10, 52, 113, 115, 136, 195, 201, 207, 209, 219, 264, 270] 10 xb_220_2 := zc_aload_n xj_220 11 0 rfl rfl zf_ald_0 (zc_getf xj_220 14 17 9 2 96 rfl rfl (zf_getf_2 _) (zc_iconst xj_220 15 3 3 rfl rfl rfl (zc_iload_n xj_220 16 1 rfl rfl zf_ild_1 (zc_imul xj_220 17 rfl rfl (zc_iaload xj_220 18 rfl rfl (zc_aload_n xj_220 19 0 rfl rfl zf_ald_0 (zc_getf xj_220 22 17 9 2 96 rfl rfl (zf_getf_2 _) (zc_iconst xj_220 23 3 3 rfl rfl rfl (zc_iload_n xj_220 24 1 rfl rfl zf_ild_1 (zc_imul xj_220 25 rfl rfl (zc_iconst xj_220 26 1 1 rfl rfl rfl (zc_iadd xj_220 27 rfl rfl (zc_iaload xj_220 28 rfl rfl (zc_ic_gt xj_220 31 24 52 rfl rfl rfl (zc_aload_n xj_220 32 0 rfl rfl zf_ald_0 (zc_getf xj_220 35 17 9 2 96 rfl rfl (zf_getf_2 _) (zc_iconst xj_220 36 3 3 rfl rfl rfl (zc_iload_n xj_220 37 1 rfl rfl zf_ild_1 (zc_imul xj_220 38 rfl rfl (zc_iaload xj_220 39 rfl rfl (zc_aload_n xj_220 40 0 rfl rfl zf_ald_0 (zc_getf xj_220 43 17 9 2 96 rfl rfl (zf_getf_2 _) (zc_iconst xj_220 44 3 3 rfl rfl rfl (zc_iload_n xj_220 45 1 rfl rfl zf_ild_1 (zc_imul xj_220 46 rfl rfl (zc_iconst xj_220 47 2 2 rfl rfl rfl (zc_iadd xj_220 48 rfl rfl (zc_iaload xj_220 49 rfl rfl (zc_ic_le xj_220 52 64 113 rfl rfl rfl (xc_220_3))))))))))))))))))))))))))))))
noncomputable def xb_220_1 : List zF := zq_ildg zG1 :: zq_aldg zG0 :: zq_getfg 9 zG4 :: zq_ic_ge 207 :: xb_220_2
noncomputable def xf_220_1 : zE → zKn := fun E => zq_ildg zG1 (zq_aldg zG0 (zq_getfg 9 zG4 (zq_ic_ge 207 (xf_220_2 E) E) E) E) E
theorem xe_220_1 : xf_220_1 = zEx xb_220_1 := by
  unfold xf_220_1 xb_220_1
  rw [xe_220_2]
  rfl
theorem xc_220_1 : zCd 220 [0, 2, 10, 52, 113, 115, 136, 195, 201, 207, 209, 219, 264, 270] 2 xb_220_1 := zc_iload_n xj_220 3 1 rfl rfl zf_ild_1 (zc_aload_n xj_220 4 0 rfl rfl zf_ald_0 (zc_getf xj_220 7 134 9 4 98 rfl rfl (zf_getf_4 _) (zc_ic_ge xj_220 10 200 207 rfl rfl rfl (xc_220_2))))
noncomputable def xb_220_0 : List zF := zq_k 0 :: zq_istg zE1 :: xb_220_1
noncomputable def xf_220_0 : zE → zKn := fun E => zq_k 0 (zq_istg zE1 (xf_220_1 E) E) E
theorem xe_220_0 : xf_220_0 = zEx xb_220_0 := by
  unfold xf_220_0 xb_220_0
  rw [xe_220_1]
  rfl
theorem xc_220_0 : zCd 220 [0, 2, 10, 52, 113, 115, 136, 195, 201, 207, 209, 219, 264, 270] 0 xb_220_0 := zc_iconst xj_220 1 0 0 rfl rfl rfl (zc_istore_n xj_220 2 1 rfl rfl zf_ist_1 (xc_220_1))
noncomputable def xm_220 : Lean.RArray (zE → zKn) := .branch 195 (.branch 52 (.branch 2 (.leaf xf_220_0) (.branch 10 (.leaf xf_220_1) (.leaf xf_220_2))) (.branch 115 (.branch 113 (.leaf xf_220_3) (.leaf xf_220_4)) (.branch 136 (.leaf xf_220_5) (.leaf xf_220_6)))) (.branch 209 (.branch 201 (.leaf xf_220_7) (.branch 207 (.leaf xf_220_8) (.leaf xf_220_9))) (.branch 264 (.branch 219 (.leaf xf_220_10) (.leaf xf_220_11)) (.branch 270 (.leaf xf_220_12) (.leaf xf_220_13))))
theorem xa_220 : zCdAll 220 [0, 2, 10, 52, 113, 115, 136, 195, 201, 207, 209, 219, 264, 270] xm_220 := zAll2_ok (P := fun t => ∃ c, zCd 220 [0, 2, 10, 52, 113, 115, 136, 195, 201, 207, 209, 219, 264, 270] t c ∧ xm_220.get t = zEx c) ⟨⟨_, xc_220_0, xe_220_0⟩, ⟨_, xc_220_1, xe_220_1⟩, ⟨_, xc_220_2, xe_220_2⟩, ⟨_, xc_220_3, xe_220_3⟩, ⟨_, xc_220_4, xe_220_4⟩, ⟨_, xc_220_5, xe_220_5⟩, ⟨_, xc_220_6, xe_220_6⟩, ⟨_, xc_220_7, xe_220_7⟩, ⟨_, xc_220_8, xe_220_8⟩, ⟨_, xc_220_9, xe_220_9⟩, ⟨_, xc_220_10, xe_220_10⟩, ⟨_, xc_220_11, xe_220_11⟩, ⟨_, xc_220_12, xe_220_12⟩, ⟨_, xc_220_13, xe_220_13⟩, trivial⟩
/-- SquareMeshModel.codeOf -/
theorem xj_221 : ∀ pc, pI 221 pc = pJ_221 pc := fun _ => rfl
noncomputable def xb_221_0 : List zF := [zq_k 40, zq_aldg zG0, zq_getfg 9 zG2, zq_k 3, zq_ildg zG1, zq_mul, zq_ild_ 0, zq_mul, zq_aldg zG0, zq_getfg 9 zG2, zq_k 3, zq_ildg zG1, zq_mul, zq_k 1, zq_add, zq_ild_ 0, zq_add, zq_k 40, zq_mul, zq_aldg zG0, zq_getfg 9 zG2, zq_k 3, zq_ildg zG1, zq_mul, zq_k 2, zq_add, zq_ild_ 0, zq_add, zq_iret 0]
noncomputable def xf_221_0 : zE → zKn := fun E => zq_k 40 (zq_aldg zG0 (zq_getfg 9 zG2 (zq_k 3 (zq_ildg zG1 (zq_mul (zq_ild_ 0 (zq_mul (zq_aldg zG0 (zq_getfg 9 zG2 (zq_k 3 (zq_ildg zG1 (zq_mul (zq_k 1 (zq_add (zq_ild_ 0 (zq_add (zq_k 40 (zq_mul (zq_aldg zG0 (zq_getfg 9 zG2 (zq_k 3 (zq_ildg zG1 (zq_mul (zq_k 2 (zq_add (zq_ild_ 0 (zq_add (zq_iret 0 (zNil) E) E) E) E) E) E) E) E) E) E) E) E) E) E) E) E) E) E) E) E) E) E) E) E) E) E) E) E) E
theorem xe_221_0 : xf_221_0 = zEx xb_221_0 := by
  unfold xf_221_0 xb_221_0
  rfl
theorem xc_221_0 : zCd 221 [0] 0 xb_221_0 := zc_bipush xj_221 2 40 40 rfl rfl rfl (zc_aload_n xj_221 3 0 rfl rfl zf_ald_0 (zc_getf xj_221 6 17 9 2 96 rfl rfl (zf_getf_2 _) (zc_iconst xj_221 7 3 3 rfl rfl rfl (zc_iload_n xj_221 8 1 rfl rfl zf_ild_1 (zc_imul xj_221 9 rfl rfl (zc_iaload xj_221 10 rfl rfl (zc_imul xj_221 11 rfl rfl (zc_aload_n xj_221 12 0 rfl rfl zf_ald_0 (zc_getf xj_221 15 17 9 2 96 rfl rfl (zf_getf_2 _) (zc_iconst xj_221 16 3 3 rfl rfl rfl (zc_iload_n xj_221 17 1 rfl rfl zf_ild_1 (zc_imul xj_221 18 rfl rfl (zc_iconst xj_221 19 1 1 rfl rfl rfl (zc_iadd xj_221 20 rfl rfl (zc_iaload xj_221 21 rfl rfl (zc_iadd xj_221 22 rfl rfl (zc_bipush xj_221 24 40 40 rfl rfl rfl (zc_imul xj_221 25 rfl rfl (zc_aload_n xj_221 26 0 rfl rfl zf_ald_0 (zc_getf xj_221 29 17 9 2 96 rfl rfl (zf_getf_2 _) (zc_iconst xj_221 30 3 3 rfl rfl rfl (zc_iload_n xj_221 31 1 rfl rfl zf_ild_1 (zc_imul xj_221 32 rfl rfl (zc_iconst xj_221 33 2 2 rfl rfl rfl (zc_iadd xj_221 34 rfl rfl (zc_iaload xj_221 35 rfl rfl (zc_iadd xj_221 36 rfl rfl (zc_ireturn0 xj_221 37 rfl rfl (trivial)))))))))))))))))))))))))))))
noncomputable def xm_221 : Lean.RArray (zE → zKn) := .leaf xf_221_0
theorem xa_221 : zCdAll 221 [0] xm_221 := zAll2_ok (P := fun t => ∃ c, zCd 221 [0] t c ∧ xm_221.get t = zEx c) ⟨⟨_, xc_221_0, xe_221_0⟩, trivial⟩
/-- SquareMeshModel.putAside -/
theorem xj_222 : ∀ pc, pI 222 pc = pJ_222 pc := fun _ => rfl
noncomputable def xb_222_2 : List zF := [zq_vret]
noncomputable def xf_222_2 : zE → zKn := fun E => zq_vret (zNil) E
theorem xe_222_2 : xf_222_2 = zEx xb_222_2 := by
  unfold xf_222_2 xb_222_2
  rfl
theorem xc_222_2 : zCd 222 [0, 2, 29] 29 xb_222_2 := zc_return_ xj_222 30 rfl rfl (trivial)
noncomputable def xb_222_1 : List zF := [zq_ildg zG1, zq_k 1778, zq_ic_ge 29, zq_aldg zG0, zq_getfg 9 zG5, zq_ildg zG1, zq_aldg zG0, zq_getfg 9 zG0, zq_k 2, zq_ildg zG1, zq_add, zq_ild_ 0, zq_iast, zq_incg zG1 zE1 1, zq_goto 2]
noncomputable def xf_222_1 : zE → zKn := fun E => zq_ildg zG1 (zq_k 1778 (zq_ic_ge 29 (zq_aldg zG0 (zq_getfg 9 zG5 (zq_ildg zG1 (zq_aldg zG0 (zq_getfg 9 zG0 (zq_k 2 (zq_ildg zG1 (zq_add (zq_ild_ 0 (zq_iast (zq_incg zG1 zE1 1 (zq_goto 2 (zNil) E) E) E) E) E) E) E) E) E) E) E) E) E) E) E
theorem xe_222_1 : xf_222_1 = zEx xb_222_1 := by
  unfold xf_222_1 xb_222_1
  rfl
theorem xc_222_1 : zCd 222 [0, 2, 29] 2 xb_222_1 := zc_iload_n xj_222 3 1 rfl rfl zf_ild_1 (zc_sipush xj_222 6 1778 1778 rfl rfl rfl (zc_ic_ge xj_222 9 23 29 rfl rfl rfl (zc_aload_n xj_222 10 0 rfl rfl zf_ald_0 (zc_getf xj_222 13 23 9 5 99 rfl rfl (zf_getf_5 _) (zc_iload_n xj_222 14 1 rfl rfl zf_ild_1 (zc_aload_n xj_222 15 0 rfl rfl zf_ald_0 (zc_getf xj_222 18 8 9 0 94 rfl rfl (zf_getf_0 _) (zc_iconst xj_222 19 2 2 rfl rfl rfl (zc_iload_n xj_222 20 1 rfl rfl zf_ild_1 (zc_iadd xj_222 21 rfl rfl (zc_iaload xj_222 22 rfl rfl (zc_iastore xj_222 23 rfl rfl (zc_iinc xj_222 26 1 1 1 rfl rfl rfl (zf_inc_1 _) (zc_goto xj_222 27 (-24) 2 rfl rfl rfl (trivial)))))))))))))))
noncomputable def xb_222_0 : List zF := zq_k 0 :: zq_istg zE1 :: xb_222_1
noncomputable def xf_222_0 : zE → zKn := fun E => zq_k 0 (zq_istg zE1 (xf_222_1 E) E) E
theorem xe_222_0 : xf_222_0 = zEx xb_222_0 := by
  unfold xf_222_0 xb_222_0
  rw [xe_222_1]
  rfl
theorem xc_222_0 : zCd 222 [0, 2, 29] 0 xb_222_0 := zc_iconst xj_222 1 0 0 rfl rfl rfl (zc_istore_n xj_222 2 1 rfl rfl zf_ist_1 (xc_222_1))
noncomputable def xm_222 : Lean.RArray (zE → zKn) := .branch 2 (.leaf xf_222_0) (.branch 29 (.leaf xf_222_1) (.leaf xf_222_2))
theorem xa_222 : zCdAll 222 [0, 2, 29] xm_222 := zAll2_ok (P := fun t => ∃ c, zCd 222 [0, 2, 29] t c ∧ xm_222.get t = zEx c) ⟨⟨_, xc_222_0, xe_222_0⟩, ⟨_, xc_222_1, xe_222_1⟩, ⟨_, xc_222_2, xe_222_2⟩, trivial⟩
/-- SquareMeshModel.bringBack -/
theorem xj_223 : ∀ pc, pI 223 pc = pJ_223 pc := fun _ => rfl
noncomputable def xb_223_2 : List zF := [zq_aldg zG0, zq_calli 219 0 9 5, zq_vret]
noncomputable def xf_223_2 : zE → zKn := fun E => zq_aldg zG0 (zq_calli 219 0 9 5 (zq_vret (zNil) E) E) E
theorem xe_223_2 : xf_223_2 = zEx xb_223_2 := by
  unfold xf_223_2 xb_223_2
  rfl
theorem xc_223_2 : zCd 223 [0, 2, 29] 29 xb_223_2 := zc_aload_n xj_223 30 0 rfl rfl zf_ald_0 (zc_invokevirtual1 xj_223 33 61 219 0 255 9 5 rfl rfl rfl rfl (zc_return_ xj_223 34 rfl rfl (trivial)))
noncomputable def xb_223_1 : List zF := [zq_ildg zG1, zq_k 1778, zq_ic_ge 29, zq_aldg zG0, zq_getfg 9 zG0, zq_k 2, zq_ildg zG1, zq_add, zq_aldg zG0, zq_getfg 9 zG5, zq_ildg zG1, zq_ild_ 0, zq_iast, zq_incg zG1 zE1 1, zq_goto 2]
noncomputable def xf_223_1 : zE → zKn := fun E => zq_ildg zG1 (zq_k 1778 (zq_ic_ge 29 (zq_aldg zG0 (zq_getfg 9 zG0 (zq_k 2 (zq_ildg zG1 (zq_add (zq_aldg zG0 (zq_getfg 9 zG5 (zq_ildg zG1 (zq_ild_ 0 (zq_iast (zq_incg zG1 zE1 1 (zq_goto 2 (zNil) E) E) E) E) E) E) E) E) E) E) E) E) E) E) E
theorem xe_223_1 : xf_223_1 = zEx xb_223_1 := by
  unfold xf_223_1 xb_223_1
  rfl
theorem xc_223_1 : zCd 223 [0, 2, 29] 2 xb_223_1 := zc_iload_n xj_223 3 1 rfl rfl zf_ild_1 (zc_sipush xj_223 6 1778 1778 rfl rfl rfl (zc_ic_ge xj_223 9 23 29 rfl rfl rfl (zc_aload_n xj_223 10 0 rfl rfl zf_ald_0 (zc_getf xj_223 13 8 9 0 94 rfl rfl (zf_getf_0 _) (zc_iconst xj_223 14 2 2 rfl rfl rfl (zc_iload_n xj_223 15 1 rfl rfl zf_ild_1 (zc_iadd xj_223 16 rfl rfl (zc_aload_n xj_223 17 0 rfl rfl zf_ald_0 (zc_getf xj_223 20 23 9 5 99 rfl rfl (zf_getf_5 _) (zc_iload_n xj_223 21 1 rfl rfl zf_ild_1 (zc_iaload xj_223 22 rfl rfl (zc_iastore xj_223 23 rfl rfl (zc_iinc xj_223 26 1 1 1 rfl rfl rfl (zf_inc_1 _) (zc_goto xj_223 27 (-24) 2 rfl rfl rfl (trivial)))))))))))))))
noncomputable def xb_223_0 : List zF := zq_k 0 :: zq_istg zE1 :: xb_223_1
noncomputable def xf_223_0 : zE → zKn := fun E => zq_k 0 (zq_istg zE1 (xf_223_1 E) E) E
theorem xe_223_0 : xf_223_0 = zEx xb_223_0 := by
  unfold xf_223_0 xb_223_0
  rw [xe_223_1]
  rfl
theorem xc_223_0 : zCd 223 [0, 2, 29] 0 xb_223_0 := zc_iconst xj_223 1 0 0 rfl rfl rfl (zc_istore_n xj_223 2 1 rfl rfl zf_ist_1 (xc_223_1))
noncomputable def xm_223 : Lean.RArray (zE → zKn) := .branch 2 (.leaf xf_223_0) (.branch 29 (.leaf xf_223_1) (.leaf xf_223_2))
theorem xa_223 : zCdAll 223 [0, 2, 29] xm_223 := zAll2_ok (P := fun t => ∃ c, zCd 223 [0, 2, 29] t c ∧ xm_223.get t = zEx c) ⟨⟨_, xc_223_0, xe_223_0⟩, ⟨_, xc_223_1, xe_223_1⟩, ⟨_, xc_223_2, xe_223_2⟩, trivial⟩
/-- SquareMeshModel.stepAt -/
theorem xj_224 : ∀ pc, pI 224 pc = pJ_224 pc := fun _ => rfl
noncomputable def xb_224_0 : List zF := [zq_k 1780, zq_k 1778, zq_ildg zG0, zq_ildg zG1, zq_add, zq_k 20, zq_rem, zq_mul, zq_add, zq_iret 0]
noncomputable def xf_224_0 : zE → zKn := fun E => zq_k 1780 (zq_k 1778 (zq_ildg zG0 (zq_ildg zG1 (zq_add (zq_k 20 (zq_rem (zq_mul (zq_add (zq_iret 0 (zNil) E) E) E) E) E) E) E) E) E) E
theorem xe_224_0 : xf_224_0 = zEx xb_224_0 := by
  unfold xf_224_0 xb_224_0
  rfl
theorem xc_224_0 : zCd 224 [0] 0 xb_224_0 := zc_sipush xj_224 3 1780 1780 rfl rfl rfl (zc_sipush xj_224 6 1778 1778 rfl rfl rfl (zc_iload_n xj_224 7 0 rfl rfl zf_ild_0 (zc_iload_n xj_224 8 1 rfl rfl zf_ild_1 (zc_iadd xj_224 9 rfl rfl (zc_bipush xj_224 11 20 20 rfl rfl rfl (zc_irem xj_224 12 rfl rfl (zc_imul xj_224 13 rfl rfl (zc_iadd xj_224 14 rfl rfl (zc_ireturn0 xj_224 15 rfl rfl (trivial))))))))))
noncomputable def xm_224 : Lean.RArray (zE → zKn) := .leaf xf_224_0
theorem xa_224 : zCdAll 224 [0] xm_224 := zAll2_ok (P := fun t => ∃ c, zCd 224 [0] t c ∧ xm_224.get t = zEx c) ⟨⟨_, xc_224_0, xe_224_0⟩, trivial⟩
/-- SquareMeshModel.keep -/
theorem xj_225 : ∀ pc, pI 225 pc = pJ_225 pc := fun _ => rfl
noncomputable def xb_225_3 : List zF := [zq_aldg zG0, zq_getfg 9 zG0, zq_k 0, zq_dup2, zq_ild_ 0, zq_k 1, zq_add, zq_iast, zq_vret]
noncomputable def xf_225_3 : zE → zKn := fun E => zq_aldg zG0 (zq_getfg 9 zG0 (zq_k 0 (zq_dup2 (zq_ild_ 0 (zq_k 1 (zq_add (zq_iast (zq_vret (zNil) E) E) E) E) E) E) E) E) E
theorem xe_225_3 : xf_225_3 = zEx xb_225_3 := by
  unfold xf_225_3 xb_225_3
  rfl
theorem xc_225_3 : zCd 225 [0, 38, 56, 85] 85 xb_225_3 := zc_aload_n xj_225 86 0 rfl rfl zf_ald_0 (zc_getf xj_225 89 8 9 0 94 rfl rfl (zf_getf_0 _) (zc_iconst xj_225 90 0 0 rfl rfl rfl (zc_dup2 xj_225 91 rfl rfl (zc_iaload xj_225 92 rfl rfl (zc_iconst xj_225 93 1 1 rfl rfl rfl (zc_iadd xj_225 94 rfl rfl (zc_iastore xj_225 95 rfl rfl (zc_return_ xj_225 96 rfl rfl (trivial)))))))))
noncomputable def xb_225_2 : List zF := [zq_ildg zG2, zq_k 1778, zq_ic_ge 85, zq_aldg zG0, zq_getfg 9 zG0, zq_ildg zG1, zq_ildg zG2, zq_add, zq_aldg zG0, zq_getfg 9 zG0, zq_k 2, zq_ildg zG2, zq_add, zq_ild_ 0, zq_iast, zq_incg zG2 zE2 1, zq_goto 56]
noncomputable def xf_225_2 : zE → zKn := fun E => zq_ildg zG2 (zq_k 1778 (zq_ic_ge 85 (zq_aldg zG0 (zq_getfg 9 zG0 (zq_ildg zG1 (zq_ildg zG2 (zq_add (zq_aldg zG0 (zq_getfg 9 zG0 (zq_k 2 (zq_ildg zG2 (zq_add (zq_ild_ 0 (zq_iast (zq_incg zG2 zE2 1 (zq_goto 56 (zNil) E) E) E) E) E) E) E) E) E) E) E) E) E) E) E) E) E
theorem xe_225_2 : xf_225_2 = zEx xb_225_2 := by
  unfold xf_225_2 xb_225_2
  rfl
theorem xc_225_2 : zCd 225 [0, 38, 56, 85] 56 xb_225_2 := zc_iload_n xj_225 57 2 rfl rfl zf_ild_2 (zc_sipush xj_225 60 1778 1778 rfl rfl rfl (zc_ic_ge xj_225 63 25 85 rfl rfl rfl (zc_aload_n xj_225 64 0 rfl rfl zf_ald_0 (zc_getf xj_225 67 8 9 0 94 rfl rfl (zf_getf_0 _) (zc_iload_n xj_225 68 1 rfl rfl zf_ild_1 (zc_iload_n xj_225 69 2 rfl rfl zf_ild_2 (zc_iadd xj_225 70 rfl rfl (zc_aload_n xj_225 71 0 rfl rfl zf_ald_0 (zc_getf xj_225 74 8 9 0 94 rfl rfl (zf_getf_0 _) (zc_iconst xj_225 75 2 2 rfl rfl rfl (zc_iload_n xj_225 76 2 rfl rfl zf_ild_2 (zc_iadd xj_225 77 rfl rfl (zc_iaload xj_225 78 rfl rfl (zc_iastore xj_225 79 rfl rfl (zc_iinc xj_225 82 2 1 1 rfl rfl rfl (zf_inc_2 _) (zc_goto xj_225 83 (-26) 56 rfl rfl rfl (trivial)))))))))))))))))
noncomputable def xb_225_1 : List zF := zq_aldg zG0 :: zq_getfg 9 zG0 :: zq_k 1 :: zq_ild_ 0 :: zq_aldg zG0 :: zq_getfg 9 zG0 :: zq_k 0 :: zq_ild_ 0 :: zq_calls 224 2 2 :: zq_istg zE1 :: zq_k 0 :: zq_istg zE2 :: xb_225_2
noncomputable def xf_225_1 : zE → zKn := fun E => zq_aldg zG0 (zq_getfg 9 zG0 (zq_k 1 (zq_ild_ 0 (zq_aldg zG0 (zq_getfg 9 zG0 (zq_k 0 (zq_ild_ 0 (zq_calls 224 2 2 (zq_istg zE1 (zq_k 0 (zq_istg zE2 (xf_225_2 E) E) E) E) E) E) E) E) E) E) E) E) E
theorem xe_225_1 : xf_225_1 = zEx xb_225_1 := by
  unfold xf_225_1 xb_225_1
  rw [xe_225_2]
  rfl
theorem xc_225_1 : zCd 225 [0, 38, 56, 85] 38 xb_225_1 := zc_aload_n xj_225 39 0 rfl rfl zf_ald_0 (zc_getf xj_225 42 8 9 0 94 rfl rfl (zf_getf_0 _) (zc_iconst xj_225 43 1 1 rfl rfl rfl (zc_iaload xj_225 44 rfl rfl (zc_aload_n xj_225 45 0 rfl rfl zf_ald_0 (zc_getf xj_225 48 8 9 0 94 rfl rfl (zf_getf_0 _) (zc_iconst xj_225 49 0 0 rfl rfl rfl (zc_iaload xj_225 50 rfl rfl (zc_invokestatic2 xj_225 53 156 224 2 286 0 2 rfl rfl rfl rfl (zc_istore_n xj_225 54 1 rfl rfl zf_ist_1 (zc_iconst xj_225 55 0 0 rfl rfl rfl (zc_istore_n xj_225 56 2 rfl rfl zf_ist_2 (xc_225_2))))))))))))
noncomputable def xb_225_0 : List zF := zq_aldg zG0 :: zq_getfg 9 zG0 :: zq_k 0 :: zq_ild_ 0 :: zq_k 20 :: zq_ic_ne 38 :: zq_aldg zG0 :: zq_getfg 9 zG0 :: zq_k 1 :: zq_aldg zG0 :: zq_getfg 9 zG0 :: zq_k 1 :: zq_ild_ 0 :: zq_k 1 :: zq_add :: zq_k 20 :: zq_rem :: zq_iast :: zq_aldg zG0 :: zq_getfg 9 zG0 :: zq_k 0 :: zq_dup2 :: zq_ild_ 0 :: zq_k 1 :: zq_sub :: zq_iast :: xb_225_1
noncomputable def xf_225_0 : zE → zKn := fun E => zq_aldg zG0 (zq_getfg 9 zG0 (zq_k 0 (zq_ild_ 0 (zq_k 20 (zq_ic_ne 38 (zq_aldg zG0 (zq_getfg 9 zG0 (zq_k 1 (zq_aldg zG0 (zq_getfg 9 zG0 (zq_k 1 (zq_ild_ 0 (zq_k 1 (zq_add (zq_k 20 (zq_rem (zq_iast (zq_aldg zG0 (zq_getfg 9 zG0 (zq_k 0 (zq_dup2 (zq_ild_ 0 (zq_k 1 (zq_sub (zq_iast (xf_225_1 E) E) E) E) E) E) E) E) E) E) E) E) E) E) E) E) E) E) E) E) E) E) E) E) E) E) E
theorem xe_225_0 : xf_225_0 = zEx xb_225_0 := by
  unfold xf_225_0 xb_225_0
  rw [xe_225_1]
  rfl
theorem xc_225_0 : zCd 225 [0, 38, 56, 85] 0 xb_225_0 := zc_aload_n xj_225 1 0 rfl rfl zf_ald_0 (zc_getf xj_225 4 8 9 0 94 rfl rfl (zf_getf_0 _) (zc_iconst xj_225 5 0 0 rfl rfl rfl (zc_iaload xj_225 6 rfl rfl (zc_bipush xj_225 8 20 20 rfl rfl rfl (zc_ic_ne xj_225 11 30 38 rfl rfl rfl (zc_aload_n xj_225 12 0 rfl rfl zf_ald_0 (zc_getf xj_225 15 8 9 0 94 rfl rfl (zf_getf_0 _) (zc_iconst xj_225 16 1 1 rfl rfl rfl (zc_aload_n xj_225 17 0 rfl rfl zf_ald_0 (zc_getf xj_225 20 8 9 0 94 rfl rfl (zf_getf_0 _) (zc_iconst xj_225 21 1 1 rfl rfl rfl (zc_iaload xj_225 22 rfl rfl (zc_iconst xj_225 23 1 1 rfl rfl rfl (zc_iadd xj_225 24 rfl rfl (zc_bipush xj_225 26 20 20 rfl rfl rfl (zc_irem xj_225 27 rfl rfl (zc_iastore xj_225 28 rfl rfl (zc_aload_n xj_225 29 0 rfl rfl zf_ald_0 (zc_getf xj_225 32 8 9 0 94 rfl rfl (zf_getf_0 _) (zc_iconst xj_225 33 0 0 rfl rfl rfl (zc_dup2 xj_225 34 rfl rfl (zc_iaload xj_225 35 rfl rfl (zc_iconst xj_225 36 1 1 rfl rfl rfl (zc_isub xj_225 37 rfl rfl (zc_iastore xj_225 38 rfl rfl (xc_225_1))))))))))))))))))))))))))
noncomputable def xm_225 : Lean.RArray (zE → zKn) := .branch 56 (.branch 38 (.leaf xf_225_0) (.leaf xf_225_1)) (.branch 85 (.leaf xf_225_2) (.leaf xf_225_3))
theorem xa_225 : zCdAll 225 [0, 38, 56, 85] xm_225 := zAll2_ok (P := fun t => ∃ c, zCd 225 [0, 38, 56, 85] t c ∧ xm_225.get t = zEx c) ⟨⟨_, xc_225_0, xe_225_0⟩, ⟨_, xc_225_1, xe_225_1⟩, ⟨_, xc_225_2, xe_225_2⟩, ⟨_, xc_225_3, xe_225_3⟩, trivial⟩
/-- SquareMeshModel.hole -/
theorem xj_226 : ∀ pc, pI 226 pc = pJ_226 pc := fun _ => rfl
noncomputable def xb_226_2 : List zF := [zq_aldg zG0, zq_calli 225 0 9 3, zq_aldg zG0, zq_getfg 9 zG0, zq_k 1764, zq_k 2, zq_aldg zG0, zq_getfg 9 zG0, zq_k 1763, zq_ild_ 0, zq_mul, zq_add, zq_ildg zG1, zq_iast, zq_aldg zG0, zq_getfg 9 zG0, zq_k 1764, zq_k 2, zq_aldg zG0, zq_getfg 9 zG0, zq_k 1763, zq_ild_ 0, zq_mul, zq_add, zq_k 1, zq_add, zq_ildg zG2, zq_iast, zq_aldg zG0, zq_getfg 9 zG0, zq_k 1763, zq_dup2, zq_ild_ 0, zq_k 1, zq_add, zq_iast, zq_aldg zG0, zq_getfg 9 zG0, zq_k 1763, zq_ild_ 0, zq_iret 0]
noncomputable def xf_226_2 : zE → zKn := fun E => zq_aldg zG0 (zq_calli 225 0 9 3 (zq_aldg zG0 (zq_getfg 9 zG0 (zq_k 1764 (zq_k 2 (zq_aldg zG0 (zq_getfg 9 zG0 (zq_k 1763 (zq_ild_ 0 (zq_mul (zq_add (zq_ildg zG1 (zq_iast (zq_aldg zG0 (zq_getfg 9 zG0 (zq_k 1764 (zq_k 2 (zq_aldg zG0 (zq_getfg 9 zG0 (zq_k 1763 (zq_ild_ 0 (zq_mul (zq_add (zq_k 1 (zq_add (zq_ildg zG2 (zq_iast (zq_aldg zG0 (zq_getfg 9 zG0 (zq_k 1763 (zq_dup2 (zq_ild_ 0 (zq_k 1 (zq_add (zq_iast (zq_aldg zG0 (zq_getfg 9 zG0 (zq_k 1763 (zq_ild_ 0 (zq_iret 0 (zNil) E) E) E) E) E) E) E) E) E) E) E) E) E) E) E) E) E) E) E) E) E) E) E) E) E) E) E) E) E) E) E) E) E) E) E) E) E) E) E) E) E
set_option maxRecDepth 100000 in
theorem xe_226_2 : xf_226_2 = zEx xb_226_2 := by
  unfold xf_226_2 xb_226_2
  rfl
theorem xc_226_2 : zCd 226 [0, 21, 23] 23 xb_226_2 := zc_aload_n xj_226 24 0 rfl rfl zf_ald_0 (zc_invokevirtual1 xj_226 27 162 225 0 285 9 3 rfl rfl rfl rfl (zc_aload_n xj_226 28 0 rfl rfl zf_ald_0 (zc_getf xj_226 31 8 9 0 94 rfl rfl (zf_getf_0 _) (zc_sipush xj_226 34 1764 1764 rfl rfl rfl (zc_iconst xj_226 35 2 2 rfl rfl rfl (zc_aload_n xj_226 36 0 rfl rfl zf_ald_0 (zc_getf xj_226 39 8 9 0 94 rfl rfl (zf_getf_0 _) (zc_sipush xj_226 42 1763 1763 rfl rfl rfl (zc_iaload xj_226 43 rfl rfl (zc_imul xj_226 44 rfl rfl (zc_iadd xj_226 45 rfl rfl (zc_iload_n xj_226 46 1 rfl rfl zf_ild_1 (zc_iastore xj_226 47 rfl rfl (zc_aload_n xj_226 48 0 rfl rfl zf_ald_0 (zc_getf xj_226 51 8 9 0 94 rfl rfl (zf_getf_0 _) (zc_sipush xj_226 54 1764 1764 rfl rfl rfl (zc_iconst xj_226 55 2 2 rfl rfl rfl (zc_aload_n xj_226 56 0 rfl rfl zf_ald_0 (zc_getf xj_226 59 8 9 0 94 rfl rfl (zf_getf_0 _) (zc_sipush xj_226 62 1763 1763 rfl rfl rfl (zc_iaload xj_226 63 rfl rfl (zc_imul xj_226 64 rfl rfl (zc_iadd xj_226 65 rfl rfl (zc_iconst xj_226 66 1 1 rfl rfl rfl (zc_iadd xj_226 67 rfl rfl (zc_iload_n xj_226 68 2 rfl rfl zf_ild_2 (zc_iastore xj_226 69 rfl rfl (zc_aload_n xj_226 70 0 rfl rfl zf_ald_0 (zc_getf xj_226 73 8 9 0 94 rfl rfl (zf_getf_0 _) (zc_sipush xj_226 76 1763 1763 rfl rfl rfl (zc_dup2 xj_226 77 rfl rfl (zc_iaload xj_226 78 rfl rfl (zc_iconst xj_226 79 1 1 rfl rfl rfl (zc_iadd xj_226 80 rfl rfl (zc_iastore xj_226 81 rfl rfl (zc_aload_n xj_226 82 0 rfl rfl zf_ald_0 (zc_getf xj_226 85 8 9 0 94 rfl rfl (zf_getf_0 _) (zc_sipush xj_226 88 1763 1763 rfl rfl rfl (zc_iaload xj_226 89 rfl rfl (zc_ireturn0 xj_226 90 rfl rfl (trivial)))))))))))))))))))))))))))))))))))))))))
noncomputable def xb_226_1 : List zF := [zq_k 4294967295, zq_iret 0]
noncomputable def xf_226_1 : zE → zKn := fun E => zq_k 4294967295 (zq_iret 0 (zNil) E) E
theorem xe_226_1 : xf_226_1 = zEx xb_226_1 := by
  unfold xf_226_1 xb_226_1
  rfl
theorem xc_226_1 : zCd 226 [0, 21, 23] 21 xb_226_1 := zc_iconst xj_226 22 (-1) 4294967295 rfl rfl rfl (zc_ireturn0 xj_226 23 rfl rfl (trivial))
noncomputable def xb_226_0 : List zF := zq_ildg zG1 :: zq_ildg zG2 :: zq_calls 189 2 2 :: zq_if_eq 21 :: zq_aldg zG0 :: zq_getfg 9 zG0 :: zq_k 1763 :: zq_ild_ 0 :: zq_k 8 :: zq_ic_ne 23 :: xb_226_1
noncomputable def xf_226_0 : zE → zKn := fun E => zq_ildg zG1 (zq_ildg zG2 (zq_calls 189 2 2 (zq_if_eq 21 (zq_aldg zG0 (zq_getfg 9 zG0 (zq_k 1763 (zq_ild_ 0 (zq_k 8 (zq_ic_ne 23 (xf_226_1 E) E) E) E) E) E) E) E) E) E) E
theorem xe_226_0 : xf_226_0 = zEx xb_226_0 := by
  unfold xf_226_0 xb_226_0
  rw [xe_226_1]
  rfl
theorem xc_226_0 : zCd 226 [0, 21, 23] 0 xb_226_0 := zc_iload_n xj_226 1 1 rfl rfl zf_ild_1 (zc_iload_n xj_226 2 2 rfl rfl zf_ild_2 (zc_invokestatic2 xj_226 5 159 189 2 284 0 2 rfl rfl rfl rfl (zc_if_eq xj_226 8 16 21 rfl rfl rfl (zc_aload_n xj_226 9 0 rfl rfl zf_ald_0 (zc_getf xj_226 12 8 9 0 94 rfl rfl (zf_getf_0 _) (zc_sipush xj_226 15 1763 1763 rfl rfl rfl (zc_iaload xj_226 16 rfl rfl (zc_bipush xj_226 18 8 8 rfl rfl rfl (zc_ic_ne xj_226 21 5 23 rfl rfl rfl (xc_226_1))))))))))
noncomputable def xm_226 : Lean.RArray (zE → zKn) := .branch 21 (.leaf xf_226_0) (.branch 23 (.leaf xf_226_1) (.leaf xf_226_2))
theorem xa_226 : zCdAll 226 [0, 21, 23] xm_226 := zAll2_ok (P := fun t => ∃ c, zCd 226 [0, 21, 23] t c ∧ xm_226.get t = zEx c) ⟨⟨_, xc_226_0, xe_226_0⟩, ⟨_, xc_226_1, xe_226_1⟩, ⟨_, xc_226_2, xe_226_2⟩, trivial⟩
/-- SquareMeshModel.fill -/
theorem xj_227 : ∀ pc, pI 227 pc = pJ_227 pc := fun _ => rfl
noncomputable def xb_227_1 : List zF := [zq_aldg zG0, zq_calli 225 0 9 3, zq_aldg zG0, zq_getfg 9 zG0, zq_k 1763, zq_dup2, zq_ild_ 0, zq_k 1, zq_sub, zq_iast, zq_aldg zG0, zq_getfg 9 zG0, zq_k 1764, zq_k 2, zq_aldg zG0, zq_getfg 9 zG0, zq_k 1763, zq_ild_ 0, zq_mul, zq_add, zq_k 0, zq_iast, zq_aldg zG0, zq_getfg 9 zG0, zq_k 1764, zq_k 2, zq_aldg zG0, zq_getfg 9 zG0, zq_k 1763, zq_ild_ 0, zq_mul, zq_add, zq_k 1, zq_add, zq_k 0, zq_iast, zq_aldg zG0, zq_getfg 9 zG0, zq_k 1763, zq_ild_ 0, zq_iret 0]
noncomputable def xf_227_1 : zE → zKn := fun E => zq_aldg zG0 (zq_calli 225 0 9 3 (zq_aldg zG0 (zq_getfg 9 zG0 (zq_k 1763 (zq_dup2 (zq_ild_ 0 (zq_k 1 (zq_sub (zq_iast (zq_aldg zG0 (zq_getfg 9 zG0 (zq_k 1764 (zq_k 2 (zq_aldg zG0 (zq_getfg 9 zG0 (zq_k 1763 (zq_ild_ 0 (zq_mul (zq_add (zq_k 0 (zq_iast (zq_aldg zG0 (zq_getfg 9 zG0 (zq_k 1764 (zq_k 2 (zq_aldg zG0 (zq_getfg 9 zG0 (zq_k 1763 (zq_ild_ 0 (zq_mul (zq_add (zq_k 1 (zq_add (zq_k 0 (zq_iast (zq_aldg zG0 (zq_getfg 9 zG0 (zq_k 1763 (zq_ild_ 0 (zq_iret 0 (zNil) E) E) E) E) E) E) E) E) E) E) E) E) E) E) E) E) E) E) E) E) E) E) E) E) E) E) E) E) E) E) E) E) E) E) E) E) E) E) E) E) E
set_option maxRecDepth 100000 in
theorem xe_227_1 : xf_227_1 = zEx xb_227_1 := by
  unfold xf_227_1 xb_227_1
  rfl
theorem xc_227_1 : zCd 227 [0, 13] 13 xb_227_1 := zc_aload_n xj_227 14 0 rfl rfl zf_ald_0 (zc_invokevirtual1 xj_227 17 162 225 0 285 9 3 rfl rfl rfl rfl (zc_aload_n xj_227 18 0 rfl rfl zf_ald_0 (zc_getf xj_227 21 8 9 0 94 rfl rfl (zf_getf_0 _) (zc_sipush xj_227 24 1763 1763 rfl rfl rfl (zc_dup2 xj_227 25 rfl rfl (zc_iaload xj_227 26 rfl rfl (zc_iconst xj_227 27 1 1 rfl rfl rfl (zc_isub xj_227 28 rfl rfl (zc_iastore xj_227 29 rfl rfl (zc_aload_n xj_227 30 0 rfl rfl zf_ald_0 (zc_getf xj_227 33 8 9 0 94 rfl rfl (zf_getf_0 _) (zc_sipush xj_227 36 1764 1764 rfl rfl rfl (zc_iconst xj_227 37 2 2 rfl rfl rfl (zc_aload_n xj_227 38 0 rfl rfl zf_ald_0 (zc_getf xj_227 41 8 9 0 94 rfl rfl (zf_getf_0 _) (zc_sipush xj_227 44 1763 1763 rfl rfl rfl (zc_iaload xj_227 45 rfl rfl (zc_imul xj_227 46 rfl rfl (zc_iadd xj_227 47 rfl rfl (zc_iconst xj_227 48 0 0 rfl rfl rfl (zc_iastore xj_227 49 rfl rfl (zc_aload_n xj_227 50 0 rfl rfl zf_ald_0 (zc_getf xj_227 53 8 9 0 94 rfl rfl (zf_getf_0 _) (zc_sipush xj_227 56 1764 1764 rfl rfl rfl (zc_iconst xj_227 57 2 2 rfl rfl rfl (zc_aload_n xj_227 58 0 rfl rfl zf_ald_0 (zc_getf xj_227 61 8 9 0 94 rfl rfl (zf_getf_0 _) (zc_sipush xj_227 64 1763 1763 rfl rfl rfl (zc_iaload xj_227 65 rfl rfl (zc_imul xj_227 66 rfl rfl (zc_iadd xj_227 67 rfl rfl (zc_iconst xj_227 68 1 1 rfl rfl rfl (zc_iadd xj_227 69 rfl rfl (zc_iconst xj_227 70 0 0 rfl rfl rfl (zc_iastore xj_227 71 rfl rfl (zc_aload_n xj_227 72 0 rfl rfl zf_ald_0 (zc_getf xj_227 75 8 9 0 94 rfl rfl (zf_getf_0 _) (zc_sipush xj_227 78 1763 1763 rfl rfl rfl (zc_iaload xj_227 79 rfl rfl (zc_ireturn0 xj_227 80 rfl rfl (trivial)))))))))))))))))))))))))))))))))))))))))
noncomputable def xb_227_0 : List zF := [zq_aldg zG0, zq_getfg 9 zG0, zq_k 1763, zq_ild_ 0, zq_if_ne 13, zq_k 4294967295, zq_iret 0]
noncomputable def xf_227_0 : zE → zKn := fun E => zq_aldg zG0 (zq_getfg 9 zG0 (zq_k 1763 (zq_ild_ 0 (zq_if_ne 13 (zq_k 4294967295 (zq_iret 0 (zNil) E) E) E) E) E) E) E
theorem xe_227_0 : xf_227_0 = zEx xb_227_0 := by
  unfold xf_227_0 xb_227_0
  rfl
theorem xc_227_0 : zCd 227 [0, 13] 0 xb_227_0 := zc_aload_n xj_227 1 0 rfl rfl zf_ald_0 (zc_getf xj_227 4 8 9 0 94 rfl rfl (zf_getf_0 _) (zc_sipush xj_227 7 1763 1763 rfl rfl rfl (zc_iaload xj_227 8 rfl rfl (zc_if_ne xj_227 11 5 13 rfl rfl rfl (zc_iconst xj_227 12 (-1) 4294967295 rfl rfl rfl (zc_ireturn0 xj_227 13 rfl rfl (trivial)))))))
noncomputable def xm_227 : Lean.RArray (zE → zKn) := .branch 13 (.leaf xf_227_0) (.leaf xf_227_1)
theorem xa_227 : zCdAll 227 [0, 13] xm_227 := zAll2_ok (P := fun t => ∃ c, zCd 227 [0, 13] t c ∧ xm_227.get t = zEx c) ⟨⟨_, xc_227_0, xe_227_0⟩, ⟨_, xc_227_1, xe_227_1⟩, trivial⟩
/-- SquareMeshModel.undo -/
theorem xj_228 : ∀ pc, pI 228 pc = pJ_228 pc := fun _ => rfl
noncomputable def xb_228_3 : List zF := [zq_aldg zG0, zq_calli 219 0 9 5, zq_aldg zG0, zq_getfg 9 zG0, zq_k 0, zq_ild_ 0, zq_iret 0]
noncomputable def xf_228_3 : zE → zKn := fun E => zq_aldg zG0 (zq_calli 219 0 9 5 (zq_aldg zG0 (zq_getfg 9 zG0 (zq_k 0 (zq_ild_ 0 (zq_iret 0 (zNil) E) E) E) E) E) E) E
theorem xe_228_3 : xf_228_3 = zEx xb_228_3 := by
  unfold xf_228_3 xb_228_3
  rfl
theorem xc_228_3 : zCd 228 [0, 11, 39, 68] 68 xb_228_3 := zc_aload_n xj_228 69 0 rfl rfl zf_ald_0 (zc_invokevirtual1 xj_228 72 61 219 0 255 9 5 rfl rfl rfl rfl (zc_aload_n xj_228 73 0 rfl rfl zf_ald_0 (zc_getf xj_228 76 8 9 0 94 rfl rfl (zf_getf_0 _) (zc_iconst xj_228 77 0 0 rfl rfl rfl (zc_iaload xj_228 78 rfl rfl (zc_ireturn0 xj_228 79 rfl rfl (trivial)))))))
noncomputable def xb_228_2 : List zF := [zq_ildg zG2, zq_k 1778, zq_ic_ge 68, zq_aldg zG0, zq_getfg 9 zG0, zq_k 2, zq_ildg zG2, zq_add, zq_aldg zG0, zq_getfg 9 zG0, zq_ildg zG1, zq_ildg zG2, zq_add, zq_ild_ 0, zq_iast, zq_incg zG2 zE2 1, zq_goto 39]
noncomputable def xf_228_2 : zE → zKn := fun E => zq_ildg zG2 (zq_k 1778 (zq_ic_ge 68 (zq_aldg zG0 (zq_getfg 9 zG0 (zq_k 2 (zq_ildg zG2 (zq_add (zq_aldg zG0 (zq_getfg 9 zG0 (zq_ildg zG1 (zq_ildg zG2 (zq_add (zq_ild_ 0 (zq_iast (zq_incg zG2 zE2 1 (zq_goto 39 (zNil) E) E) E) E) E) E) E) E) E) E) E) E) E) E) E) E) E
theorem xe_228_2 : xf_228_2 = zEx xb_228_2 := by
  unfold xf_228_2 xb_228_2
  rfl
theorem xc_228_2 : zCd 228 [0, 11, 39, 68] 39 xb_228_2 := zc_iload_n xj_228 40 2 rfl rfl zf_ild_2 (zc_sipush xj_228 43 1778 1778 rfl rfl rfl (zc_ic_ge xj_228 46 25 68 rfl rfl rfl (zc_aload_n xj_228 47 0 rfl rfl zf_ald_0 (zc_getf xj_228 50 8 9 0 94 rfl rfl (zf_getf_0 _) (zc_iconst xj_228 51 2 2 rfl rfl rfl (zc_iload_n xj_228 52 2 rfl rfl zf_ild_2 (zc_iadd xj_228 53 rfl rfl (zc_aload_n xj_228 54 0 rfl rfl zf_ald_0 (zc_getf xj_228 57 8 9 0 94 rfl rfl (zf_getf_0 _) (zc_iload_n xj_228 58 1 rfl rfl zf_ild_1 (zc_iload_n xj_228 59 2 rfl rfl zf_ild_2 (zc_iadd xj_228 60 rfl rfl (zc_iaload xj_228 61 rfl rfl (zc_iastore xj_228 62 rfl rfl (zc_iinc xj_228 65 2 1 1 rfl rfl rfl (zf_inc_2 _) (zc_goto xj_228 66 (-26) 39 rfl rfl rfl (trivial)))))))))))))))))
noncomputable def xb_228_1 : List zF := zq_aldg zG0 :: zq_getfg 9 zG0 :: zq_k 0 :: zq_dup2 :: zq_ild_ 0 :: zq_k 1 :: zq_sub :: zq_iast :: zq_aldg zG0 :: zq_getfg 9 zG0 :: zq_k 1 :: zq_ild_ 0 :: zq_aldg zG0 :: zq_getfg 9 zG0 :: zq_k 0 :: zq_ild_ 0 :: zq_calls 224 2 2 :: zq_istg zE1 :: zq_k 0 :: zq_istg zE2 :: xb_228_2
noncomputable def xf_228_1 : zE → zKn := fun E => zq_aldg zG0 (zq_getfg 9 zG0 (zq_k 0 (zq_dup2 (zq_ild_ 0 (zq_k 1 (zq_sub (zq_iast (zq_aldg zG0 (zq_getfg 9 zG0 (zq_k 1 (zq_ild_ 0 (zq_aldg zG0 (zq_getfg 9 zG0 (zq_k 0 (zq_ild_ 0 (zq_calls 224 2 2 (zq_istg zE1 (zq_k 0 (zq_istg zE2 (xf_228_2 E) E) E) E) E) E) E) E) E) E) E) E) E) E) E) E) E) E) E) E) E
theorem xe_228_1 : xf_228_1 = zEx xb_228_1 := by
  unfold xf_228_1 xb_228_1
  rw [xe_228_2]
  rfl
theorem xc_228_1 : zCd 228 [0, 11, 39, 68] 11 xb_228_1 := zc_aload_n xj_228 12 0 rfl rfl zf_ald_0 (zc_getf xj_228 15 8 9 0 94 rfl rfl (zf_getf_0 _) (zc_iconst xj_228 16 0 0 rfl rfl rfl (zc_dup2 xj_228 17 rfl rfl (zc_iaload xj_228 18 rfl rfl (zc_iconst xj_228 19 1 1 rfl rfl rfl (zc_isub xj_228 20 rfl rfl (zc_iastore xj_228 21 rfl rfl (zc_aload_n xj_228 22 0 rfl rfl zf_ald_0 (zc_getf xj_228 25 8 9 0 94 rfl rfl (zf_getf_0 _) (zc_iconst xj_228 26 1 1 rfl rfl rfl (zc_iaload xj_228 27 rfl rfl (zc_aload_n xj_228 28 0 rfl rfl zf_ald_0 (zc_getf xj_228 31 8 9 0 94 rfl rfl (zf_getf_0 _) (zc_iconst xj_228 32 0 0 rfl rfl rfl (zc_iaload xj_228 33 rfl rfl (zc_invokestatic2 xj_228 36 156 224 2 286 0 2 rfl rfl rfl rfl (zc_istore_n xj_228 37 1 rfl rfl zf_ist_1 (zc_iconst xj_228 38 0 0 rfl rfl rfl (zc_istore_n xj_228 39 2 rfl rfl zf_ist_2 (xc_228_2))))))))))))))))))))
noncomputable def xb_228_0 : List zF := [zq_aldg zG0, zq_getfg 9 zG0, zq_k 0, zq_ild_ 0, zq_if_ne 11, zq_k 4294967295, zq_iret 0]
noncomputable def xf_228_0 : zE → zKn := fun E => zq_aldg zG0 (zq_getfg 9 zG0 (zq_k 0 (zq_ild_ 0 (zq_if_ne 11 (zq_k 4294967295 (zq_iret 0 (zNil) E) E) E) E) E) E) E
theorem xe_228_0 : xf_228_0 = zEx xb_228_0 := by
  unfold xf_228_0 xb_228_0
  rfl
theorem xc_228_0 : zCd 228 [0, 11, 39, 68] 0 xb_228_0 := zc_aload_n xj_228 1 0 rfl rfl zf_ald_0 (zc_getf xj_228 4 8 9 0 94 rfl rfl (zf_getf_0 _) (zc_iconst xj_228 5 0 0 rfl rfl rfl (zc_iaload xj_228 6 rfl rfl (zc_if_ne xj_228 9 5 11 rfl rfl rfl (zc_iconst xj_228 10 (-1) 4294967295 rfl rfl rfl (zc_ireturn0 xj_228 11 rfl rfl (trivial)))))))
noncomputable def xm_228 : Lean.RArray (zE → zKn) := .branch 39 (.branch 11 (.leaf xf_228_0) (.leaf xf_228_1)) (.branch 68 (.leaf xf_228_2) (.leaf xf_228_3))
theorem xa_228 : zCdAll 228 [0, 11, 39, 68] xm_228 := zAll2_ok (P := fun t => ∃ c, zCd 228 [0, 11, 39, 68] t c ∧ xm_228.get t = zEx c) ⟨⟨_, xc_228_0, xe_228_0⟩, ⟨_, xc_228_1, xe_228_1⟩, ⟨_, xc_228_2, xe_228_2⟩, ⟨_, xc_228_3, xe_228_3⟩, trivial⟩
/-- SquareMeshModel.tellAt -/
theorem xj_229 : ∀ pc, pI 229 pc = pJ_229 pc := fun _ => rfl
noncomputable def xb_229_6 : List zF := [zq_vret]
noncomputable def xf_229_6 : zE → zKn := fun E => zq_vret (zNil) E
theorem xe_229_6 : xf_229_6 = zEx xb_229_6 := by
  unfold xf_229_6 xb_229_6
  rfl
theorem xc_229_6 : zCd 229 [0, 10, 20, 58, 85, 91, 97] 97 xb_229_6 := zc_return_ xj_229 98 rfl rfl (trivial)
noncomputable def xb_229_5 : List zF := [zq_incg zG4 zE4 1, zq_goto 10]
noncomputable def xf_229_5 : zE → zKn := fun E => zq_incg zG4 zE4 1 (zq_goto 10 (zNil) E) E
theorem xe_229_5 : xf_229_5 = zEx xb_229_5 := by
  unfold xf_229_5 xb_229_5
  rfl
theorem xc_229_5 : zCd 229 [0, 10, 20, 58, 85, 91, 97] 91 xb_229_5 := zc_iinc xj_229 94 4 1 1 rfl rfl rfl (zf_inc_4 _) (zc_goto xj_229 95 (-84) 10 rfl rfl rfl (trivial))
noncomputable def xb_229_4 : List zF := [zq_incg zG5 zE5 1, zq_goto 20]
noncomputable def xf_229_4 : zE → zKn := fun E => zq_incg zG5 zE5 1 (zq_goto 20 (zNil) E) E
theorem xe_229_4 : xf_229_4 = zEx xb_229_4 := by
  unfold xf_229_4 xb_229_4
  rfl
theorem xc_229_4 : zCd 229 [0, 10, 20, 58, 85, 91, 97] 85 xb_229_4 := zc_iinc xj_229 88 5 1 1 rfl rfl rfl (zf_inc_5 _) (zc_goto xj_229 89 (-68) 20 rfl rfl rfl (trivial))
noncomputable def xb_229_3 : List zF := zq_aldg zG0 :: zq_ildg zG4 :: zq_ildg zG5 :: zq_k 0 :: zq_calli 197 3 9 4 :: zq_aldg zG0 :: zq_ildg zG4 :: zq_ildg zG1 :: zq_ildg zG6 :: zq_calli 197 3 9 4 :: zq_aldg zG0 :: zq_ildg zG5 :: zq_ildg zG1 :: zq_ildg zG6 :: zq_calli 197 3 9 4 :: xb_229_4
noncomputable def xf_229_3 : zE → zKn := fun E => zq_aldg zG0 (zq_ildg zG4 (zq_ildg zG5 (zq_k 0 (zq_calli 197 3 9 4 (zq_aldg zG0 (zq_ildg zG4 (zq_ildg zG1 (zq_ildg zG6 (zq_calli 197 3 9 4 (zq_aldg zG0 (zq_ildg zG5 (zq_ildg zG1 (zq_ildg zG6 (zq_calli 197 3 9 4 (xf_229_4 E) E) E) E) E) E) E) E) E) E) E) E) E) E) E) E
theorem xe_229_3 : xf_229_3 = zEx xb_229_3 := by
  unfold xf_229_3 xb_229_3
  rw [xe_229_4]
  rfl
theorem xc_229_3 : zCd 229 [0, 10, 20, 58, 85, 91, 97] 58 xb_229_3 := zc_aload_n xj_229 59 0 rfl rfl zf_ald_0 (zc_iload xj_229 61 4 rfl rfl zf_ild_4 (zc_iload xj_229 63 5 rfl rfl zf_ild_5 (zc_iconst xj_229 64 0 0 rfl rfl rfl (zc_invokevirtual1 xj_229 67 58 197 3 254 9 4 rfl rfl rfl rfl (zc_aload_n xj_229 68 0 rfl rfl zf_ald_0 (zc_iload xj_229 70 4 rfl rfl zf_ild_4 (zc_iload_n xj_229 71 1 rfl rfl zf_ild_1 (zc_iload xj_229 73 6 rfl rfl zf_ild_6 (zc_invokevirtual1 xj_229 76 58 197 3 254 9 4 rfl rfl rfl rfl (zc_aload_n xj_229 77 0 rfl rfl zf_ald_0 (zc_iload xj_229 79 5 rfl rfl zf_ild_5 (zc_iload_n xj_229 80 1 rfl rfl zf_ild_1 (zc_iload xj_229 82 6 rfl rfl zf_ild_6 (zc_invokevirtual1 xj_229 85 58 197 3 254 9 4 rfl rfl rfl rfl (xc_229_4)))))))))))))))
noncomputable def xb_229_2 : List zF := [zq_ildg zG5, zq_ildg zG4, zq_ic_ge 91, zq_aldg zG0, zq_ildg zG4, zq_ildg zG5, zN2 196 3 zg_196, zq_istg zE6, zq_ildg zG6, zq_if_eq 85, zq_aldg zG0, zq_ildg zG4, zq_ildg zG5, zq_ildg zG2, zq_ildg zG3, zq_calli 203 4 9 6, zq_if_ne 58, zq_goto 85]
noncomputable def xf_229_2 : zE → zKn := fun E => zq_ildg zG5 (zq_ildg zG4 (zq_ic_ge 91 (zq_aldg zG0 (zq_ildg zG4 (zq_ildg zG5 (zN2 196 3 zg_196 (zq_istg zE6 (zq_ildg zG6 (zq_if_eq 85 (zq_aldg zG0 (zq_ildg zG4 (zq_ildg zG5 (zq_ildg zG2 (zq_ildg zG3 (zq_calli 203 4 9 6 (zq_if_ne 58 (zq_goto 85 (zNil) E) E) E) E) E) E) E) E) E) E) E) E) E) E) E) E) E) E
theorem xe_229_2 : xf_229_2 = zEx xb_229_2 := by
  unfold xf_229_2 xb_229_2
  rfl
theorem xc_229_2 : zCd 229 [0, 10, 20, 58, 85, 91, 97] 20 xb_229_2 := zc_iload xj_229 22 5 rfl rfl zf_ild_5 (zc_iload xj_229 24 4 rfl rfl zf_ild_4 (zc_ic_ge xj_229 27 67 91 rfl rfl rfl (zc_aload_n xj_229 28 0 rfl rfl zf_ald_0 (zc_iload xj_229 30 4 rfl rfl zf_ild_4 (zc_iload xj_229 32 5 rfl rfl zf_ild_5 (zc_any xj_229 35 (.invokevirtual 102) [1, 196, 2, 258, 9, 3] rfl rfl (zN2 196 3 zg_196) rfl rfl (zc_istore xj_229 37 6 rfl rfl zf_ist_6 (zc_iload xj_229 39 6 rfl rfl zf_ild_6 (zc_if_eq xj_229 42 46 85 rfl rfl rfl (zc_aload_n xj_229 43 0 rfl rfl zf_ald_0 (zc_iload xj_229 45 4 rfl rfl zf_ild_4 (zc_iload xj_229 47 5 rfl rfl zf_ild_5 (zc_iload_n xj_229 48 2 rfl rfl zf_ild_2 (zc_iload_n xj_229 49 3 rfl rfl zf_ild_3 (zc_invokevirtual1 xj_229 52 98 203 4 269 9 6 rfl rfl rfl rfl (zc_if_ne xj_229 55 6 58 rfl rfl rfl (zc_goto xj_229 56 30 85 rfl rfl rfl (trivial))))))))))))))))))
noncomputable def xb_229_1 : List zF := zq_ildg zG4 :: zq_k 40 :: zq_ic_ge 97 :: zq_k 0 :: zq_istg zE5 :: xb_229_2
noncomputable def xf_229_1 : zE → zKn := fun E => zq_ildg zG4 (zq_k 40 (zq_ic_ge 97 (zq_k 0 (zq_istg zE5 (xf_229_2 E) E) E) E) E) E
theorem xe_229_1 : xf_229_1 = zEx xb_229_1 := by
  unfold xf_229_1 xb_229_1
  rw [xe_229_2]
  rfl
theorem xc_229_1 : zCd 229 [0, 10, 20, 58, 85, 91, 97] 10 xb_229_1 := zc_iload xj_229 12 4 rfl rfl zf_ild_4 (zc_bipush xj_229 14 40 40 rfl rfl rfl (zc_ic_ge xj_229 17 83 97 rfl rfl rfl (zc_iconst xj_229 18 0 0 rfl rfl rfl (zc_istore xj_229 20 5 rfl rfl zf_ist_5 (xc_229_2)))))
noncomputable def xb_229_0 : List zF := zq_aldg zG0 :: zq_ildg zG1 :: zq_ildg zG2 :: zq_ildg zG3 :: zq_calli 195 3 9 4 :: zq_k 0 :: zq_istg zE4 :: xb_229_1
noncomputable def xf_229_0 : zE → zKn := fun E => zq_aldg zG0 (zq_ildg zG1 (zq_ildg zG2 (zq_ildg zG3 (zq_calli 195 3 9 4 (zq_k 0 (zq_istg zE4 (xf_229_1 E) E) E) E) E) E) E) E
theorem xe_229_0 : xf_229_0 = zEx xb_229_0 := by
  unfold xf_229_0 xb_229_0
  rw [xe_229_1]
  rfl
theorem xc_229_0 : zCd 229 [0, 10, 20, 58, 85, 91, 97] 0 xb_229_0 := zc_aload_n xj_229 1 0 rfl rfl zf_ald_0 (zc_iload_n xj_229 2 1 rfl rfl zf_ild_1 (zc_iload_n xj_229 3 2 rfl rfl zf_ild_2 (zc_iload_n xj_229 4 3 rfl rfl zf_ild_3 (zc_invokevirtual1 xj_229 7 54 195 3 253 9 4 rfl rfl rfl rfl (zc_iconst xj_229 8 0 0 rfl rfl rfl (zc_istore xj_229 10 4 rfl rfl zf_ist_4 (xc_229_1)))))))
noncomputable def xm_229 : Lean.RArray (zE → zKn) := .branch 58 (.branch 10 (.leaf xf_229_0) (.branch 20 (.leaf xf_229_1) (.leaf xf_229_2))) (.branch 91 (.branch 85 (.leaf xf_229_3) (.leaf xf_229_4)) (.branch 97 (.leaf xf_229_5) (.leaf xf_229_6)))
theorem xa_229 : zCdAll 229 [0, 10, 20, 58, 85, 91, 97] xm_229 := zAll2_ok (P := fun t => ∃ c, zCd 229 [0, 10, 20, 58, 85, 91, 97] t c ∧ xm_229.get t = zEx c) ⟨⟨_, xc_229_0, xe_229_0⟩, ⟨_, xc_229_1, xe_229_1⟩, ⟨_, xc_229_2, xe_229_2⟩, ⟨_, xc_229_3, xe_229_3⟩, ⟨_, xc_229_4, xe_229_4⟩, ⟨_, xc_229_5, xe_229_5⟩, ⟨_, xc_229_6, xe_229_6⟩, trivial⟩
/-- SquareMeshModel.tellNew -/
theorem xj_230 : ∀ pc, pI 230 pc = pJ_230 pc := fun _ => rfl
noncomputable def xb_230_2 : List zF := [zq_aldg zG0, zq_ildg zG3, zq_ildg zG1, zq_ildg zG2, zq_calli 229 3 9 7, zq_aldg zG0, zq_getfg 9 zG0, zq_k 3, zq_k 4, zq_ildg zG3, zq_mul, zq_add, zq_k 3, zq_add, zq_k 0, zq_iast, zq_ildg zG3, zq_iret 0]
noncomputable def xf_230_2 : zE → zKn := fun E => zq_aldg zG0 (zq_ildg zG3 (zq_ildg zG1 (zq_ildg zG2 (zq_calli 229 3 9 7 (zq_aldg zG0 (zq_getfg 9 zG0 (zq_k 3 (zq_k 4 (zq_ildg zG3 (zq_mul (zq_add (zq_k 3 (zq_add (zq_k 0 (zq_iast (zq_ildg zG3 (zq_iret 0 (zNil) E) E) E) E) E) E) E) E) E) E) E) E) E) E) E) E) E) E
theorem xe_230_2 : xf_230_2 = zEx xb_230_2 := by
  unfold xf_230_2 xb_230_2
  rfl
theorem xc_230_2 : zCd 230 [0, 20, 22] 22 xb_230_2 := zc_aload_n xj_230 23 0 rfl rfl zf_ald_0 (zc_iload_n xj_230 24 3 rfl rfl zf_ild_3 (zc_iload_n xj_230 25 1 rfl rfl zf_ild_1 (zc_iload_n xj_230 26 2 rfl rfl zf_ild_2 (zc_invokevirtual1 xj_230 29 172 229 3 294 9 7 rfl rfl rfl rfl (zc_aload_n xj_230 30 0 rfl rfl zf_ald_0 (zc_getf xj_230 33 8 9 0 94 rfl rfl (zf_getf_0 _) (zc_iconst xj_230 34 3 3 rfl rfl rfl (zc_iconst xj_230 35 4 4 rfl rfl rfl (zc_iload_n xj_230 36 3 rfl rfl zf_ild_3 (zc_imul xj_230 37 rfl rfl (zc_iadd xj_230 38 rfl rfl (zc_iconst xj_230 39 3 3 rfl rfl rfl (zc_iadd xj_230 40 rfl rfl (zc_iconst xj_230 41 0 0 rfl rfl rfl (zc_iastore xj_230 42 rfl rfl (zc_iload_n xj_230 43 3 rfl rfl zf_ild_3 (zc_ireturn0 xj_230 44 rfl rfl (trivial))))))))))))))))))
noncomputable def xb_230_1 : List zF := [zq_k 4294967295, zq_iret 0]
noncomputable def xf_230_1 : zE → zKn := fun E => zq_k 4294967295 (zq_iret 0 (zNil) E) E
theorem xe_230_1 : xf_230_1 = zEx xb_230_1 := by
  unfold xf_230_1 xb_230_1
  rfl
theorem xc_230_1 : zCd 230 [0, 20, 22] 20 xb_230_1 := zc_iconst xj_230 21 (-1) 4294967295 rfl rfl rfl (zc_ireturn0 xj_230 22 rfl rfl (trivial))
noncomputable def xb_230_0 : List zF := zq_aldg zG0 :: zq_calli 199 0 9 2 :: zq_istg zE3 :: zq_ildg zG3 :: zq_k 4294967295 :: zq_ic_eq 20 :: zq_aldg zG0 :: zq_ildg zG1 :: zq_ildg zG2 :: zq_calli 198 2 9 4 :: zq_k 4294967295 :: zq_ic_eq 22 :: xb_230_1
noncomputable def xf_230_0 : zE → zKn := fun E => zq_aldg zG0 (zq_calli 199 0 9 2 (zq_istg zE3 (zq_ildg zG3 (zq_k 4294967295 (zq_ic_eq 20 (zq_aldg zG0 (zq_ildg zG1 (zq_ildg zG2 (zq_calli 198 2 9 4 (zq_k 4294967295 (zq_ic_eq 22 (xf_230_1 E) E) E) E) E) E) E) E) E) E) E) E) E
theorem xe_230_0 : xf_230_0 = zEx xb_230_0 := by
  unfold xf_230_0 xb_230_0
  rw [xe_230_1]
  rfl
theorem xc_230_0 : zCd 230 [0, 20, 22] 0 xb_230_0 := zc_aload_n xj_230 1 0 rfl rfl zf_ald_0 (zc_invokevirtual1 xj_230 4 165 199 0 292 9 2 rfl rfl rfl rfl (zc_istore_n xj_230 5 3 rfl rfl zf_ist_3 (zc_iload_n xj_230 6 3 rfl rfl zf_ild_3 (zc_iconst xj_230 7 (-1) 4294967295 rfl rfl rfl (zc_ic_eq xj_230 10 13 20 rfl rfl rfl (zc_aload_n xj_230 11 0 rfl rfl zf_ald_0 (zc_iload_n xj_230 12 1 rfl rfl zf_ild_1 (zc_iload_n xj_230 13 2 rfl rfl zf_ild_2 (zc_invokevirtual1 xj_230 16 169 198 2 291 9 4 rfl rfl rfl rfl (zc_iconst xj_230 17 (-1) 4294967295 rfl rfl rfl (zc_ic_eq xj_230 20 5 22 rfl rfl rfl (xc_230_1))))))))))))
noncomputable def xm_230 : Lean.RArray (zE → zKn) := .branch 20 (.leaf xf_230_0) (.branch 22 (.leaf xf_230_1) (.leaf xf_230_2))
theorem xa_230 : zCdAll 230 [0, 20, 22] xm_230 := zAll2_ok (P := fun t => ∃ c, zCd 230 [0, 20, 22] t c ∧ xm_230.get t = zEx c) ⟨⟨_, xc_230_0, xe_230_0⟩, ⟨_, xc_230_1, xe_230_1⟩, ⟨_, xc_230_2, xe_230_2⟩, trivial⟩
/-- SquareMeshModel.canTell -/
theorem xj_231 : ∀ pc, pI 231 pc = pJ_231 pc := fun _ => rfl
noncomputable def xb_231_2 : List zF := [zq_iret 1]
noncomputable def xf_231_2 : zE → zKn := fun E => zq_iret 1 (zNil) E
theorem xe_231_2 : xf_231_2 = zEx xb_231_2 := by
  unfold xf_231_2 xb_231_2
  rfl
theorem xc_231_2 : zCd 231 [0, 30, 31] 31 xb_231_2 := zc_ireturn1 xj_231 32 rfl rfl (trivial)
noncomputable def xb_231_1 : List zF := zq_k 0 :: xb_231_2
noncomputable def xf_231_1 : zE → zKn := fun E => zq_k 0 (xf_231_2 E) E
theorem xe_231_1 : xf_231_1 = zEx xb_231_1 := by
  unfold xf_231_1 xb_231_1
  rw [xe_231_2]
  rfl
theorem xc_231_1 : zCd 231 [0, 30, 31] 30 xb_231_1 := zc_iconst xj_231 31 0 0 rfl rfl rfl (xc_231_2)
noncomputable def xb_231_0 : List zF := [zq_ildg zG1, zq_ildg zG2, zq_calls 189 2 2, zq_if_eq 30, zq_aldg zG0, zq_ildg zG1, zq_ildg zG2, zq_calli 198 2 9 4, zq_k 4294967295, zq_ic_ne 30, zq_aldg zG0, zq_calli 199 0 9 2, zq_k 4294967295, zq_ic_eq 30, zq_k 1, zq_goto 31]
noncomputable def xf_231_0 : zE → zKn := fun E => zq_ildg zG1 (zq_ildg zG2 (zq_calls 189 2 2 (zq_if_eq 30 (zq_aldg zG0 (zq_ildg zG1 (zq_ildg zG2 (zq_calli 198 2 9 4 (zq_k 4294967295 (zq_ic_ne 30 (zq_aldg zG0 (zq_calli 199 0 9 2 (zq_k 4294967295 (zq_ic_eq 30 (zq_k 1 (zq_goto 31 (zNil) E) E) E) E) E) E) E) E) E) E) E) E) E) E) E) E
theorem xe_231_0 : xf_231_0 = zEx xb_231_0 := by
  unfold xf_231_0 xb_231_0
  rfl
theorem xc_231_0 : zCd 231 [0, 30, 31] 0 xb_231_0 := zc_iload_n xj_231 1 1 rfl rfl zf_ild_1 (zc_iload_n xj_231 2 2 rfl rfl zf_ild_2 (zc_invokestatic2 xj_231 5 159 189 2 284 0 2 rfl rfl rfl rfl (zc_if_eq xj_231 8 25 30 rfl rfl rfl (zc_aload_n xj_231 9 0 rfl rfl zf_ald_0 (zc_iload_n xj_231 10 1 rfl rfl zf_ild_1 (zc_iload_n xj_231 11 2 rfl rfl zf_ild_2 (zc_invokevirtual1 xj_231 14 169 198 2 291 9 4 rfl rfl rfl rfl (zc_iconst xj_231 15 (-1) 4294967295 rfl rfl rfl (zc_ic_ne xj_231 18 15 30 rfl rfl rfl (zc_aload_n xj_231 19 0 rfl rfl zf_ald_0 (zc_invokevirtual1 xj_231 22 165 199 0 292 9 2 rfl rfl rfl rfl (zc_iconst xj_231 23 (-1) 4294967295 rfl rfl rfl (zc_ic_eq xj_231 26 7 30 rfl rfl rfl (zc_iconst xj_231 27 1 1 rfl rfl rfl (zc_goto xj_231 28 4 31 rfl rfl rfl (trivial))))))))))))))))
noncomputable def xm_231 : Lean.RArray (zE → zKn) := .branch 30 (.leaf xf_231_0) (.branch 31 (.leaf xf_231_1) (.leaf xf_231_2))
theorem xa_231 : zCdAll 231 [0, 30, 31] xm_231 := zAll2_ok (P := fun t => ∃ c, zCd 231 [0, 30, 31] t c ∧ xm_231.get t = zEx c) ⟨⟨_, xc_231_0, xe_231_0⟩, ⟨_, xc_231_1, xe_231_1⟩, ⟨_, xc_231_2, xe_231_2⟩, trivial⟩
/-- SquareMeshModel.point -/
theorem xj_232 : ∀ pc, pI 232 pc = pJ_232 pc := fun _ => rfl
noncomputable def xb_232_1 : List zF := [zq_aldg zG0, zq_calli 225 0 9 3, zq_aldg zG0, zq_ildg zG1, zq_ildg zG2, zq_calli 230 2 9 4, zq_istg zE3, zq_aldg zG0, zq_calli 219 0 9 5, zq_ildg zG3, zq_iret 0]
noncomputable def xf_232_1 : zE → zKn := fun E => zq_aldg zG0 (zq_calli 225 0 9 3 (zq_aldg zG0 (zq_ildg zG1 (zq_ildg zG2 (zq_calli 230 2 9 4 (zq_istg zE3 (zq_aldg zG0 (zq_calli 219 0 9 5 (zq_ildg zG3 (zq_iret 0 (zNil) E) E) E) E) E) E) E) E) E) E) E
theorem xe_232_1 : xf_232_1 = zEx xb_232_1 := by
  unfold xf_232_1 xb_232_1
  rfl
theorem xc_232_1 : zCd 232 [0, 11] 11 xb_232_1 := zc_aload_n xj_232 12 0 rfl rfl zf_ald_0 (zc_invokevirtual1 xj_232 15 162 225 0 285 9 3 rfl rfl rfl rfl (zc_aload_n xj_232 16 0 rfl rfl zf_ald_0 (zc_iload_n xj_232 17 1 rfl rfl zf_ild_1 (zc_iload_n xj_232 18 2 rfl rfl zf_ild_2 (zc_invokevirtual1 xj_232 21 178 230 2 293 9 4 rfl rfl rfl rfl (zc_istore_n xj_232 22 3 rfl rfl zf_ist_3 (zc_aload_n xj_232 23 0 rfl rfl zf_ald_0 (zc_invokevirtual1 xj_232 26 61 219 0 255 9 5 rfl rfl rfl rfl (zc_iload_n xj_232 27 3 rfl rfl zf_ild_3 (zc_ireturn0 xj_232 28 rfl rfl (trivial)))))))))))
noncomputable def xb_232_0 : List zF := [zq_aldg zG0, zq_ildg zG1, zq_ildg zG2, zq_calli 231 2 9 3, zq_if_ne 11, zq_k 4294967295, zq_iret 0]
noncomputable def xf_232_0 : zE → zKn := fun E => zq_aldg zG0 (zq_ildg zG1 (zq_ildg zG2 (zq_calli 231 2 9 3 (zq_if_ne 11 (zq_k 4294967295 (zq_iret 0 (zNil) E) E) E) E) E) E) E
theorem xe_232_0 : xf_232_0 = zEx xb_232_0 := by
  unfold xf_232_0 xb_232_0
  rfl
theorem xc_232_0 : zCd 232 [0, 11] 0 xb_232_0 := zc_aload_n xj_232 1 0 rfl rfl zf_ald_0 (zc_iload_n xj_232 2 1 rfl rfl zf_ild_1 (zc_iload_n xj_232 3 2 rfl rfl zf_ild_2 (zc_invokevirtual1 xj_232 6 175 231 2 290 9 3 rfl rfl rfl rfl (zc_if_ne xj_232 9 5 11 rfl rfl rfl (zc_iconst xj_232 10 (-1) 4294967295 rfl rfl rfl (zc_ireturn0 xj_232 11 rfl rfl (trivial)))))))
noncomputable def xm_232 : Lean.RArray (zE → zKn) := .branch 11 (.leaf xf_232_0) (.leaf xf_232_1)
theorem xa_232 : zCdAll 232 [0, 11] xm_232 := zAll2_ok (P := fun t => ∃ c, zCd 232 [0, 11] t c ∧ xm_232.get t = zEx c) ⟨⟨_, xc_232_0, xe_232_0⟩, ⟨_, xc_232_1, xe_232_1⟩, trivial⟩
/-- SquareMeshModel.fixedOf -/
theorem xj_233 : ∀ pc, pI 233 pc = pJ_233 pc := fun _ => rfl
noncomputable def xb_233_4 : List zF := [zq_ildg zG2, zq_iret 0]
noncomputable def xf_233_4 : zE → zKn := fun E => zq_ildg zG2 (zq_iret 0 (zNil) E) E
theorem xe_233_4 : xf_233_4 = zEx xb_233_4 := by
  unfold xf_233_4 xb_233_4
  rfl
theorem xc_233_4 : zCd 233 [0, 4, 24, 25, 33] 33 xb_233_4 := zc_iload_n xj_233 34 2 rfl rfl zf_ild_2 (zc_ireturn0 xj_233 35 rfl rfl (trivial))
noncomputable def xb_233_3 : List zF := [zq_add, zq_istg zE2, zq_incg zG3 zE3 1, zq_goto 4]
noncomputable def xf_233_3 : zE → zKn := fun E => zq_add (zq_istg zE2 (zq_incg zG3 zE3 1 (zq_goto 4 (zNil) E) E) E) E
theorem xe_233_3 : xf_233_3 = zEx xb_233_3 := by
  unfold xf_233_3 xb_233_3
  rfl
theorem xc_233_3 : zCd 233 [0, 4, 24, 25, 33] 25 xb_233_3 := zc_iadd xj_233 26 rfl rfl (zc_istore_n xj_233 27 2 rfl rfl zf_ist_2 (zc_iinc xj_233 30 3 1 1 rfl rfl rfl (zf_inc_3 _) (zc_goto xj_233 31 (-26) 4 rfl rfl rfl (trivial))))
noncomputable def xb_233_2 : List zF := zq_k 0 :: xb_233_3
noncomputable def xf_233_2 : zE → zKn := fun E => zq_k 0 (xf_233_3 E) E
theorem xe_233_2 : xf_233_2 = zEx xb_233_2 := by
  unfold xf_233_2 xb_233_2
  rw [xe_233_3]
  rfl
theorem xc_233_2 : zCd 233 [0, 4, 24, 25, 33] 24 xb_233_2 := zc_iconst xj_233 25 0 0 rfl rfl rfl (xc_233_3)
noncomputable def xb_233_1 : List zF := [zq_ildg zG3, zq_k 40, zq_ic_ge 33, zq_ildg zG2, zq_aldg zG0, zq_ildg zG1, zq_ildg zG3, zN2 196 3 zg_196, zq_if_eq 24, zq_k 1, zq_goto 25]
noncomputable def xf_233_1 : zE → zKn := fun E => zq_ildg zG3 (zq_k 40 (zq_ic_ge 33 (zq_ildg zG2 (zq_aldg zG0 (zq_ildg zG1 (zq_ildg zG3 (zN2 196 3 zg_196 (zq_if_eq 24 (zq_k 1 (zq_goto 25 (zNil) E) E) E) E) E) E) E) E) E) E) E
theorem xe_233_1 : xf_233_1 = zEx xb_233_1 := by
  unfold xf_233_1 xb_233_1
  rfl
theorem xc_233_1 : zCd 233 [0, 4, 24, 25, 33] 4 xb_233_1 := zc_iload_n xj_233 5 3 rfl rfl zf_ild_3 (zc_bipush xj_233 7 40 40 rfl rfl rfl (zc_ic_ge xj_233 10 26 33 rfl rfl rfl (zc_iload_n xj_233 11 2 rfl rfl zf_ild_2 (zc_aload_n xj_233 12 0 rfl rfl zf_ald_0 (zc_iload_n xj_233 13 1 rfl rfl zf_ild_1 (zc_iload_n xj_233 14 3 rfl rfl zf_ild_3 (zc_any xj_233 17 (.invokevirtual 102) [1, 196, 2, 258, 9, 3] rfl rfl (zN2 196 3 zg_196) rfl rfl (zc_if_eq xj_233 20 7 24 rfl rfl rfl (zc_iconst xj_233 21 1 1 rfl rfl rfl (zc_goto xj_233 22 4 25 rfl rfl rfl (trivial)))))))))))
noncomputable def xb_233_0 : List zF := zq_k 0 :: zq_istg zE2 :: zq_k 0 :: zq_istg zE3 :: xb_233_1
noncomputable def xf_233_0 : zE → zKn := fun E => zq_k 0 (zq_istg zE2 (zq_k 0 (zq_istg zE3 (xf_233_1 E) E) E) E) E
theorem xe_233_0 : xf_233_0 = zEx xb_233_0 := by
  unfold xf_233_0 xb_233_0
  rw [xe_233_1]
  rfl
theorem xc_233_0 : zCd 233 [0, 4, 24, 25, 33] 0 xb_233_0 := zc_iconst xj_233 1 0 0 rfl rfl rfl (zc_istore_n xj_233 2 2 rfl rfl zf_ist_2 (zc_iconst xj_233 3 0 0 rfl rfl rfl (zc_istore_n xj_233 4 3 rfl rfl zf_ist_3 (xc_233_1))))
noncomputable def xm_233 : Lean.RArray (zE → zKn) := .branch 24 (.branch 4 (.leaf xf_233_0) (.leaf xf_233_1)) (.branch 25 (.leaf xf_233_2) (.branch 33 (.leaf xf_233_3) (.leaf xf_233_4)))
theorem xa_233 : zCdAll 233 [0, 4, 24, 25, 33] xm_233 := zAll2_ok (P := fun t => ∃ c, zCd 233 [0, 4, 24, 25, 33] t c ∧ xm_233.get t = zEx c) ⟨⟨_, xc_233_0, xe_233_0⟩, ⟨_, xc_233_1, xe_233_1⟩, ⟨_, xc_233_2, xe_233_2⟩, ⟨_, xc_233_3, xe_233_3⟩, ⟨_, xc_233_4, xe_233_4⟩, trivial⟩
/-- SquareMeshModel.canGo -/
theorem xj_234 : ∀ pc, pI 234 pc = pJ_234 pc := fun _ => rfl
noncomputable def xb_234_2 : List zF := [zq_iret 1]
noncomputable def xf_234_2 : zE → zKn := fun E => zq_iret 1 (zNil) E
theorem xe_234_2 : xf_234_2 = zEx xb_234_2 := by
  unfold xf_234_2 xb_234_2
  rfl
theorem xc_234_2 : zCd 234 [0, 20, 21] 21 xb_234_2 := zc_ireturn1 xj_234 22 rfl rfl (trivial)
noncomputable def xb_234_1 : List zF := zq_k 0 :: xb_234_2
noncomputable def xf_234_1 : zE → zKn := fun E => zq_k 0 (xf_234_2 E) E
theorem xe_234_1 : xf_234_1 = zEx xb_234_1 := by
  unfold xf_234_1 xb_234_1
  rw [xe_234_2]
  rfl
theorem xc_234_1 : zCd 234 [0, 20, 21] 20 xb_234_1 := zc_iconst xj_234 21 0 0 rfl rfl rfl (xc_234_2)
noncomputable def xb_234_0 : List zF := [zq_aldg zG0, zq_ildg zG1, zN1 191 2 zg_191, zq_if_eq 20, zq_aldg zG0, zq_ildg zG1, zq_calli 233 1 9 4, zq_if_ne 20, zq_k 1, zq_goto 21]
noncomputable def xf_234_0 : zE → zKn := fun E => zq_aldg zG0 (zq_ildg zG1 (zN1 191 2 zg_191 (zq_if_eq 20 (zq_aldg zG0 (zq_ildg zG1 (zq_calli 233 1 9 4 (zq_if_ne 20 (zq_k 1 (zq_goto 21 (zNil) E) E) E) E) E) E) E) E) E) E
theorem xe_234_0 : xf_234_0 = zEx xb_234_0 := by
  unfold xf_234_0 xb_234_0
  rfl
theorem xc_234_0 : zCd 234 [0, 20, 21] 0 xb_234_0 := zc_aload_n xj_234 1 0 rfl rfl zf_ald_0 (zc_iload_n xj_234 2 1 rfl rfl zf_ild_1 (zc_any xj_234 5 (.invokevirtual 71) [1, 191, 1, 264, 9, 2] rfl rfl (zN1 191 2 zg_191) rfl rfl (zc_if_eq xj_234 8 15 20 rfl rfl rfl (zc_aload_n xj_234 9 0 rfl rfl zf_ald_0 (zc_iload_n xj_234 10 1 rfl rfl zf_ild_1 (zc_invokevirtual1 xj_234 13 181 233 1 297 9 4 rfl rfl rfl rfl (zc_if_ne xj_234 16 7 20 rfl rfl rfl (zc_iconst xj_234 17 1 1 rfl rfl rfl (zc_goto xj_234 18 4 21 rfl rfl rfl (trivial))))))))))
noncomputable def xm_234 : Lean.RArray (zE → zKn) := .branch 20 (.leaf xf_234_0) (.branch 21 (.leaf xf_234_1) (.leaf xf_234_2))
theorem xa_234 : zCdAll 234 [0, 20, 21] xm_234 := zAll2_ok (P := fun t => ∃ c, zCd 234 [0, 20, 21] t c ∧ xm_234.get t = zEx c) ⟨⟨_, xc_234_0, xe_234_0⟩, ⟨_, xc_234_1, xe_234_1⟩, ⟨_, xc_234_2, xe_234_2⟩, trivial⟩
/-- SquareMeshModel.takeOut -/
theorem xj_235 : ∀ pc, pI 235 pc = pJ_235 pc := fun _ => rfl
noncomputable def xb_235_2 : List zF := [zq_vret]
noncomputable def xf_235_2 : zE → zKn := fun E => zq_vret (zNil) E
theorem xe_235_2 : xf_235_2 = zEx xb_235_2 := by
  unfold xf_235_2 xb_235_2
  rfl
theorem xc_235_2 : zCd 235 [0, 2, 26] 26 xb_235_2 := zc_return_ xj_235 27 rfl rfl (trivial)
noncomputable def xb_235_1 : List zF := [zq_ildg zG2, zq_k 4, zq_ic_ge 26, zq_aldg zG0, zq_getfg 9 zG0, zq_k 3, zq_k 4, zq_ildg zG1, zq_mul, zq_add, zq_ildg zG2, zq_add, zq_k 0, zq_iast, zq_incg zG2 zE2 1, zq_goto 2]
noncomputable def xf_235_1 : zE → zKn := fun E => zq_ildg zG2 (zq_k 4 (zq_ic_ge 26 (zq_aldg zG0 (zq_getfg 9 zG0 (zq_k 3 (zq_k 4 (zq_ildg zG1 (zq_mul (zq_add (zq_ildg zG2 (zq_add (zq_k 0 (zq_iast (zq_incg zG2 zE2 1 (zq_goto 2 (zNil) E) E) E) E) E) E) E) E) E) E) E) E) E) E) E) E
theorem xe_235_1 : xf_235_1 = zEx xb_235_1 := by
  unfold xf_235_1 xb_235_1
  rfl
theorem xc_235_1 : zCd 235 [0, 2, 26] 2 xb_235_1 := zc_iload_n xj_235 3 2 rfl rfl zf_ild_2 (zc_iconst xj_235 4 4 4 rfl rfl rfl (zc_ic_ge xj_235 7 22 26 rfl rfl rfl (zc_aload_n xj_235 8 0 rfl rfl zf_ald_0 (zc_getf xj_235 11 8 9 0 94 rfl rfl (zf_getf_0 _) (zc_iconst xj_235 12 3 3 rfl rfl rfl (zc_iconst xj_235 13 4 4 rfl rfl rfl (zc_iload_n xj_235 14 1 rfl rfl zf_ild_1 (zc_imul xj_235 15 rfl rfl (zc_iadd xj_235 16 rfl rfl (zc_iload_n xj_235 17 2 rfl rfl zf_ild_2 (zc_iadd xj_235 18 rfl rfl (zc_iconst xj_235 19 0 0 rfl rfl rfl (zc_iastore xj_235 20 rfl rfl (zc_iinc xj_235 23 2 1 1 rfl rfl rfl (zf_inc_2 _) (zc_goto xj_235 24 (-21) 2 rfl rfl rfl (trivial))))))))))))))))
noncomputable def xb_235_0 : List zF := zq_k 0 :: zq_istg zE2 :: xb_235_1
noncomputable def xf_235_0 : zE → zKn := fun E => zq_k 0 (zq_istg zE2 (xf_235_1 E) E) E
theorem xe_235_0 : xf_235_0 = zEx xb_235_0 := by
  unfold xf_235_0 xb_235_0
  rw [xe_235_1]
  rfl
theorem xc_235_0 : zCd 235 [0, 2, 26] 0 xb_235_0 := zc_iconst xj_235 1 0 0 rfl rfl rfl (zc_istore_n xj_235 2 2 rfl rfl zf_ist_2 (xc_235_1))
noncomputable def xm_235 : Lean.RArray (zE → zKn) := .branch 2 (.leaf xf_235_0) (.branch 26 (.leaf xf_235_1) (.leaf xf_235_2))
theorem xa_235 : zCdAll 235 [0, 2, 26] xm_235 := zAll2_ok (P := fun t => ∃ c, zCd 235 [0, 2, 26] t c ∧ xm_235.get t = zEx c) ⟨⟨_, xc_235_0, xe_235_0⟩, ⟨_, xc_235_1, xe_235_1⟩, ⟨_, xc_235_2, xe_235_2⟩, trivial⟩
/-- SquareMeshModel.drop -/
theorem xj_236 : ∀ pc, pI 236 pc = pJ_236 pc := fun _ => rfl
noncomputable def xb_236_1 : List zF := [zq_aldg zG0, zq_calli 225 0 9 3, zq_aldg zG0, zq_ildg zG1, zq_calli 235 1 9 3, zq_aldg zG0, zq_calli 219 0 9 5, zq_k 1, zq_iret 1]
noncomputable def xf_236_1 : zE → zKn := fun E => zq_aldg zG0 (zq_calli 225 0 9 3 (zq_aldg zG0 (zq_ildg zG1 (zq_calli 235 1 9 3 (zq_aldg zG0 (zq_calli 219 0 9 5 (zq_k 1 (zq_iret 1 (zNil) E) E) E) E) E) E) E) E) E
theorem xe_236_1 : xf_236_1 = zEx xb_236_1 := by
  unfold xf_236_1 xb_236_1
  rfl
theorem xc_236_1 : zCd 236 [0, 10] 10 xb_236_1 := zc_aload_n xj_236 11 0 rfl rfl zf_ald_0 (zc_invokevirtual1 xj_236 14 162 225 0 285 9 3 rfl rfl rfl rfl (zc_aload_n xj_236 15 0 rfl rfl zf_ald_0 (zc_iload_n xj_236 16 1 rfl rfl zf_ild_1 (zc_invokevirtual1 xj_236 19 187 235 1 298 9 3 rfl rfl rfl rfl (zc_aload_n xj_236 20 0 rfl rfl zf_ald_0 (zc_invokevirtual1 xj_236 23 61 219 0 255 9 5 rfl rfl rfl rfl (zc_iconst xj_236 24 1 1 rfl rfl rfl (zc_ireturn1 xj_236 25 rfl rfl (trivial)))))))))
noncomputable def xb_236_0 : List zF := [zq_aldg zG0, zq_ildg zG1, zq_calli 234 1 9 2, zq_if_ne 10, zq_k 0, zq_iret 1]
noncomputable def xf_236_0 : zE → zKn := fun E => zq_aldg zG0 (zq_ildg zG1 (zq_calli 234 1 9 2 (zq_if_ne 10 (zq_k 0 (zq_iret 1 (zNil) E) E) E) E) E) E
theorem xe_236_0 : xf_236_0 = zEx xb_236_0 := by
  unfold xf_236_0 xb_236_0
  rfl
theorem xc_236_0 : zCd 236 [0, 10] 0 xb_236_0 := zc_aload_n xj_236 1 0 rfl rfl zf_ald_0 (zc_iload_n xj_236 2 1 rfl rfl zf_ild_1 (zc_invokevirtual1 xj_236 5 184 234 1 296 9 2 rfl rfl rfl rfl (zc_if_ne xj_236 8 5 10 rfl rfl rfl (zc_iconst xj_236 9 0 0 rfl rfl rfl (zc_ireturn1 xj_236 10 rfl rfl (trivial))))))
noncomputable def xm_236 : Lean.RArray (zE → zKn) := .branch 10 (.leaf xf_236_0) (.leaf xf_236_1)
theorem xa_236 : zCdAll 236 [0, 10] xm_236 := zAll2_ok (P := fun t => ∃ c, zCd 236 [0, 10] t c ∧ xm_236.get t = zEx c) ⟨⟨_, xc_236_0, xe_236_0⟩, ⟨_, xc_236_1, xe_236_1⟩, trivial⟩
/-- SquareMeshModel.moveNow -/
theorem xj_237 : ∀ pc, pI 237 pc = pJ_237 pc := fun _ => rfl
noncomputable def xb_237_0 : List zF := [zq_aldg zG0, zq_getfg 9 zG0, zq_k 3, zq_k 4, zq_ildg zG1, zq_mul, zq_add, zq_k 0, zq_iast, zq_aldg zG0, zq_ildg zG1, zq_ildg zG2, zq_ildg zG3, zq_calli 229 3 9 7, zq_aldg zG0, zq_calli 219 0 9 5, zq_vret]
noncomputable def xf_237_0 : zE → zKn := fun E => zq_aldg zG0 (zq_getfg 9 zG0 (zq_k 3 (zq_k 4 (zq_ildg zG1 (zq_mul (zq_add (zq_k 0 (zq_iast (zq_aldg zG0 (zq_ildg zG1 (zq_ildg zG2 (zq_ildg zG3 (zq_calli 229 3 9 7 (zq_aldg zG0 (zq_calli 219 0 9 5 (zq_vret (zNil) E) E) E) E) E) E) E) E) E) E) E) E) E) E) E) E) E
theorem xe_237_0 : xf_237_0 = zEx xb_237_0 := by
  unfold xf_237_0 xb_237_0
  rfl
theorem xc_237_0 : zCd 237 [0] 0 xb_237_0 := zc_aload_n xj_237 1 0 rfl rfl zf_ald_0 (zc_getf xj_237 4 8 9 0 94 rfl rfl (zf_getf_0 _) (zc_iconst xj_237 5 3 3 rfl rfl rfl (zc_iconst xj_237 6 4 4 rfl rfl rfl (zc_iload_n xj_237 7 1 rfl rfl zf_ild_1 (zc_imul xj_237 8 rfl rfl (zc_iadd xj_237 9 rfl rfl (zc_iconst xj_237 10 0 0 rfl rfl rfl (zc_iastore xj_237 11 rfl rfl (zc_aload_n xj_237 12 0 rfl rfl zf_ald_0 (zc_iload_n xj_237 13 1 rfl rfl zf_ild_1 (zc_iload_n xj_237 14 2 rfl rfl zf_ild_2 (zc_iload_n xj_237 15 3 rfl rfl zf_ild_3 (zc_invokevirtual1 xj_237 18 172 229 3 294 9 7 rfl rfl rfl rfl (zc_aload_n xj_237 19 0 rfl rfl zf_ald_0 (zc_invokevirtual1 xj_237 22 61 219 0 255 9 5 rfl rfl rfl rfl (zc_return_ xj_237 23 rfl rfl (trivial)))))))))))))))))
noncomputable def xm_237 : Lean.RArray (zE → zKn) := .leaf xf_237_0
theorem xa_237 : zCdAll 237 [0] xm_237 := zAll2_ok (P := fun t => ∃ c, zCd 237 [0] t c ∧ xm_237.get t = zEx c) ⟨⟨_, xc_237_0, xe_237_0⟩, trivial⟩
/-- SquareMeshModel.move -/
theorem xj_238 : ∀ pc, pI 238 pc = pJ_238 pc := fun _ => rfl
noncomputable def xb_238_2 : List zF := [zq_aldg zG0, zq_calli 225 0 9 3, zq_aldg zG0, zq_ildg zG1, zq_ildg zG2, zq_ildg zG3, zq_calli 237 3 9 4, zq_k 1, zq_iret 1]
noncomputable def xf_238_2 : zE → zKn := fun E => zq_aldg zG0 (zq_calli 225 0 9 3 (zq_aldg zG0 (zq_ildg zG1 (zq_ildg zG2 (zq_ildg zG3 (zq_calli 237 3 9 4 (zq_k 1 (zq_iret 1 (zNil) E) E) E) E) E) E) E) E) E
theorem xe_238_2 : xf_238_2 = zEx xb_238_2 := by
  unfold xf_238_2 xb_238_2
  rfl
theorem xc_238_2 : zCd 238 [0, 26, 28] 28 xb_238_2 := zc_aload_n xj_238 29 0 rfl rfl zf_ald_0 (zc_invokevirtual1 xj_238 32 162 225 0 285 9 3 rfl rfl rfl rfl (zc_aload_n xj_238 33 0 rfl rfl zf_ald_0 (zc_iload_n xj_238 34 1 rfl rfl zf_ild_1 (zc_iload_n xj_238 35 2 rfl rfl zf_ild_2 (zc_iload_n xj_238 36 3 rfl rfl zf_ild_3 (zc_invokevirtual1 xj_238 39 191 237 3 300 9 4 rfl rfl rfl rfl (zc_iconst xj_238 40 1 1 rfl rfl rfl (zc_ireturn1 xj_238 41 rfl rfl (trivial)))))))))
noncomputable def xb_238_1 : List zF := [zq_k 0, zq_iret 1]
noncomputable def xf_238_1 : zE → zKn := fun E => zq_k 0 (zq_iret 1 (zNil) E) E
theorem xe_238_1 : xf_238_1 = zEx xb_238_1 := by
  unfold xf_238_1 xb_238_1
  rfl
theorem xc_238_1 : zCd 238 [0, 26, 28] 26 xb_238_1 := zc_iconst xj_238 27 0 0 rfl rfl rfl (zc_ireturn1 xj_238 28 rfl rfl (trivial))
noncomputable def xb_238_0 : List zF := zq_aldg zG0 :: zq_ildg zG1 :: zq_calli 234 1 9 2 :: zq_if_eq 26 :: zq_ildg zG2 :: zq_ildg zG3 :: zq_calls 189 2 2 :: zq_if_eq 26 :: zq_aldg zG0 :: zq_ildg zG2 :: zq_ildg zG3 :: zq_calli 198 2 9 4 :: zq_k 4294967295 :: zq_ic_eq 28 :: xb_238_1
noncomputable def xf_238_0 : zE → zKn := fun E => zq_aldg zG0 (zq_ildg zG1 (zq_calli 234 1 9 2 (zq_if_eq 26 (zq_ildg zG2 (zq_ildg zG3 (zq_calls 189 2 2 (zq_if_eq 26 (zq_aldg zG0 (zq_ildg zG2 (zq_ildg zG3 (zq_calli 198 2 9 4 (zq_k 4294967295 (zq_ic_eq 28 (xf_238_1 E) E) E) E) E) E) E) E) E) E) E) E) E) E) E
theorem xe_238_0 : xf_238_0 = zEx xb_238_0 := by
  unfold xf_238_0 xb_238_0
  rw [xe_238_1]
  rfl
theorem xc_238_0 : zCd 238 [0, 26, 28] 0 xb_238_0 := zc_aload_n xj_238 1 0 rfl rfl zf_ald_0 (zc_iload_n xj_238 2 1 rfl rfl zf_ild_1 (zc_invokevirtual1 xj_238 5 184 234 1 296 9 2 rfl rfl rfl rfl (zc_if_eq xj_238 8 21 26 rfl rfl rfl (zc_iload_n xj_238 9 2 rfl rfl zf_ild_2 (zc_iload_n xj_238 10 3 rfl rfl zf_ild_3 (zc_invokestatic2 xj_238 13 159 189 2 284 0 2 rfl rfl rfl rfl (zc_if_eq xj_238 16 13 26 rfl rfl rfl (zc_aload_n xj_238 17 0 rfl rfl zf_ald_0 (zc_iload_n xj_238 18 2 rfl rfl zf_ild_2 (zc_iload_n xj_238 19 3 rfl rfl zf_ild_3 (zc_invokevirtual1 xj_238 22 169 198 2 291 9 4 rfl rfl rfl rfl (zc_iconst xj_238 23 (-1) 4294967295 rfl rfl rfl (zc_ic_eq xj_238 26 5 28 rfl rfl rfl (xc_238_1))))))))))))))
noncomputable def xm_238 : Lean.RArray (zE → zKn) := .branch 26 (.leaf xf_238_0) (.branch 28 (.leaf xf_238_1) (.leaf xf_238_2))
theorem xa_238 : zCdAll 238 [0, 26, 28] xm_238 := zAll2_ok (P := fun t => ∃ c, zCd 238 [0, 26, 28] t c ∧ xm_238.get t = zEx c) ⟨⟨_, xc_238_0, xe_238_0⟩, ⟨_, xc_238_1, xe_238_1⟩, ⟨_, xc_238_2, xe_238_2⟩, trivial⟩
/-- SquareMeshModel.areTwo -/
theorem xj_239 : ∀ pc, pI 239 pc = pJ_239 pc := fun _ => rfl
noncomputable def xb_239_2 : List zF := [zq_iret 1]
noncomputable def xf_239_2 : zE → zKn := fun E => zq_iret 1 (zNil) E
theorem xe_239_2 : xf_239_2 = zEx xb_239_2 := by
  unfold xf_239_2 xb_239_2
  rfl
theorem xc_239_2 : zCd 239 [0, 25, 26] 26 xb_239_2 := zc_ireturn1 xj_239 27 rfl rfl (trivial)
noncomputable def xb_239_1 : List zF := zq_k 0 :: xb_239_2
noncomputable def xf_239_1 : zE → zKn := fun E => zq_k 0 (xf_239_2 E) E
theorem xe_239_1 : xf_239_1 = zEx xb_239_1 := by
  unfold xf_239_1 xb_239_1
  rw [xe_239_2]
  rfl
theorem xc_239_1 : zCd 239 [0, 25, 26] 25 xb_239_1 := zc_iconst xj_239 26 0 0 rfl rfl rfl (xc_239_2)
noncomputable def xb_239_0 : List zF := [zq_aldg zG0, zq_ildg zG1, zN1 191 2 zg_191, zq_if_eq 25, zq_aldg zG0, zq_ildg zG2, zN1 191 2 zg_191, zq_if_eq 25, zq_ildg zG1, zq_ildg zG2, zq_ic_eq 25, zq_k 1, zq_goto 26]
noncomputable def xf_239_0 : zE → zKn := fun E => zq_aldg zG0 (zq_ildg zG1 (zN1 191 2 zg_191 (zq_if_eq 25 (zq_aldg zG0 (zq_ildg zG2 (zN1 191 2 zg_191 (zq_if_eq 25 (zq_ildg zG1 (zq_ildg zG2 (zq_ic_eq 25 (zq_k 1 (zq_goto 26 (zNil) E) E) E) E) E) E) E) E) E) E) E) E) E
theorem xe_239_0 : xf_239_0 = zEx xb_239_0 := by
  unfold xf_239_0 xb_239_0
  rfl
theorem xc_239_0 : zCd 239 [0, 25, 26] 0 xb_239_0 := zc_aload_n xj_239 1 0 rfl rfl zf_ald_0 (zc_iload_n xj_239 2 1 rfl rfl zf_ild_1 (zc_any xj_239 5 (.invokevirtual 71) [1, 191, 1, 264, 9, 2] rfl rfl (zN1 191 2 zg_191) rfl rfl (zc_if_eq xj_239 8 20 25 rfl rfl rfl (zc_aload_n xj_239 9 0 rfl rfl zf_ald_0 (zc_iload_n xj_239 10 2 rfl rfl zf_ild_2 (zc_any xj_239 13 (.invokevirtual 71) [1, 191, 1, 264, 9, 2] rfl rfl (zN1 191 2 zg_191) rfl rfl (zc_if_eq xj_239 16 12 25 rfl rfl rfl (zc_iload_n xj_239 17 1 rfl rfl zf_ild_1 (zc_iload_n xj_239 18 2 rfl rfl zf_ild_2 (zc_ic_eq xj_239 21 7 25 rfl rfl rfl (zc_iconst xj_239 22 1 1 rfl rfl rfl (zc_goto xj_239 23 4 26 rfl rfl rfl (trivial)))))))))))))
noncomputable def xm_239 : Lean.RArray (zE → zKn) := .branch 25 (.leaf xf_239_0) (.branch 26 (.leaf xf_239_1) (.leaf xf_239_2))
theorem xa_239 : zCdAll 239 [0, 25, 26] xm_239 := zAll2_ok (P := fun t => ∃ c, zCd 239 [0, 25, 26] t c ∧ xm_239.get t = zEx c) ⟨⟨_, xc_239_0, xe_239_0⟩, ⟨_, xc_239_1, xe_239_1⟩, ⟨_, xc_239_2, xe_239_2⟩, trivial⟩
/-- SquareMeshModel.canFix -/
theorem xj_240 : ∀ pc, pI 240 pc = pJ_240 pc := fun _ => rfl
noncomputable def xb_240_2 : List zF := [zq_iret 1]
noncomputable def xf_240_2 : zE → zKn := fun E => zq_iret 1 (zNil) E
theorem xe_240_2 : xf_240_2 = zEx xb_240_2 := by
  unfold xf_240_2 xb_240_2
  rfl
theorem xc_240_2 : zCd 240 [0, 31, 32] 32 xb_240_2 := zc_ireturn1 xj_240 33 rfl rfl (trivial)
noncomputable def xb_240_1 : List zF := zq_k 0 :: xb_240_2
noncomputable def xf_240_1 : zE → zKn := fun E => zq_k 0 (xf_240_2 E) E
theorem xe_240_1 : xf_240_1 = zEx xb_240_1 := by
  unfold xf_240_1 xb_240_1
  rw [xe_240_2]
  rfl
theorem xc_240_1 : zCd 240 [0, 31, 32] 31 xb_240_1 := zc_iconst xj_240 32 0 0 rfl rfl rfl (xc_240_2)
noncomputable def xb_240_0 : List zF := [zq_aldg zG0, zq_ildg zG1, zq_ildg zG2, zq_calli 239 2 9 3, zq_if_eq 31, zq_aldg zG0, zq_ildg zG1, zq_ildg zG2, zN2 196 3 zg_196, zq_if_ne 31, zq_aldg zG0, zq_ildg zG1, zq_ildg zG2, zq_calli 209 2 9 3, zq_if_eq 31, zq_k 1, zq_goto 32]
noncomputable def xf_240_0 : zE → zKn := fun E => zq_aldg zG0 (zq_ildg zG1 (zq_ildg zG2 (zq_calli 239 2 9 3 (zq_if_eq 31 (zq_aldg zG0 (zq_ildg zG1 (zq_ildg zG2 (zN2 196 3 zg_196 (zq_if_ne 31 (zq_aldg zG0 (zq_ildg zG1 (zq_ildg zG2 (zq_calli 209 2 9 3 (zq_if_eq 31 (zq_k 1 (zq_goto 32 (zNil) E) E) E) E) E) E) E) E) E) E) E) E) E) E) E) E) E
theorem xe_240_0 : xf_240_0 = zEx xb_240_0 := by
  unfold xf_240_0 xb_240_0
  rfl
theorem xc_240_0 : zCd 240 [0, 31, 32] 0 xb_240_0 := zc_aload_n xj_240 1 0 rfl rfl zf_ald_0 (zc_iload_n xj_240 2 1 rfl rfl zf_ild_1 (zc_iload_n xj_240 3 2 rfl rfl zf_ild_2 (zc_invokevirtual1 xj_240 6 194 239 2 303 9 3 rfl rfl rfl rfl (zc_if_eq xj_240 9 25 31 rfl rfl rfl (zc_aload_n xj_240 10 0 rfl rfl zf_ald_0 (zc_iload_n xj_240 11 1 rfl rfl zf_ild_1 (zc_iload_n xj_240 12 2 rfl rfl zf_ild_2 (zc_any xj_240 15 (.invokevirtual 102) [1, 196, 2, 258, 9, 3] rfl rfl (zN2 196 3 zg_196) rfl rfl (zc_if_ne xj_240 18 16 31 rfl rfl rfl (zc_aload_n xj_240 19 0 rfl rfl zf_ald_0 (zc_iload_n xj_240 20 1 rfl rfl zf_ild_1 (zc_iload_n xj_240 21 2 rfl rfl zf_ild_2 (zc_invokevirtual1 xj_240 24 128 209 2 267 9 3 rfl rfl rfl rfl (zc_if_eq xj_240 27 7 31 rfl rfl rfl (zc_iconst xj_240 28 1 1 rfl rfl rfl (zc_goto xj_240 29 4 32 rfl rfl rfl (trivial)))))))))))))))))
noncomputable def xm_240 : Lean.RArray (zE → zKn) := .branch 31 (.leaf xf_240_0) (.branch 32 (.leaf xf_240_1) (.leaf xf_240_2))
theorem xa_240 : zCdAll 240 [0, 31, 32] xm_240 := zAll2_ok (P := fun t => ∃ c, zCd 240 [0, 31, 32] t c ∧ xm_240.get t = zEx c) ⟨⟨_, xc_240_0, xe_240_0⟩, ⟨_, xc_240_1, xe_240_1⟩, ⟨_, xc_240_2, xe_240_2⟩, trivial⟩
/-- SquareMeshModel.fix -/
theorem xj_241 : ∀ pc, pI 241 pc = pJ_241 pc := fun _ => rfl
noncomputable def xb_241_1 : List zF := [zq_aldg zG0, zq_calli 225 0 9 3, zq_aldg zG0, zq_ildg zG1, zq_ildg zG2, zq_k 1, zq_calli 197 3 9 4, zq_aldg zG0, zq_calli 219 0 9 5, zq_k 1, zq_iret 1]
noncomputable def xf_241_1 : zE → zKn := fun E => zq_aldg zG0 (zq_calli 225 0 9 3 (zq_aldg zG0 (zq_ildg zG1 (zq_ildg zG2 (zq_k 1 (zq_calli 197 3 9 4 (zq_aldg zG0 (zq_calli 219 0 9 5 (zq_k 1 (zq_iret 1 (zNil) E) E) E) E) E) E) E) E) E) E) E
theorem xe_241_1 : xf_241_1 = zEx xb_241_1 := by
  unfold xf_241_1 xb_241_1
  rfl
theorem xc_241_1 : zCd 241 [0, 11] 11 xb_241_1 := zc_aload_n xj_241 12 0 rfl rfl zf_ald_0 (zc_invokevirtual1 xj_241 15 162 225 0 285 9 3 rfl rfl rfl rfl (zc_aload_n xj_241 16 0 rfl rfl zf_ald_0 (zc_iload_n xj_241 17 1 rfl rfl zf_ild_1 (zc_iload_n xj_241 18 2 rfl rfl zf_ild_2 (zc_iconst xj_241 19 1 1 rfl rfl rfl (zc_invokevirtual1 xj_241 22 58 197 3 254 9 4 rfl rfl rfl rfl (zc_aload_n xj_241 23 0 rfl rfl zf_ald_0 (zc_invokevirtual1 xj_241 26 61 219 0 255 9 5 rfl rfl rfl rfl (zc_iconst xj_241 27 1 1 rfl rfl rfl (zc_ireturn1 xj_241 28 rfl rfl (trivial)))))))))))
noncomputable def xb_241_0 : List zF := [zq_aldg zG0, zq_ildg zG1, zq_ildg zG2, zq_calli 240 2 9 3, zq_if_ne 11, zq_k 0, zq_iret 1]
noncomputable def xf_241_0 : zE → zKn := fun E => zq_aldg zG0 (zq_ildg zG1 (zq_ildg zG2 (zq_calli 240 2 9 3 (zq_if_ne 11 (zq_k 0 (zq_iret 1 (zNil) E) E) E) E) E) E) E
theorem xe_241_0 : xf_241_0 = zEx xb_241_0 := by
  unfold xf_241_0 xb_241_0
  rfl
theorem xc_241_0 : zCd 241 [0, 11] 0 xb_241_0 := zc_aload_n xj_241 1 0 rfl rfl zf_ald_0 (zc_iload_n xj_241 2 1 rfl rfl zf_ild_1 (zc_iload_n xj_241 3 2 rfl rfl zf_ild_2 (zc_invokevirtual1 xj_241 6 197 240 2 302 9 3 rfl rfl rfl rfl (zc_if_ne xj_241 9 5 11 rfl rfl rfl (zc_iconst xj_241 10 0 0 rfl rfl rfl (zc_ireturn1 xj_241 11 rfl rfl (trivial)))))))
noncomputable def xm_241 : Lean.RArray (zE → zKn) := .branch 11 (.leaf xf_241_0) (.leaf xf_241_1)
theorem xa_241 : zCdAll 241 [0, 11] xm_241 := zAll2_ok (P := fun t => ∃ c, zCd 241 [0, 11] t c ∧ xm_241.get t = zEx c) ⟨⟨_, xc_241_0, xe_241_0⟩, ⟨_, xc_241_1, xe_241_1⟩, trivial⟩
/-- SquareMeshModel.canFree -/
theorem xj_242 : ∀ pc, pI 242 pc = pJ_242 pc := fun _ => rfl
noncomputable def xb_242_2 : List zF := [zq_iret 1]
noncomputable def xf_242_2 : zE → zKn := fun E => zq_iret 1 (zNil) E
theorem xe_242_2 : xf_242_2 = zEx xb_242_2 := by
  unfold xf_242_2 xb_242_2
  rfl
theorem xc_242_2 : zCd 242 [0, 23, 24] 24 xb_242_2 := zc_ireturn1 xj_242 25 rfl rfl (trivial)
noncomputable def xb_242_1 : List zF := zq_k 0 :: xb_242_2
noncomputable def xf_242_1 : zE → zKn := fun E => zq_k 0 (xf_242_2 E) E
theorem xe_242_1 : xf_242_1 = zEx xb_242_1 := by
  unfold xf_242_1 xb_242_1
  rw [xe_242_2]
  rfl
theorem xc_242_1 : zCd 242 [0, 23, 24] 23 xb_242_1 := zc_iconst xj_242 24 0 0 rfl rfl rfl (xc_242_2)
noncomputable def xb_242_0 : List zF := [zq_aldg zG0, zq_ildg zG1, zq_ildg zG2, zq_calli 239 2 9 3, zq_if_eq 23, zq_aldg zG0, zq_ildg zG1, zq_ildg zG2, zN2 196 3 zg_196, zq_k 1, zq_ic_ne 23, zq_k 1, zq_goto 24]
noncomputable def xf_242_0 : zE → zKn := fun E => zq_aldg zG0 (zq_ildg zG1 (zq_ildg zG2 (zq_calli 239 2 9 3 (zq_if_eq 23 (zq_aldg zG0 (zq_ildg zG1 (zq_ildg zG2 (zN2 196 3 zg_196 (zq_k 1 (zq_ic_ne 23 (zq_k 1 (zq_goto 24 (zNil) E) E) E) E) E) E) E) E) E) E) E) E) E
theorem xe_242_0 : xf_242_0 = zEx xb_242_0 := by
  unfold xf_242_0 xb_242_0
  rfl
theorem xc_242_0 : zCd 242 [0, 23, 24] 0 xb_242_0 := zc_aload_n xj_242 1 0 rfl rfl zf_ald_0 (zc_iload_n xj_242 2 1 rfl rfl zf_ild_1 (zc_iload_n xj_242 3 2 rfl rfl zf_ild_2 (zc_invokevirtual1 xj_242 6 194 239 2 303 9 3 rfl rfl rfl rfl (zc_if_eq xj_242 9 17 23 rfl rfl rfl (zc_aload_n xj_242 10 0 rfl rfl zf_ald_0 (zc_iload_n xj_242 11 1 rfl rfl zf_ild_1 (zc_iload_n xj_242 12 2 rfl rfl zf_ild_2 (zc_any xj_242 15 (.invokevirtual 102) [1, 196, 2, 258, 9, 3] rfl rfl (zN2 196 3 zg_196) rfl rfl (zc_iconst xj_242 16 1 1 rfl rfl rfl (zc_ic_ne xj_242 19 7 23 rfl rfl rfl (zc_iconst xj_242 20 1 1 rfl rfl rfl (zc_goto xj_242 21 4 24 rfl rfl rfl (trivial)))))))))))))
noncomputable def xm_242 : Lean.RArray (zE → zKn) := .branch 23 (.leaf xf_242_0) (.branch 24 (.leaf xf_242_1) (.leaf xf_242_2))
theorem xa_242 : zCdAll 242 [0, 23, 24] xm_242 := zAll2_ok (P := fun t => ∃ c, zCd 242 [0, 23, 24] t c ∧ xm_242.get t = zEx c) ⟨⟨_, xc_242_0, xe_242_0⟩, ⟨_, xc_242_1, xe_242_1⟩, ⟨_, xc_242_2, xe_242_2⟩, trivial⟩
/-- SquareMeshModel.free -/
theorem xj_243 : ∀ pc, pI 243 pc = pJ_243 pc := fun _ => rfl
noncomputable def xb_243_1 : List zF := [zq_aldg zG0, zq_calli 225 0 9 3, zq_aldg zG0, zq_ildg zG1, zq_ildg zG2, zq_k 0, zq_calli 197 3 9 4, zq_aldg zG0, zq_calli 219 0 9 5, zq_k 1, zq_iret 1]
noncomputable def xf_243_1 : zE → zKn := fun E => zq_aldg zG0 (zq_calli 225 0 9 3 (zq_aldg zG0 (zq_ildg zG1 (zq_ildg zG2 (zq_k 0 (zq_calli 197 3 9 4 (zq_aldg zG0 (zq_calli 219 0 9 5 (zq_k 1 (zq_iret 1 (zNil) E) E) E) E) E) E) E) E) E) E) E
theorem xe_243_1 : xf_243_1 = zEx xb_243_1 := by
  unfold xf_243_1 xb_243_1
  rfl
theorem xc_243_1 : zCd 243 [0, 11] 11 xb_243_1 := zc_aload_n xj_243 12 0 rfl rfl zf_ald_0 (zc_invokevirtual1 xj_243 15 162 225 0 285 9 3 rfl rfl rfl rfl (zc_aload_n xj_243 16 0 rfl rfl zf_ald_0 (zc_iload_n xj_243 17 1 rfl rfl zf_ild_1 (zc_iload_n xj_243 18 2 rfl rfl zf_ild_2 (zc_iconst xj_243 19 0 0 rfl rfl rfl (zc_invokevirtual1 xj_243 22 58 197 3 254 9 4 rfl rfl rfl rfl (zc_aload_n xj_243 23 0 rfl rfl zf_ald_0 (zc_invokevirtual1 xj_243 26 61 219 0 255 9 5 rfl rfl rfl rfl (zc_iconst xj_243 27 1 1 rfl rfl rfl (zc_ireturn1 xj_243 28 rfl rfl (trivial)))))))))))
noncomputable def xb_243_0 : List zF := [zq_aldg zG0, zq_ildg zG1, zq_ildg zG2, zq_calli 242 2 9 3, zq_if_ne 11, zq_k 0, zq_iret 1]
noncomputable def xf_243_0 : zE → zKn := fun E => zq_aldg zG0 (zq_ildg zG1 (zq_ildg zG2 (zq_calli 242 2 9 3 (zq_if_ne 11 (zq_k 0 (zq_iret 1 (zNil) E) E) E) E) E) E) E
theorem xe_243_0 : xf_243_0 = zEx xb_243_0 := by
  unfold xf_243_0 xb_243_0
  rfl
theorem xc_243_0 : zCd 243 [0, 11] 0 xb_243_0 := zc_aload_n xj_243 1 0 rfl rfl zf_ald_0 (zc_iload_n xj_243 2 1 rfl rfl zf_ild_1 (zc_iload_n xj_243 3 2 rfl rfl zf_ild_2 (zc_invokevirtual1 xj_243 6 200 242 2 305 9 3 rfl rfl rfl rfl (zc_if_ne xj_243 9 5 11 rfl rfl rfl (zc_iconst xj_243 10 0 0 rfl rfl rfl (zc_ireturn1 xj_243 11 rfl rfl (trivial)))))))
noncomputable def xm_243 : Lean.RArray (zE → zKn) := .branch 11 (.leaf xf_243_0) (.leaf xf_243_1)
theorem xa_243 : zCdAll 243 [0, 11] xm_243 := zAll2_ok (P := fun t => ∃ c, zCd 243 [0, 11] t c ∧ xm_243.get t = zEx c) ⟨⟨_, xc_243_0, xe_243_0⟩, ⟨_, xc_243_1, xe_243_1⟩, trivial⟩
/-- SquareMeshModel.draw -/
theorem xj_244 : ∀ pc, pI 244 pc = pJ_244 pc := fun _ => rfl
noncomputable def xb_244_0 : List zF := [zq_aldg zG0, zq_getfg 9 zG0, zq_k 2, zq_aldg zG0, zq_getfg 9 zG0, zq_k 2, zq_ild_ 0, zq_k 827, zq_mul, zq_k 641, zq_add, zq_k 30047, zq_rem, zq_iast, zq_aldg zG0, zq_getfg 9 zG0, zq_k 2, zq_ild_ 0, zq_k 2, zq_ildg zG1, zq_mul, zq_k 1, zq_add, zq_rem, zq_ildg zG1, zq_sub, zq_iret 0]
noncomputable def xf_244_0 : zE → zKn := fun E => zq_aldg zG0 (zq_getfg 9 zG0 (zq_k 2 (zq_aldg zG0 (zq_getfg 9 zG0 (zq_k 2 (zq_ild_ 0 (zq_k 827 (zq_mul (zq_k 641 (zq_add (zq_k 30047 (zq_rem (zq_iast (zq_aldg zG0 (zq_getfg 9 zG0 (zq_k 2 (zq_ild_ 0 (zq_k 2 (zq_ildg zG1 (zq_mul (zq_k 1 (zq_add (zq_rem (zq_ildg zG1 (zq_sub (zq_iret 0 (zNil) E) E) E) E) E) E) E) E) E) E) E) E) E) E) E) E) E) E) E) E) E) E) E) E) E) E) E
theorem xe_244_0 : xf_244_0 = zEx xb_244_0 := by
  unfold xf_244_0 xb_244_0
  rfl
theorem xc_244_0 : zCd 244 [0] 0 xb_244_0 := zc_aload_n xj_244 1 0 rfl rfl zf_ald_0 (zc_getf xj_244 4 8 9 0 94 rfl rfl (zf_getf_0 _) (zc_iconst xj_244 5 2 2 rfl rfl rfl (zc_aload_n xj_244 6 0 rfl rfl zf_ald_0 (zc_getf xj_244 9 8 9 0 94 rfl rfl (zf_getf_0 _) (zc_iconst xj_244 10 2 2 rfl rfl rfl (zc_iaload xj_244 11 rfl rfl (zc_sipush xj_244 14 827 827 rfl rfl rfl (zc_imul xj_244 15 rfl rfl (zc_sipush xj_244 18 641 641 rfl rfl rfl (zc_iadd xj_244 19 rfl rfl (zc_sipush xj_244 22 30047 30047 rfl rfl rfl (zc_irem xj_244 23 rfl rfl (zc_iastore xj_244 24 rfl rfl (zc_aload_n xj_244 25 0 rfl rfl zf_ald_0 (zc_getf xj_244 28 8 9 0 94 rfl rfl (zf_getf_0 _) (zc_iconst xj_244 29 2 2 rfl rfl rfl (zc_iaload xj_244 30 rfl rfl (zc_iconst xj_244 31 2 2 rfl rfl rfl (zc_iload_n xj_244 32 1 rfl rfl zf_ild_1 (zc_imul xj_244 33 rfl rfl (zc_iconst xj_244 34 1 1 rfl rfl rfl (zc_iadd xj_244 35 rfl rfl (zc_irem xj_244 36 rfl rfl (zc_iload_n xj_244 37 1 rfl rfl zf_ild_1 (zc_isub xj_244 38 rfl rfl (zc_ireturn0 xj_244 39 rfl rfl (trivial)))))))))))))))))))))))))))
noncomputable def xm_244 : Lean.RArray (zE → zKn) := .leaf xf_244_0
theorem xa_244 : zCdAll 244 [0] xm_244 := zAll2_ok (P := fun t => ∃ c, zCd 244 [0] t c ∧ xm_244.get t = zEx c) ⟨⟨_, xc_244_0, xe_244_0⟩, trivial⟩
/-- SquareMeshModel.drawn -/
theorem xj_245 : ∀ pc, pI 245 pc = pJ_245 pc := fun _ => rfl
noncomputable def xb_245_6 : List zF := [zq_aldg zG0, zq_calli 219 0 9 5, zq_ildg zG3, zq_iret 0]
noncomputable def xf_245_6 : zE → zKn := fun E => zq_aldg zG0 (zq_calli 219 0 9 5 (zq_ildg zG3 (zq_iret 0 (zNil) E) E) E) E
theorem xe_245_6 : xf_245_6 = zEx xb_245_6 := by
  unfold xf_245_6 xb_245_6
  rfl
theorem xc_245_6 : zCd 245 [0, 21, 23, 32, 69, 70, 78] 78 xb_245_6 := zc_aload_n xj_245 79 0 rfl rfl zf_ald_0 (zc_invokevirtual1 xj_245 82 61 219 0 255 9 5 rfl rfl rfl rfl (zc_iload_n xj_245 83 3 rfl rfl zf_ild_3 (zc_ireturn0 xj_245 84 rfl rfl (trivial))))
noncomputable def xb_245_5 : List zF := [zq_add, zq_istg zE3, zq_incg zG4 zE4 1, zq_goto 32]
noncomputable def xf_245_5 : zE → zKn := fun E => zq_add (zq_istg zE3 (zq_incg zG4 zE4 1 (zq_goto 32 (zNil) E) E) E) E
theorem xe_245_5 : xf_245_5 = zEx xb_245_5 := by
  unfold xf_245_5 xb_245_5
  rfl
theorem xc_245_5 : zCd 245 [0, 21, 23, 32, 69, 70, 78] 70 xb_245_5 := zc_iadd xj_245 71 rfl rfl (zc_istore_n xj_245 72 3 rfl rfl zf_ist_3 (zc_iinc xj_245 75 4 1 1 rfl rfl rfl (zf_inc_4 _) (zc_goto xj_245 76 (-43) 32 rfl rfl rfl (trivial))))
noncomputable def xb_245_4 : List zF := zq_k 1 :: xb_245_5
noncomputable def xf_245_4 : zE → zKn := fun E => zq_k 1 (xf_245_5 E) E
theorem xe_245_4 : xf_245_4 = zEx xb_245_4 := by
  unfold xf_245_4 xb_245_4
  rw [xe_245_5]
  rfl
theorem xc_245_4 : zCd 245 [0, 21, 23, 32, 69, 70, 78] 69 xb_245_4 := zc_iconst xj_245 70 1 1 rfl rfl rfl (xc_245_5)
noncomputable def xb_245_3 : List zF := [zq_ildg zG4, zq_ildg zG1, zq_ic_ge 78, zq_aldg zG0, zq_ildg zG2, zq_calli 244 1 9 2, zq_istg zE5, zq_aldg zG0, zq_ildg zG2, zq_calli 244 1 9 2, zq_istg zE6, zq_ildg zG3, zq_aldg zG0, zq_ildg zG5, zq_ildg zG6, zq_calli 230 2 9 4, zq_k 4294967295, zq_ic_ne 69, zq_k 0, zq_goto 70]
noncomputable def xf_245_3 : zE → zKn := fun E => zq_ildg zG4 (zq_ildg zG1 (zq_ic_ge 78 (zq_aldg zG0 (zq_ildg zG2 (zq_calli 244 1 9 2 (zq_istg zE5 (zq_aldg zG0 (zq_ildg zG2 (zq_calli 244 1 9 2 (zq_istg zE6 (zq_ildg zG3 (zq_aldg zG0 (zq_ildg zG5 (zq_ildg zG6 (zq_calli 230 2 9 4 (zq_k 4294967295 (zq_ic_ne 69 (zq_k 0 (zq_goto 70 (zNil) E) E) E) E) E) E) E) E) E) E) E) E) E) E) E) E) E) E) E) E
theorem xe_245_3 : xf_245_3 = zEx xb_245_3 := by
  unfold xf_245_3 xb_245_3
  rfl
theorem xc_245_3 : zCd 245 [0, 21, 23, 32, 69, 70, 78] 32 xb_245_3 := zc_iload xj_245 34 4 rfl rfl zf_ild_4 (zc_iload_n xj_245 35 1 rfl rfl zf_ild_1 (zc_ic_ge xj_245 38 43 78 rfl rfl rfl (zc_aload_n xj_245 39 0 rfl rfl zf_ald_0 (zc_iload_n xj_245 40 2 rfl rfl zf_ild_2 (zc_invokevirtual1 xj_245 43 203 244 1 307 9 2 rfl rfl rfl rfl (zc_istore xj_245 45 5 rfl rfl zf_ist_5 (zc_aload_n xj_245 46 0 rfl rfl zf_ald_0 (zc_iload_n xj_245 47 2 rfl rfl zf_ild_2 (zc_invokevirtual1 xj_245 50 203 244 1 307 9 2 rfl rfl rfl rfl (zc_istore xj_245 52 6 rfl rfl zf_ist_6 (zc_iload_n xj_245 53 3 rfl rfl zf_ild_3 (zc_aload_n xj_245 54 0 rfl rfl zf_ald_0 (zc_iload xj_245 56 5 rfl rfl zf_ild_5 (zc_iload xj_245 58 6 rfl rfl zf_ild_6 (zc_invokevirtual1 xj_245 61 178 230 2 293 9 4 rfl rfl rfl rfl (zc_iconst xj_245 62 (-1) 4294967295 rfl rfl rfl (zc_ic_ne xj_245 65 7 69 rfl rfl rfl (zc_iconst xj_245 66 0 0 rfl rfl rfl (zc_goto xj_245 67 4 70 rfl rfl rfl (trivial))))))))))))))))))))
noncomputable def xb_245_2 : List zF := zq_aldg zG0 :: zq_calli 225 0 9 3 :: zq_k 0 :: zq_istg zE3 :: zq_k 0 :: zq_istg zE4 :: xb_245_3
noncomputable def xf_245_2 : zE → zKn := fun E => zq_aldg zG0 (zq_calli 225 0 9 3 (zq_k 0 (zq_istg zE3 (zq_k 0 (zq_istg zE4 (xf_245_3 E) E) E) E) E) E) E
theorem xe_245_2 : xf_245_2 = zEx xb_245_2 := by
  unfold xf_245_2 xb_245_2
  rw [xe_245_3]
  rfl
theorem xc_245_2 : zCd 245 [0, 21, 23, 32, 69, 70, 78] 23 xb_245_2 := zc_aload_n xj_245 24 0 rfl rfl zf_ald_0 (zc_invokevirtual1 xj_245 27 162 225 0 285 9 3 rfl rfl rfl rfl (zc_iconst xj_245 28 0 0 rfl rfl rfl (zc_istore_n xj_245 29 3 rfl rfl zf_ist_3 (zc_iconst xj_245 30 0 0 rfl rfl rfl (zc_istore xj_245 32 4 rfl rfl zf_ist_4 (xc_245_3))))))
noncomputable def xb_245_1 : List zF := [zq_k 4294967295, zq_iret 0]
noncomputable def xf_245_1 : zE → zKn := fun E => zq_k 4294967295 (zq_iret 0 (zNil) E) E
theorem xe_245_1 : xf_245_1 = zEx xb_245_1 := by
  unfold xf_245_1 xb_245_1
  rfl
theorem xc_245_1 : zCd 245 [0, 21, 23, 32, 69, 70, 78] 21 xb_245_1 := zc_iconst xj_245 22 (-1) 4294967295 rfl rfl rfl (zc_ireturn0 xj_245 23 rfl rfl (trivial))
noncomputable def xb_245_0 : List zF := zq_ildg zG1 :: zq_k 1 :: zq_k 20 :: zq_calls 188 3 3 :: zq_if_eq 21 :: zq_ildg zG2 :: zq_k 1 :: zq_k 1000 :: zq_calls 188 3 3 :: zq_if_ne 23 :: xb_245_1
noncomputable def xf_245_0 : zE → zKn := fun E => zq_ildg zG1 (zq_k 1 (zq_k 20 (zq_calls 188 3 3 (zq_if_eq 21 (zq_ildg zG2 (zq_k 1 (zq_k 1000 (zq_calls 188 3 3 (zq_if_ne 23 (xf_245_1 E) E) E) E) E) E) E) E) E) E) E
theorem xe_245_0 : xf_245_0 = zEx xb_245_0 := by
  unfold xf_245_0 xb_245_0
  rw [xe_245_1]
  rfl
theorem xc_245_0 : zCd 245 [0, 21, 23, 32, 69, 70, 78] 0 xb_245_0 := zc_iload_n xj_245 1 1 rfl rfl zf_ild_1 (zc_iconst xj_245 2 1 1 rfl rfl rfl (zc_bipush xj_245 4 20 20 rfl rfl rfl (zc_invokestatic2 xj_245 7 67 188 3 265 0 3 rfl rfl rfl rfl (zc_if_eq xj_245 10 14 21 rfl rfl rfl (zc_iload_n xj_245 11 2 rfl rfl zf_ild_2 (zc_iconst xj_245 12 1 1 rfl rfl rfl (zc_sipush xj_245 15 1000 1000 rfl rfl rfl (zc_invokestatic2 xj_245 18 67 188 3 265 0 3 rfl rfl rfl rfl (zc_if_ne xj_245 21 5 23 rfl rfl rfl (xc_245_1))))))))))
noncomputable def xm_245 : Lean.RArray (zE → zKn) := .branch 32 (.branch 21 (.leaf xf_245_0) (.branch 23 (.leaf xf_245_1) (.leaf xf_245_2))) (.branch 70 (.branch 69 (.leaf xf_245_3) (.leaf xf_245_4)) (.branch 78 (.leaf xf_245_5) (.leaf xf_245_6)))
theorem xa_245 : zCdAll 245 [0, 21, 23, 32, 69, 70, 78] xm_245 := zAll2_ok (P := fun t => ∃ c, zCd 245 [0, 21, 23, 32, 69, 70, 78] t c ∧ xm_245.get t = zEx c) ⟨⟨_, xc_245_0, xe_245_0⟩, ⟨_, xc_245_1, xe_245_1⟩, ⟨_, xc_245_2, xe_245_2⟩, ⟨_, xc_245_3, xe_245_3⟩, ⟨_, xc_245_4, xe_245_4⟩, ⟨_, xc_245_5, xe_245_5⟩, ⟨_, xc_245_6, xe_245_6⟩, trivial⟩
/-- SquareMeshModel.height -/
theorem xj_246 : ∀ pc, pI 246 pc = pJ_246 pc := fun _ => rfl
noncomputable def xb_246_2 : List zF := [zq_aldg zG0, zq_calli 225 0 9 3, zq_aldg zG0, zq_getfg 9 zG0, zq_k 3, zq_k 4, zq_ildg zG1, zq_mul, zq_add, zq_k 3, zq_add, zq_ildg zG2, zq_iast, zq_k 1, zq_iret 1]
noncomputable def xf_246_2 : zE → zKn := fun E => zq_aldg zG0 (zq_calli 225 0 9 3 (zq_aldg zG0 (zq_getfg 9 zG0 (zq_k 3 (zq_k 4 (zq_ildg zG1 (zq_mul (zq_add (zq_k 3 (zq_add (zq_ildg zG2 (zq_iast (zq_k 1 (zq_iret 1 (zNil) E) E) E) E) E) E) E) E) E) E) E) E) E) E) E
theorem xe_246_2 : xf_246_2 = zEx xb_246_2 := by
  unfold xf_246_2 xb_246_2
  rfl
theorem xc_246_2 : zCd 246 [0, 21, 23] 23 xb_246_2 := zc_aload_n xj_246 24 0 rfl rfl zf_ald_0 (zc_invokevirtual1 xj_246 27 162 225 0 285 9 3 rfl rfl rfl rfl (zc_aload_n xj_246 28 0 rfl rfl zf_ald_0 (zc_getf xj_246 31 8 9 0 94 rfl rfl (zf_getf_0 _) (zc_iconst xj_246 32 3 3 rfl rfl rfl (zc_iconst xj_246 33 4 4 rfl rfl rfl (zc_iload_n xj_246 34 1 rfl rfl zf_ild_1 (zc_imul xj_246 35 rfl rfl (zc_iadd xj_246 36 rfl rfl (zc_iconst xj_246 37 3 3 rfl rfl rfl (zc_iadd xj_246 38 rfl rfl (zc_iload_n xj_246 39 2 rfl rfl zf_ild_2 (zc_iastore xj_246 40 rfl rfl (zc_iconst xj_246 41 1 1 rfl rfl rfl (zc_ireturn1 xj_246 42 rfl rfl (trivial)))))))))))))))
noncomputable def xb_246_1 : List zF := [zq_k 0, zq_iret 1]
noncomputable def xf_246_1 : zE → zKn := fun E => zq_k 0 (zq_iret 1 (zNil) E) E
theorem xe_246_1 : xf_246_1 = zEx xb_246_1 := by
  unfold xf_246_1 xb_246_1
  rfl
theorem xc_246_1 : zCd 246 [0, 21, 23] 21 xb_246_1 := zc_iconst xj_246 22 0 0 rfl rfl rfl (zc_ireturn1 xj_246 23 rfl rfl (trivial))
noncomputable def xb_246_0 : List zF := zq_aldg zG0 :: zq_ildg zG1 :: zN1 191 2 zg_191 :: zq_if_eq 21 :: zq_ildg zG2 :: zq_k 4294957297 :: zq_k 9999 :: zq_calls 188 3 3 :: zq_if_ne 23 :: xb_246_1
noncomputable def xf_246_0 : zE → zKn := fun E => zq_aldg zG0 (zq_ildg zG1 (zN1 191 2 zg_191 (zq_if_eq 21 (zq_ildg zG2 (zq_k 4294957297 (zq_k 9999 (zq_calls 188 3 3 (zq_if_ne 23 (xf_246_1 E) E) E) E) E) E) E) E) E) E
theorem xe_246_0 : xf_246_0 = zEx xb_246_0 := by
  unfold xf_246_0 xb_246_0
  rw [xe_246_1]
  rfl
theorem xc_246_0 : zCd 246 [0, 21, 23] 0 xb_246_0 := zc_aload_n xj_246 1 0 rfl rfl zf_ald_0 (zc_iload_n xj_246 2 1 rfl rfl zf_ild_1 (zc_any xj_246 5 (.invokevirtual 71) [1, 191, 1, 264, 9, 2] rfl rfl (zN1 191 2 zg_191) rfl rfl (zc_if_eq xj_246 8 16 21 rfl rfl rfl (zc_iload_n xj_246 9 2 rfl rfl zf_ild_2 (zc_sipush xj_246 12 (-9999) 4294957297 rfl rfl rfl (zc_sipush xj_246 15 9999 9999 rfl rfl rfl (zc_invokestatic2 xj_246 18 67 188 3 265 0 3 rfl rfl rfl rfl (zc_if_ne xj_246 21 5 23 rfl rfl rfl (xc_246_1)))))))))
noncomputable def xm_246 : Lean.RArray (zE → zKn) := .branch 21 (.leaf xf_246_0) (.branch 23 (.leaf xf_246_1) (.leaf xf_246_2))
theorem xa_246 : zCdAll 246 [0, 21, 23] xm_246 := zAll2_ok (P := fun t => ∃ c, zCd 246 [0, 21, 23] t c ∧ xm_246.get t = zEx c) ⟨⟨_, xc_246_0, xe_246_0⟩, ⟨_, xc_246_1, xe_246_1⟩, ⟨_, xc_246_2, xe_246_2⟩, trivial⟩
/-- SquareMeshModel.cornerOf -/
theorem xj_247 : ∀ pc, pI 247 pc = pJ_247 pc := fun _ => rfl
noncomputable def xb_247_0 : List zF := [zq_aldg zG0, zq_getfg 9 zG2, zq_k 3, zq_ildg zG1, zq_mul, zq_ildg zG2, zq_k 3, zq_rem, zq_add, zq_ild_ 0, zq_iret 0]
noncomputable def xf_247_0 : zE → zKn := fun E => zq_aldg zG0 (zq_getfg 9 zG2 (zq_k 3 (zq_ildg zG1 (zq_mul (zq_ildg zG2 (zq_k 3 (zq_rem (zq_add (zq_ild_ 0 (zq_iret 0 (zNil) E) E) E) E) E) E) E) E) E) E) E
theorem xe_247_0 : xf_247_0 = zEx xb_247_0 := by
  unfold xf_247_0 xb_247_0
  rfl
theorem xc_247_0 : zCd 247 [0] 0 xb_247_0 := zc_aload_n xj_247 1 0 rfl rfl zf_ald_0 (zc_getf xj_247 4 17 9 2 96 rfl rfl (zf_getf_2 _) (zc_iconst xj_247 5 3 3 rfl rfl rfl (zc_iload_n xj_247 6 1 rfl rfl zf_ild_1 (zc_imul xj_247 7 rfl rfl (zc_iload_n xj_247 8 2 rfl rfl zf_ild_2 (zc_iconst xj_247 9 3 3 rfl rfl rfl (zc_irem xj_247 10 rfl rfl (zc_iadd xj_247 11 rfl rfl (zc_iaload xj_247 12 rfl rfl (zc_ireturn0 xj_247 13 rfl rfl (trivial)))))))))))
noncomputable def xm_247 : Lean.RArray (zE → zKn) := .leaf xf_247_0
theorem xa_247 : zCdAll 247 [0] xm_247 := zAll2_ok (P := fun t => ∃ c, zCd 247 [0] t c ∧ xm_247.get t = zEx c) ⟨⟨_, xc_247_0, xe_247_0⟩, trivial⟩
/-- SquareMeshModel.edgeOf -/
theorem xj_248 : ∀ pc, pI 248 pc = pJ_248 pc := fun _ => rfl
noncomputable def xb_248_0 : List zF := [zq_aldg zG0, zq_aldg zG0, zq_ildg zG1, zq_ildg zG2, zq_calli 247 2 9 3, zq_aldg zG0, zq_ildg zG1, zq_ildg zG2, zq_k 1, zq_add, zq_calli 247 2 9 3, zq_calli 204 2 9 3, zq_iret 0]
noncomputable def xf_248_0 : zE → zKn := fun E => zq_aldg zG0 (zq_aldg zG0 (zq_ildg zG1 (zq_ildg zG2 (zq_calli 247 2 9 3 (zq_aldg zG0 (zq_ildg zG1 (zq_ildg zG2 (zq_k 1 (zq_add (zq_calli 247 2 9 3 (zq_calli 204 2 9 3 (zq_iret 0 (zNil) E) E) E) E) E) E) E) E) E) E) E) E) E
theorem xe_248_0 : xf_248_0 = zEx xb_248_0 := by
  unfold xf_248_0 xb_248_0
  rfl
theorem xc_248_0 : zCd 248 [0] 0 xb_248_0 := zc_aload_n xj_248 1 0 rfl rfl zf_ald_0 (zc_aload_n xj_248 2 0 rfl rfl zf_ald_0 (zc_iload_n xj_248 3 1 rfl rfl zf_ild_1 (zc_iload_n xj_248 4 2 rfl rfl zf_ild_2 (zc_invokevirtual1 xj_248 7 206 247 2 313 9 3 rfl rfl rfl rfl (zc_aload_n xj_248 8 0 rfl rfl zf_ald_0 (zc_iload_n xj_248 9 1 rfl rfl zf_ild_1 (zc_iload_n xj_248 10 2 rfl rfl zf_ild_2 (zc_iconst xj_248 11 1 1 rfl rfl rfl (zc_iadd xj_248 12 rfl rfl (zc_invokevirtual1 xj_248 15 206 247 2 313 9 3 rfl rfl rfl rfl (zc_invokevirtual1 xj_248 18 86 204 2 270 9 3 rfl rfl rfl rfl (zc_ireturn0 xj_248 19 rfl rfl (trivial)))))))))))))
noncomputable def xm_248 : Lean.RArray (zE → zKn) := .leaf xf_248_0
theorem xa_248 : zCdAll 248 [0] xm_248 := zAll2_ok (P := fun t => ∃ c, zCd 248 [0] t c ∧ xm_248.get t = zEx c) ⟨⟨_, xc_248_0, xe_248_0⟩, trivial⟩
/-- SquareMeshModel.longestOf -/
theorem xj_249 : ∀ pc, pI 249 pc = pJ_249 pc := fun _ => rfl
noncomputable def xb_249_3 : List zF := [zq_ildg zG2, zq_iret 0]
noncomputable def xf_249_3 : zE → zKn := fun E => zq_ildg zG2 (zq_iret 0 (zNil) E) E
theorem xe_249_3 : xf_249_3 = zEx xb_249_3 := by
  unfold xf_249_3 xb_249_3
  rfl
theorem xc_249_3 : zCd 249 [0, 4, 26, 32] 32 xb_249_3 := zc_iload_n xj_249 33 2 rfl rfl zf_ild_2 (zc_ireturn0 xj_249 34 rfl rfl (trivial))
noncomputable def xb_249_2 : List zF := [zq_incg zG3 zE3 1, zq_goto 4]
noncomputable def xf_249_2 : zE → zKn := fun E => zq_incg zG3 zE3 1 (zq_goto 4 (zNil) E) E
theorem xe_249_2 : xf_249_2 = zEx xb_249_2 := by
  unfold xf_249_2 xb_249_2
  rfl
theorem xc_249_2 : zCd 249 [0, 4, 26, 32] 26 xb_249_2 := zc_iinc xj_249 29 3 1 1 rfl rfl rfl (zf_inc_3 _) (zc_goto xj_249 30 (-25) 4 rfl rfl rfl (trivial))
noncomputable def xb_249_1 : List zF := zq_ildg zG3 :: zq_k 3 :: zq_ic_ge 32 :: zq_aldg zG0 :: zq_ildg zG1 :: zq_ildg zG3 :: zq_calli 248 2 9 3 :: zq_aldg zG0 :: zq_ildg zG1 :: zq_ildg zG2 :: zq_calli 248 2 9 3 :: zq_ic_le 26 :: zq_ildg zG3 :: zq_istg zE2 :: xb_249_2
noncomputable def xf_249_1 : zE → zKn := fun E => zq_ildg zG3 (zq_k 3 (zq_ic_ge 32 (zq_aldg zG0 (zq_ildg zG1 (zq_ildg zG3 (zq_calli 248 2 9 3 (zq_aldg zG0 (zq_ildg zG1 (zq_ildg zG2 (zq_calli 248 2 9 3 (zq_ic_le 26 (zq_ildg zG3 (zq_istg zE2 (xf_249_2 E) E) E) E) E) E) E) E) E) E) E) E) E) E) E
theorem xe_249_1 : xf_249_1 = zEx xb_249_1 := by
  unfold xf_249_1 xb_249_1
  rw [xe_249_2]
  rfl
theorem xc_249_1 : zCd 249 [0, 4, 26, 32] 4 xb_249_1 := zc_iload_n xj_249 5 3 rfl rfl zf_ild_3 (zc_iconst xj_249 6 3 3 rfl rfl rfl (zc_ic_ge xj_249 9 26 32 rfl rfl rfl (zc_aload_n xj_249 10 0 rfl rfl zf_ald_0 (zc_iload_n xj_249 11 1 rfl rfl zf_ild_1 (zc_iload_n xj_249 12 3 rfl rfl zf_ild_3 (zc_invokevirtual1 xj_249 15 209 248 2 315 9 3 rfl rfl rfl rfl (zc_aload_n xj_249 16 0 rfl rfl zf_ald_0 (zc_iload_n xj_249 17 1 rfl rfl zf_ild_1 (zc_iload_n xj_249 18 2 rfl rfl zf_ild_2 (zc_invokevirtual1 xj_249 21 209 248 2 315 9 3 rfl rfl rfl rfl (zc_ic_le xj_249 24 5 26 rfl rfl rfl (zc_iload_n xj_249 25 3 rfl rfl zf_ild_3 (zc_istore_n xj_249 26 2 rfl rfl zf_ist_2 (xc_249_2))))))))))))))
noncomputable def xb_249_0 : List zF := zq_k 0 :: zq_istg zE2 :: zq_k 1 :: zq_istg zE3 :: xb_249_1
noncomputable def xf_249_0 : zE → zKn := fun E => zq_k 0 (zq_istg zE2 (zq_k 1 (zq_istg zE3 (xf_249_1 E) E) E) E) E
theorem xe_249_0 : xf_249_0 = zEx xb_249_0 := by
  unfold xf_249_0 xb_249_0
  rw [xe_249_1]
  rfl
theorem xc_249_0 : zCd 249 [0, 4, 26, 32] 0 xb_249_0 := zc_iconst xj_249 1 0 0 rfl rfl rfl (zc_istore_n xj_249 2 2 rfl rfl zf_ist_2 (zc_iconst xj_249 3 1 1 rfl rfl rfl (zc_istore_n xj_249 4 3 rfl rfl zf_ist_3 (xc_249_1))))
noncomputable def xm_249 : Lean.RArray (zE → zKn) := .branch 26 (.branch 4 (.leaf xf_249_0) (.leaf xf_249_1)) (.branch 32 (.leaf xf_249_2) (.leaf xf_249_3))
theorem xa_249 : zCdAll 249 [0, 4, 26, 32] xm_249 := zAll2_ok (P := fun t => ∃ c, zCd 249 [0, 4, 26, 32] t c ∧ xm_249.get t = zEx c) ⟨⟨_, xc_249_0, xe_249_0⟩, ⟨_, xc_249_1, xe_249_1⟩, ⟨_, xc_249_2, xe_249_2⟩, ⟨_, xc_249_3, xe_249_3⟩, trivial⟩
/-- SquareMeshModel.areaOf -/
theorem xj_250 : ∀ pc, pI 250 pc = pJ_250 pc := fun _ => rfl
noncomputable def xb_250_0 : List zF := [zq_aldg zG0, zq_aldg zG0, zq_ildg zG1, zq_k 0, zq_calli 247 2 9 3, zq_aldg zG0, zq_ildg zG1, zq_k 1, zq_calli 247 2 9 3, zq_aldg zG0, zq_ildg zG1, zq_k 2, zq_calli 247 2 9 3, zq_calli 202 3 9 4, zq_iret 0]
noncomputable def xf_250_0 : zE → zKn := fun E => zq_aldg zG0 (zq_aldg zG0 (zq_ildg zG1 (zq_k 0 (zq_calli 247 2 9 3 (zq_aldg zG0 (zq_ildg zG1 (zq_k 1 (zq_calli 247 2 9 3 (zq_aldg zG0 (zq_ildg zG1 (zq_k 2 (zq_calli 247 2 9 3 (zq_calli 202 3 9 4 (zq_iret 0 (zNil) E) E) E) E) E) E) E) E) E) E) E) E) E) E) E
theorem xe_250_0 : xf_250_0 = zEx xb_250_0 := by
  unfold xf_250_0 xb_250_0
  rfl
theorem xc_250_0 : zCd 250 [0] 0 xb_250_0 := zc_aload_n xj_250 1 0 rfl rfl zf_ald_0 (zc_aload_n xj_250 2 0 rfl rfl zf_ald_0 (zc_iload_n xj_250 3 1 rfl rfl zf_ild_1 (zc_iconst xj_250 4 0 0 rfl rfl rfl (zc_invokevirtual1 xj_250 7 206 247 2 313 9 3 rfl rfl rfl rfl (zc_aload_n xj_250 8 0 rfl rfl zf_ald_0 (zc_iload_n xj_250 9 1 rfl rfl zf_ild_1 (zc_iconst xj_250 10 1 1 rfl rfl rfl (zc_invokevirtual1 xj_250 13 206 247 2 313 9 3 rfl rfl rfl rfl (zc_aload_n xj_250 14 0 rfl rfl zf_ald_0 (zc_iload_n xj_250 15 1 rfl rfl zf_ild_1 (zc_iconst xj_250 16 2 2 rfl rfl rfl (zc_invokevirtual1 xj_250 19 206 247 2 313 9 3 rfl rfl rfl rfl (zc_invokevirtual1 xj_250 22 90 202 3 266 9 4 rfl rfl rfl rfl (zc_ireturn0 xj_250 23 rfl rfl (trivial)))))))))))))))
noncomputable def xm_250 : Lean.RArray (zE → zKn) := .leaf xf_250_0
theorem xa_250 : zCdAll 250 [0] xm_250 := zAll2_ok (P := fun t => ∃ c, zCd 250 [0] t c ∧ xm_250.get t = zEx c) ⟨⟨_, xc_250_0, xe_250_0⟩, trivial⟩
/-- SquareMeshModel.thinnestNow -/
theorem xj_251 : ∀ pc, pI 251 pc = pJ_251 pc := fun _ => rfl
noncomputable def xb_251_3 : List zF := [zq_ildg zG1, zq_iret 0]
noncomputable def xf_251_3 : zE → zKn := fun E => zq_ildg zG1 (zq_iret 0 (zNil) E) E
theorem xe_251_3 : xf_251_3 = zEx xb_251_3 := by
  unfold xf_251_3 xb_251_3
  rfl
theorem xc_251_3 : zCd 251 [0, 4, 54, 60] 60 xb_251_3 := zc_iload_n xj_251 61 1 rfl rfl zf_ild_1 (zc_ireturn0 xj_251 62 rfl rfl (trivial))
noncomputable def xb_251_2 : List zF := [zq_incg zG2 zE2 1, zq_goto 4]
noncomputable def xf_251_2 : zE → zKn := fun E => zq_incg zG2 zE2 1 (zq_goto 4 (zNil) E) E
theorem xe_251_2 : xf_251_2 = zEx xb_251_2 := by
  unfold xf_251_2 xb_251_2
  rfl
theorem xc_251_2 : zCd 251 [0, 4, 54, 60] 54 xb_251_2 := zc_iinc xj_251 57 2 1 1 rfl rfl rfl (zf_inc_2 _) (zc_goto xj_251 58 (-53) 4 rfl rfl rfl (trivial))
noncomputable def xb_251_1 : List zF := zq_ildg zG2 :: zq_aldg zG0 :: zq_getfg 9 zG4 :: zq_ic_ge 60 :: zq_aldg zG0 :: zq_ildg zG2 :: zq_calli 250 1 9 2 :: zq_i2l :: zq_aldg zG0 :: zq_ildg zG1 :: zq_aldg zG0 :: zq_ildg zG1 :: zq_calli 249 1 9 4 :: zq_calli 248 2 9 3 :: zq_i2l :: zq_lmul :: zq_aldg zG0 :: zq_ildg zG1 :: zq_calli 250 1 9 2 :: zq_i2l :: zq_aldg zG0 :: zq_ildg zG2 :: zq_aldg zG0 :: zq_ildg zG2 :: zq_calli 249 1 9 4 :: zq_calli 248 2 9 3 :: zq_i2l :: zq_lmul :: zq_lcmp :: zq_if_ge 54 :: zq_ildg zG2 :: zq_istg zE1 :: xb_251_2
noncomputable def xf_251_1 : zE → zKn := fun E => zq_ildg zG2 (zq_aldg zG0 (zq_getfg 9 zG4 (zq_ic_ge 60 (zq_aldg zG0 (zq_ildg zG2 (zq_calli 250 1 9 2 (zq_i2l (zq_aldg zG0 (zq_ildg zG1 (zq_aldg zG0 (zq_ildg zG1 (zq_calli 249 1 9 4 (zq_calli 248 2 9 3 (zq_i2l (zq_lmul (zq_aldg zG0 (zq_ildg zG1 (zq_calli 250 1 9 2 (zq_i2l (zq_aldg zG0 (zq_ildg zG2 (zq_aldg zG0 (zq_ildg zG2 (zq_calli 249 1 9 4 (zq_calli 248 2 9 3 (zq_i2l (zq_lmul (zq_lcmp (zq_if_ge 54 (zq_ildg zG2 (zq_istg zE1 (xf_251_2 E) E) E) E) E) E) E) E) E) E) E) E) E) E) E) E) E) E) E) E) E) E) E) E) E) E) E) E) E) E) E) E) E
set_option maxRecDepth 100000 in
theorem xe_251_1 : xf_251_1 = zEx xb_251_1 := by
  unfold xf_251_1 xb_251_1
  rw [xe_251_2]
  rfl
theorem xc_251_1 : zCd 251 [0, 4, 54, 60] 4 xb_251_1 := zc_iload_n xj_251 5 2 rfl rfl zf_ild_2 (zc_aload_n xj_251 6 0 rfl rfl zf_ald_0 (zc_getf xj_251 9 134 9 4 98 rfl rfl (zf_getf_4 _) (zc_ic_ge xj_251 12 51 60 rfl rfl rfl (zc_aload_n xj_251 13 0 rfl rfl zf_ald_0 (zc_iload_n xj_251 14 2 rfl rfl zf_ild_2 (zc_invokevirtual1 xj_251 17 212 250 1 312 9 2 rfl rfl rfl rfl (zc_i2l xj_251 18 rfl rfl (zc_aload_n xj_251 19 0 rfl rfl zf_ald_0 (zc_iload_n xj_251 20 1 rfl rfl zf_ild_1 (zc_aload_n xj_251 21 0 rfl rfl zf_ald_0 (zc_iload_n xj_251 22 1 rfl rfl zf_ild_1 (zc_invokevirtual1 xj_251 25 215 249 1 314 9 4 rfl rfl rfl rfl (zc_invokevirtual1 xj_251 28 209 248 2 315 9 3 rfl rfl rfl rfl (zc_i2l xj_251 29 rfl rfl (zc_lmul xj_251 30 rfl rfl (zc_aload_n xj_251 31 0 rfl rfl zf_ald_0 (zc_iload_n xj_251 32 1 rfl rfl zf_ild_1 (zc_invokevirtual1 xj_251 35 212 250 1 312 9 2 rfl rfl rfl rfl (zc_i2l xj_251 36 rfl rfl (zc_aload_n xj_251 37 0 rfl rfl zf_ald_0 (zc_iload_n xj_251 38 2 rfl rfl zf_ild_2 (zc_aload_n xj_251 39 0 rfl rfl zf_ald_0 (zc_iload_n xj_251 40 2 rfl rfl zf_ild_2 (zc_invokevirtual1 xj_251 43 215 249 1 314 9 4 rfl rfl rfl rfl (zc_invokevirtual1 xj_251 46 209 248 2 315 9 3 rfl rfl rfl rfl (zc_i2l xj_251 47 rfl rfl (zc_lmul xj_251 48 rfl rfl (zc_lcmp xj_251 49 rfl rfl (zc_if_ge xj_251 52 5 54 rfl rfl rfl (zc_iload_n xj_251 53 2 rfl rfl zf_ild_2 (zc_istore_n xj_251 54 1 rfl rfl zf_ist_1 (xc_251_2))))))))))))))))))))))))))))))))
noncomputable def xb_251_0 : List zF := zq_k 0 :: zq_istg zE1 :: zq_k 1 :: zq_istg zE2 :: xb_251_1
noncomputable def xf_251_0 : zE → zKn := fun E => zq_k 0 (zq_istg zE1 (zq_k 1 (zq_istg zE2 (xf_251_1 E) E) E) E) E
theorem xe_251_0 : xf_251_0 = zEx xb_251_0 := by
  unfold xf_251_0 xb_251_0
  rw [xe_251_1]
  rfl
theorem xc_251_0 : zCd 251 [0, 4, 54, 60] 0 xb_251_0 := zc_iconst xj_251 1 0 0 rfl rfl rfl (zc_istore_n xj_251 2 1 rfl rfl zf_ist_1 (zc_iconst xj_251 3 1 1 rfl rfl rfl (zc_istore_n xj_251 4 2 rfl rfl zf_ist_2 (xc_251_1))))
noncomputable def xm_251 : Lean.RArray (zE → zKn) := .branch 54 (.branch 4 (.leaf xf_251_0) (.leaf xf_251_1)) (.branch 60 (.leaf xf_251_2) (.leaf xf_251_3))
theorem xa_251 : zCdAll 251 [0, 4, 54, 60] xm_251 := zAll2_ok (P := fun t => ∃ c, zCd 251 [0, 4, 54, 60] t c ∧ xm_251.get t = zEx c) ⟨⟨_, xc_251_0, xe_251_0⟩, ⟨_, xc_251_1, xe_251_1⟩, ⟨_, xc_251_2, xe_251_2⟩, ⟨_, xc_251_3, xe_251_3⟩, trivial⟩
/-- SquareMeshModel.refineOnce -/
theorem xj_252 : ∀ pc, pI 252 pc = pJ_252 pc := fun _ => rfl
noncomputable def xb_252_1 : List zF := [zq_aldg zG0, zq_calli 219 0 9 5, zq_k 1, zq_iret 1]
noncomputable def xf_252_1 : zE → zKn := fun E => zq_aldg zG0 (zq_calli 219 0 9 5 (zq_k 1 (zq_iret 1 (zNil) E) E) E) E
theorem xe_252_1 : xf_252_1 = zEx xb_252_1 := by
  unfold xf_252_1 xb_252_1
  rfl
theorem xc_252_1 : zCd 252 [0, 70] 70 xb_252_1 := zc_aload_n xj_252 71 0 rfl rfl zf_ald_0 (zc_invokevirtual1 xj_252 74 61 219 0 255 9 5 rfl rfl rfl rfl (zc_iconst xj_252 75 1 1 rfl rfl rfl (zc_ireturn1 xj_252 76 rfl rfl (trivial))))
noncomputable def xb_252_0 : List zF := [zq_aldg zG0, zq_calli 251 0 9 3, zq_istg zE1, zq_aldg zG0, zq_ildg zG1, zq_calli 249 1 9 4, zq_istg zE2, zq_aldg zG0, zq_ildg zG1, zq_ildg zG2, zq_calli 247 2 9 3, zq_istg zE3, zq_aldg zG0, zq_ildg zG1, zq_ildg zG2, zq_k 1, zq_add, zq_calli 247 2 9 3, zq_istg zE4, zq_aldg zG0, zq_aldg zG0, zq_ildg zG3, zN1 192 2 zg_192, zq_aldg zG0, zq_ildg zG4, zN1 192 2 zg_192, zq_add, zq_k 2, zq_calls 190 2 2, zq_aldg zG0, zq_ildg zG3, zN1 193 2 zg_193, zq_aldg zG0, zq_ildg zG4, zN1 193 2 zg_193, zq_add, zq_k 2, zq_calls 190 2 2, zq_calli 230 2 9 4, zq_k 4294967295, zq_ic_ne 70, zq_k 0, zq_iret 1]
noncomputable def xf_252_0 : zE → zKn := fun E => zq_aldg zG0 (zq_calli 251 0 9 3 (zq_istg zE1 (zq_aldg zG0 (zq_ildg zG1 (zq_calli 249 1 9 4 (zq_istg zE2 (zq_aldg zG0 (zq_ildg zG1 (zq_ildg zG2 (zq_calli 247 2 9 3 (zq_istg zE3 (zq_aldg zG0 (zq_ildg zG1 (zq_ildg zG2 (zq_k 1 (zq_add (zq_calli 247 2 9 3 (zq_istg zE4 (zq_aldg zG0 (zq_aldg zG0 (zq_ildg zG3 (zN1 192 2 zg_192 (zq_aldg zG0 (zq_ildg zG4 (zN1 192 2 zg_192 (zq_add (zq_k 2 (zq_calls 190 2 2 (zq_aldg zG0 (zq_ildg zG3 (zN1 193 2 zg_193 (zq_aldg zG0 (zq_ildg zG4 (zN1 193 2 zg_193 (zq_add (zq_k 2 (zq_calls 190 2 2 (zq_calli 230 2 9 4 (zq_k 4294967295 (zq_ic_ne 70 (zq_k 0 (zq_iret 1 (zNil) E) E) E) E) E) E) E) E) E) E) E) E) E) E) E) E) E) E) E) E) E) E) E) E) E) E) E) E) E) E) E) E) E) E) E) E) E) E) E) E) E) E) E
set_option maxRecDepth 100000 in
theorem xe_252_0 : xf_252_0 = zEx xb_252_0 := by
  unfold xf_252_0 xb_252_0
  rfl
theorem xc_252_0 : zCd 252 [0, 70] 0 xb_252_0 := zc_aload_n xj_252 1 0 rfl rfl zf_ald_0 (zc_invokevirtual1 xj_252 4 218 251 0 311 9 3 rfl rfl rfl rfl (zc_istore_n xj_252 5 1 rfl rfl zf_ist_1 (zc_aload_n xj_252 6 0 rfl rfl zf_ald_0 (zc_iload_n xj_252 7 1 rfl rfl zf_ild_1 (zc_invokevirtual1 xj_252 10 215 249 1 314 9 4 rfl rfl rfl rfl (zc_istore_n xj_252 11 2 rfl rfl zf_ist_2 (zc_aload_n xj_252 12 0 rfl rfl zf_ald_0 (zc_iload_n xj_252 13 1 rfl rfl zf_ild_1 (zc_iload_n xj_252 14 2 rfl rfl zf_ild_2 (zc_invokevirtual1 xj_252 17 206 247 2 313 9 3 rfl rfl rfl rfl (zc_istore_n xj_252 18 3 rfl rfl zf_ist_3 (zc_aload_n xj_252 19 0 rfl rfl zf_ald_0 (zc_iload_n xj_252 20 1 rfl rfl zf_ild_1 (zc_iload_n xj_252 21 2 rfl rfl zf_ild_2 (zc_iconst xj_252 22 1 1 rfl rfl rfl (zc_iadd xj_252 23 rfl rfl (zc_invokevirtual1 xj_252 26 206 247 2 313 9 3 rfl rfl rfl rfl (zc_istore xj_252 28 4 rfl rfl zf_ist_4 (zc_aload_n xj_252 29 0 rfl rfl zf_ald_0 (zc_aload_n xj_252 30 0 rfl rfl zf_ald_0 (zc_iload_n xj_252 31 3 rfl rfl zf_ild_3 (zc_any xj_252 34 (.invokevirtual 75) [1, 192, 1, 260, 9, 2] rfl rfl (zN1 192 2 zg_192) rfl rfl (zc_aload_n xj_252 35 0 rfl rfl zf_ald_0 (zc_iload xj_252 37 4 rfl rfl zf_ild_4 (zc_any xj_252 40 (.invokevirtual 75) [1, 192, 1, 260, 9, 2] rfl rfl (zN1 192 2 zg_192) rfl rfl (zc_iadd xj_252 41 rfl rfl (zc_iconst xj_252 42 2 2 rfl rfl rfl (zc_invokestatic2 xj_252 45 221 190 2 316 0 2 rfl rfl rfl rfl (zc_aload_n xj_252 46 0 rfl rfl zf_ald_0 (zc_iload_n xj_252 47 3 rfl rfl zf_ild_3 (zc_any xj_252 50 (.invokevirtual 79) [1, 193, 1, 261, 9, 2] rfl rfl (zN1 193 2 zg_193) rfl rfl (zc_aload_n xj_252 51 0 rfl rfl zf_ald_0 (zc_iload xj_252 53 4 rfl rfl zf_ild_4 (zc_any xj_252 56 (.invokevirtual 79) [1, 193, 1, 261, 9, 2] rfl rfl (zN1 193 2 zg_193) rfl rfl (zc_iadd xj_252 57 rfl rfl (zc_iconst xj_252 58 2 2 rfl rfl rfl (zc_invokestatic2 xj_252 61 221 190 2 316 0 2 rfl rfl rfl rfl (zc_invokevirtual1 xj_252 64 178 230 2 293 9 4 rfl rfl rfl rfl (zc_iconst xj_252 65 (-1) 4294967295 rfl rfl rfl (zc_ic_ne xj_252 68 5 70 rfl rfl rfl (zc_iconst xj_252 69 0 0 rfl rfl rfl (zc_ireturn1 xj_252 70 rfl rfl (trivial)))))))))))))))))))))))))))))))))))))))))))
noncomputable def xm_252 : Lean.RArray (zE → zKn) := .branch 70 (.leaf xf_252_0) (.leaf xf_252_1)
theorem xa_252 : zCdAll 252 [0, 70] xm_252 := zAll2_ok (P := fun t => ∃ c, zCd 252 [0, 70] t c ∧ xm_252.get t = zEx c) ⟨⟨_, xc_252_0, xe_252_0⟩, ⟨_, xc_252_1, xe_252_1⟩, trivial⟩
/-- SquareMeshModel.refine -/
theorem xj_253 : ∀ pc, pI 253 pc = pJ_253 pc := fun _ => rfl
noncomputable def xb_253_3 : List zF := [zq_ildg zG2, zq_iret 0]
noncomputable def xf_253_3 : zE → zKn := fun E => zq_ildg zG2 (zq_iret 0 (zNil) E) E
theorem xe_253_3 : xf_253_3 = zEx xb_253_3 := by
  unfold xf_253_3 xb_253_3
  rfl
theorem xc_253_3 : zCd 253 [0, 12, 18, 36] 36 xb_253_3 := zc_iload_n xj_253 37 2 rfl rfl zf_ild_2 (zc_ireturn0 xj_253 38 rfl rfl (trivial))
noncomputable def xb_253_2 : List zF := [zq_ildg zG2, zq_ildg zG1, zq_ic_ge 36, zq_aldg zG0, zq_calli 252 0 9 5, zq_if_eq 36, zq_incg zG2 zE2 1, zq_goto 18]
noncomputable def xf_253_2 : zE → zKn := fun E => zq_ildg zG2 (zq_ildg zG1 (zq_ic_ge 36 (zq_aldg zG0 (zq_calli 252 0 9 5 (zq_if_eq 36 (zq_incg zG2 zE2 1 (zq_goto 18 (zNil) E) E) E) E) E) E) E) E
theorem xe_253_2 : xf_253_2 = zEx xb_253_2 := by
  unfold xf_253_2 xb_253_2
  rfl
theorem xc_253_2 : zCd 253 [0, 12, 18, 36] 18 xb_253_2 := zc_iload_n xj_253 19 2 rfl rfl zf_ild_2 (zc_iload_n xj_253 20 1 rfl rfl zf_ild_1 (zc_ic_ge xj_253 23 16 36 rfl rfl rfl (zc_aload_n xj_253 24 0 rfl rfl zf_ald_0 (zc_invokevirtual1 xj_253 27 224 252 0 310 9 5 rfl rfl rfl rfl (zc_if_eq xj_253 30 9 36 rfl rfl rfl (zc_iinc xj_253 33 2 1 1 rfl rfl rfl (zf_inc_2 _) (zc_goto xj_253 34 (-15) 18 rfl rfl rfl (trivial))))))))
noncomputable def xb_253_1 : List zF := zq_aldg zG0 :: zq_calli 225 0 9 3 :: zq_k 0 :: zq_istg zE2 :: xb_253_2
noncomputable def xf_253_1 : zE → zKn := fun E => zq_aldg zG0 (zq_calli 225 0 9 3 (zq_k 0 (zq_istg zE2 (xf_253_2 E) E) E) E) E
theorem xe_253_1 : xf_253_1 = zEx xb_253_1 := by
  unfold xf_253_1 xb_253_1
  rw [xe_253_2]
  rfl
theorem xc_253_1 : zCd 253 [0, 12, 18, 36] 12 xb_253_1 := zc_aload_n xj_253 13 0 rfl rfl zf_ald_0 (zc_invokevirtual1 xj_253 16 162 225 0 285 9 3 rfl rfl rfl rfl (zc_iconst xj_253 17 0 0 rfl rfl rfl (zc_istore_n xj_253 18 2 rfl rfl zf_ist_2 (xc_253_2))))
noncomputable def xb_253_0 : List zF := [zq_ildg zG1, zq_k 1, zq_k 10, zq_calls 188 3 3, zq_if_ne 12, zq_k 4294967295, zq_iret 0]
noncomputable def xf_253_0 : zE → zKn := fun E => zq_ildg zG1 (zq_k 1 (zq_k 10 (zq_calls 188 3 3 (zq_if_ne 12 (zq_k 4294967295 (zq_iret 0 (zNil) E) E) E) E) E) E) E
theorem xe_253_0 : xf_253_0 = zEx xb_253_0 := by
  unfold xf_253_0 xb_253_0
  rfl
theorem xc_253_0 : zCd 253 [0, 12, 18, 36] 0 xb_253_0 := zc_iload_n xj_253 1 1 rfl rfl zf_ild_1 (zc_iconst xj_253 2 1 1 rfl rfl rfl (zc_bipush xj_253 4 10 10 rfl rfl rfl (zc_invokestatic2 xj_253 7 67 188 3 265 0 3 rfl rfl rfl rfl (zc_if_ne xj_253 10 5 12 rfl rfl rfl (zc_iconst xj_253 11 (-1) 4294967295 rfl rfl rfl (zc_ireturn0 xj_253 12 rfl rfl (trivial)))))))
noncomputable def xm_253 : Lean.RArray (zE → zKn) := .branch 18 (.branch 12 (.leaf xf_253_0) (.leaf xf_253_1)) (.branch 36 (.leaf xf_253_2) (.leaf xf_253_3))
theorem xa_253 : zCdAll 253 [0, 12, 18, 36] xm_253 := zAll2_ok (P := fun t => ∃ c, zCd 253 [0, 12, 18, 36] t c ∧ xm_253.get t = zEx c) ⟨⟨_, xc_253_0, xe_253_0⟩, ⟨_, xc_253_1, xe_253_1⟩, ⟨_, xc_253_2, xe_253_2⟩, ⟨_, xc_253_3, xe_253_3⟩, trivial⟩
/-- SquareMeshModel.smoothOne -/
theorem xj_254 : ∀ pc, pI 254 pc = pJ_254 pc := fun _ => rfl
noncomputable def xb_254_3 : List zF := [zq_aldg zG0, zq_ildg zG1, zq_ildg zG2, zq_ildg zG4, zq_calls 190 2 2, zq_ildg zG3, zq_ildg zG4, zq_calls 190 2 2, zq_calli 237 3 9 4, zq_k 1, zq_iret 1]
noncomputable def xf_254_3 : zE → zKn := fun E => zq_aldg zG0 (zq_ildg zG1 (zq_ildg zG2 (zq_ildg zG4 (zq_calls 190 2 2 (zq_ildg zG3 (zq_ildg zG4 (zq_calls 190 2 2 (zq_calli 237 3 9 4 (zq_k 1 (zq_iret 1 (zNil) E) E) E) E) E) E) E) E) E) E) E
theorem xe_254_3 : xf_254_3 = zEx xb_254_3 := by
  unfold xf_254_3 xb_254_3
  rfl
theorem xc_254_3 : zCd 254 [0, 14, 55, 77] 77 xb_254_3 := zc_aload_n xj_254 78 0 rfl rfl zf_ald_0 (zc_iload_n xj_254 79 1 rfl rfl zf_ild_1 (zc_iload_n xj_254 80 2 rfl rfl zf_ild_2 (zc_iload xj_254 82 4 rfl rfl zf_ild_4 (zc_invokestatic2 xj_254 85 221 190 2 316 0 2 rfl rfl rfl rfl (zc_iload_n xj_254 86 3 rfl rfl zf_ild_3 (zc_iload xj_254 88 4 rfl rfl zf_ild_4 (zc_invokestatic2 xj_254 91 221 190 2 316 0 2 rfl rfl rfl rfl (zc_invokevirtual1 xj_254 94 191 237 3 300 9 4 rfl rfl rfl rfl (zc_iconst xj_254 95 1 1 rfl rfl rfl (zc_ireturn1 xj_254 96 rfl rfl (trivial)))))))))))
noncomputable def xb_254_2 : List zF := [zq_aldg zG0, zq_ildg zG2, zq_ildg zG4, zq_calls 190 2 2, zq_ildg zG3, zq_ildg zG4, zq_calls 190 2 2, zq_calli 198 2 9 4, zq_k 4294967295, zq_ic_eq 77, zq_k 0, zq_iret 1]
noncomputable def xf_254_2 : zE → zKn := fun E => zq_aldg zG0 (zq_ildg zG2 (zq_ildg zG4 (zq_calls 190 2 2 (zq_ildg zG3 (zq_ildg zG4 (zq_calls 190 2 2 (zq_calli 198 2 9 4 (zq_k 4294967295 (zq_ic_eq 77 (zq_k 0 (zq_iret 1 (zNil) E) E) E) E) E) E) E) E) E) E) E) E
theorem xe_254_2 : xf_254_2 = zEx xb_254_2 := by
  unfold xf_254_2 xb_254_2
  rfl
theorem xc_254_2 : zCd 254 [0, 14, 55, 77] 55 xb_254_2 := zc_aload_n xj_254 56 0 rfl rfl zf_ald_0 (zc_iload_n xj_254 57 2 rfl rfl zf_ild_2 (zc_iload xj_254 59 4 rfl rfl zf_ild_4 (zc_invokestatic2 xj_254 62 221 190 2 316 0 2 rfl rfl rfl rfl (zc_iload_n xj_254 63 3 rfl rfl zf_ild_3 (zc_iload xj_254 65 4 rfl rfl zf_ild_4 (zc_invokestatic2 xj_254 68 221 190 2 316 0 2 rfl rfl rfl rfl (zc_invokevirtual1 xj_254 71 169 198 2 291 9 4 rfl rfl rfl rfl (zc_iconst xj_254 72 (-1) 4294967295 rfl rfl rfl (zc_ic_eq xj_254 75 5 77 rfl rfl rfl (zc_iconst xj_254 76 0 0 rfl rfl rfl (zc_ireturn1 xj_254 77 rfl rfl (trivial))))))))))))
noncomputable def xb_254_1 : List zF := [zq_ildg zG5, zq_ildg zG4, zq_ic_ge 55, zq_ildg zG2, zq_aldg zG0, zq_aldg zG0, zq_getfg 9 zG7, zq_ildg zG5, zq_ild_ 0, zN1 192 2 zg_192, zq_add, zq_istg zE2, zq_ildg zG3, zq_aldg zG0, zq_aldg zG0, zq_getfg 9 zG7, zq_ildg zG5, zq_ild_ 0, zN1 193 2 zg_193, zq_add, zq_istg zE3, zq_incg zG5 zE5 1, zq_goto 14]
noncomputable def xf_254_1 : zE → zKn := fun E => zq_ildg zG5 (zq_ildg zG4 (zq_ic_ge 55 (zq_ildg zG2 (zq_aldg zG0 (zq_aldg zG0 (zq_getfg 9 zG7 (zq_ildg zG5 (zq_ild_ 0 (zN1 192 2 zg_192 (zq_add (zq_istg zE2 (zq_ildg zG3 (zq_aldg zG0 (zq_aldg zG0 (zq_getfg 9 zG7 (zq_ildg zG5 (zq_ild_ 0 (zN1 193 2 zg_193 (zq_add (zq_istg zE3 (zq_incg zG5 zE5 1 (zq_goto 14 (zNil) E) E) E) E) E) E) E) E) E) E) E) E) E) E) E) E) E) E) E) E) E) E) E
theorem xe_254_1 : xf_254_1 = zEx xb_254_1 := by
  unfold xf_254_1 xb_254_1
  rfl
theorem xc_254_1 : zCd 254 [0, 14, 55, 77] 14 xb_254_1 := zc_iload xj_254 16 5 rfl rfl zf_ild_5 (zc_iload xj_254 18 4 rfl rfl zf_ild_4 (zc_ic_ge xj_254 21 37 55 rfl rfl rfl (zc_iload_n xj_254 22 2 rfl rfl zf_ild_2 (zc_aload_n xj_254 23 0 rfl rfl zf_ald_0 (zc_aload_n xj_254 24 0 rfl rfl zf_ald_0 (zc_getf xj_254 27 30 9 7 101 rfl rfl (zf_getf_7 _) (zc_iload xj_254 29 5 rfl rfl zf_ild_5 (zc_iaload xj_254 30 rfl rfl (zc_any xj_254 33 (.invokevirtual 75) [1, 192, 1, 260, 9, 2] rfl rfl (zN1 192 2 zg_192) rfl rfl (zc_iadd xj_254 34 rfl rfl (zc_istore_n xj_254 35 2 rfl rfl zf_ist_2 (zc_iload_n xj_254 36 3 rfl rfl zf_ild_3 (zc_aload_n xj_254 37 0 rfl rfl zf_ald_0 (zc_aload_n xj_254 38 0 rfl rfl zf_ald_0 (zc_getf xj_254 41 30 9 7 101 rfl rfl (zf_getf_7 _) (zc_iload xj_254 43 5 rfl rfl zf_ild_5 (zc_iaload xj_254 44 rfl rfl (zc_any xj_254 47 (.invokevirtual 79) [1, 193, 1, 261, 9, 2] rfl rfl (zN1 193 2 zg_193) rfl rfl (zc_iadd xj_254 48 rfl rfl (zc_istore_n xj_254 49 3 rfl rfl zf_ist_3 (zc_iinc xj_254 52 5 1 1 rfl rfl rfl (zf_inc_5 _) (zc_goto xj_254 53 (-38) 14 rfl rfl rfl (trivial)))))))))))))))))))))))
noncomputable def xb_254_0 : List zF := zq_k 0 :: zq_istg zE2 :: zq_k 0 :: zq_istg zE3 :: zq_aldg zG0 :: zq_ildg zG1 :: zq_calli 281 1 9 5 :: zq_istg zE4 :: zq_k 0 :: zq_istg zE5 :: xb_254_1
noncomputable def xf_254_0 : zE → zKn := fun E => zq_k 0 (zq_istg zE2 (zq_k 0 (zq_istg zE3 (zq_aldg zG0 (zq_ildg zG1 (zq_calli 281 1 9 5 (zq_istg zE4 (zq_k 0 (zq_istg zE5 (xf_254_1 E) E) E) E) E) E) E) E) E) E) E
theorem xe_254_0 : xf_254_0 = zEx xb_254_0 := by
  unfold xf_254_0 xb_254_0
  rw [xe_254_1]
  rfl
theorem xc_254_0 : zCd 254 [0, 14, 55, 77] 0 xb_254_0 := zc_iconst xj_254 1 0 0 rfl rfl rfl (zc_istore_n xj_254 2 2 rfl rfl zf_ist_2 (zc_iconst xj_254 3 0 0 rfl rfl rfl (zc_istore_n xj_254 4 3 rfl rfl zf_ist_3 (zc_aload_n xj_254 5 0 rfl rfl zf_ald_0 (zc_iload_n xj_254 6 1 rfl rfl zf_ild_1 (zc_invokevirtual1 xj_254 9 228 281 1 319 9 5 rfl rfl rfl rfl (zc_istore xj_254 11 4 rfl rfl zf_ist_4 (zc_iconst xj_254 12 0 0 rfl rfl rfl (zc_istore xj_254 14 5 rfl rfl zf_ist_5 (xc_254_1))))))))))
noncomputable def xm_254 : Lean.RArray (zE → zKn) := .branch 55 (.branch 14 (.leaf xf_254_0) (.leaf xf_254_1)) (.branch 77 (.leaf xf_254_2) (.leaf xf_254_3))
theorem xa_254 : zCdAll 254 [0, 14, 55, 77] xm_254 := zAll2_ok (P := fun t => ∃ c, zCd 254 [0, 14, 55, 77] t c ∧ xm_254.get t = zEx c) ⟨⟨_, xc_254_0, xe_254_0⟩, ⟨_, xc_254_1, xe_254_1⟩, ⟨_, xc_254_2, xe_254_2⟩, ⟨_, xc_254_3, xe_254_3⟩, trivial⟩
/-- SquareMeshModel.smooth -/
theorem xj_255 : ∀ pc, pI 255 pc = pJ_255 pc := fun _ => rfl
noncomputable def xb_255_4 : List zF := [zq_ildg zG1, zq_iret 0]
noncomputable def xf_255_4 : zE → zKn := fun E => zq_ildg zG1 (zq_iret 0 (zNil) E) E
theorem xe_255_4 : xf_255_4 = zEx xb_255_4 := by
  unfold xf_255_4 xb_255_4
  rfl
theorem xc_255_4 : zCd 255 [0, 8, 35, 36, 44] 44 xb_255_4 := zc_iload_n xj_255 45 1 rfl rfl zf_ild_1 (zc_ireturn0 xj_255 46 rfl rfl (trivial))
noncomputable def xb_255_3 : List zF := [zq_add, zq_istg zE1, zq_incg zG2 zE2 1, zq_goto 8]
noncomputable def xf_255_3 : zE → zKn := fun E => zq_add (zq_istg zE1 (zq_incg zG2 zE2 1 (zq_goto 8 (zNil) E) E) E) E
theorem xe_255_3 : xf_255_3 = zEx xb_255_3 := by
  unfold xf_255_3 xb_255_3
  rfl
theorem xc_255_3 : zCd 255 [0, 8, 35, 36, 44] 36 xb_255_3 := zc_iadd xj_255 37 rfl rfl (zc_istore_n xj_255 38 1 rfl rfl zf_ist_1 (zc_iinc xj_255 41 2 1 1 rfl rfl rfl (zf_inc_2 _) (zc_goto xj_255 42 (-33) 8 rfl rfl rfl (trivial))))
noncomputable def xb_255_2 : List zF := zq_k 0 :: xb_255_3
noncomputable def xf_255_2 : zE → zKn := fun E => zq_k 0 (xf_255_3 E) E
theorem xe_255_2 : xf_255_2 = zEx xb_255_2 := by
  unfold xf_255_2 xb_255_2
  rw [xe_255_3]
  rfl
theorem xc_255_2 : zCd 255 [0, 8, 35, 36, 44] 35 xb_255_2 := zc_iconst xj_255 36 0 0 rfl rfl rfl (xc_255_3)
noncomputable def xb_255_1 : List zF := [zq_ildg zG2, zq_k 40, zq_ic_ge 44, zq_ildg zG1, zq_aldg zG0, zq_ildg zG2, zq_calli 234 1 9 2, zq_if_eq 35, zq_aldg zG0, zq_ildg zG2, zq_calli 254 1 9 6, zq_if_eq 35, zq_k 1, zq_goto 36]
noncomputable def xf_255_1 : zE → zKn := fun E => zq_ildg zG2 (zq_k 40 (zq_ic_ge 44 (zq_ildg zG1 (zq_aldg zG0 (zq_ildg zG2 (zq_calli 234 1 9 2 (zq_if_eq 35 (zq_aldg zG0 (zq_ildg zG2 (zq_calli 254 1 9 6 (zq_if_eq 35 (zq_k 1 (zq_goto 36 (zNil) E) E) E) E) E) E) E) E) E) E) E) E) E) E
theorem xe_255_1 : xf_255_1 = zEx xb_255_1 := by
  unfold xf_255_1 xb_255_1
  rfl
theorem xc_255_1 : zCd 255 [0, 8, 35, 36, 44] 8 xb_255_1 := zc_iload_n xj_255 9 2 rfl rfl zf_ild_2 (zc_bipush xj_255 11 40 40 rfl rfl rfl (zc_ic_ge xj_255 14 33 44 rfl rfl rfl (zc_iload_n xj_255 15 1 rfl rfl zf_ild_1 (zc_aload_n xj_255 16 0 rfl rfl zf_ald_0 (zc_iload_n xj_255 17 2 rfl rfl zf_ild_2 (zc_invokevirtual1 xj_255 20 184 234 1 296 9 2 rfl rfl rfl rfl (zc_if_eq xj_255 23 15 35 rfl rfl rfl (zc_aload_n xj_255 24 0 rfl rfl zf_ald_0 (zc_iload_n xj_255 25 2 rfl rfl zf_ild_2 (zc_invokevirtual1 xj_255 28 231 254 1 318 9 6 rfl rfl rfl rfl (zc_if_eq xj_255 31 7 35 rfl rfl rfl (zc_iconst xj_255 32 1 1 rfl rfl rfl (zc_goto xj_255 33 4 36 rfl rfl rfl (trivial))))))))))))))
noncomputable def xb_255_0 : List zF := zq_aldg zG0 :: zq_calli 225 0 9 3 :: zq_k 0 :: zq_istg zE1 :: zq_k 0 :: zq_istg zE2 :: xb_255_1
noncomputable def xf_255_0 : zE → zKn := fun E => zq_aldg zG0 (zq_calli 225 0 9 3 (zq_k 0 (zq_istg zE1 (zq_k 0 (zq_istg zE2 (xf_255_1 E) E) E) E) E) E) E
theorem xe_255_0 : xf_255_0 = zEx xb_255_0 := by
  unfold xf_255_0 xb_255_0
  rw [xe_255_1]
  rfl
theorem xc_255_0 : zCd 255 [0, 8, 35, 36, 44] 0 xb_255_0 := zc_aload_n xj_255 1 0 rfl rfl zf_ald_0 (zc_invokevirtual1 xj_255 4 162 225 0 285 9 3 rfl rfl rfl rfl (zc_iconst xj_255 5 0 0 rfl rfl rfl (zc_istore_n xj_255 6 1 rfl rfl zf_ist_1 (zc_iconst xj_255 7 0 0 rfl rfl rfl (zc_istore_n xj_255 8 2 rfl rfl zf_ist_2 (xc_255_1))))))
noncomputable def xm_255 : Lean.RArray (zE → zKn) := .branch 35 (.branch 8 (.leaf xf_255_0) (.leaf xf_255_1)) (.branch 36 (.leaf xf_255_2) (.branch 44 (.leaf xf_255_3) (.leaf xf_255_4)))
theorem xa_255 : zCdAll 255 [0, 8, 35, 36, 44] xm_255 := zAll2_ok (P := fun t => ∃ c, zCd 255 [0, 8, 35, 36, 44] t c ∧ xm_255.get t = zEx c) ⟨⟨_, xc_255_0, xe_255_0⟩, ⟨_, xc_255_1, xe_255_1⟩, ⟨_, xc_255_2, xe_255_2⟩, ⟨_, xc_255_3, xe_255_3⟩, ⟨_, xc_255_4, xe_255_4⟩, trivial⟩
/-- SquareMeshModel.tell -/
theorem xj_256 : ∀ pc, pI 256 pc = pJ_256 pc := fun _ => rfl
noncomputable def xb_256_1 : List zF := [zq_aldg zG0, zq_getfg 9 zG0, zq_k 2, zq_ildg zG1, zq_iast, zq_k 1, zq_iret 1]
noncomputable def xf_256_1 : zE → zKn := fun E => zq_aldg zG0 (zq_getfg 9 zG0 (zq_k 2 (zq_ildg zG1 (zq_iast (zq_k 1 (zq_iret 1 (zNil) E) E) E) E) E) E) E
theorem xe_256_1 : xf_256_1 = zEx xb_256_1 := by
  unfold xf_256_1 xb_256_1
  rfl
theorem xc_256_1 : zCd 256 [0, 13] 13 xb_256_1 := zc_aload_n xj_256 14 0 rfl rfl zf_ald_0 (zc_getf xj_256 17 8 9 0 94 rfl rfl (zf_getf_0 _) (zc_iconst xj_256 18 2 2 rfl rfl rfl (zc_iload_n xj_256 19 1 rfl rfl zf_ild_1 (zc_iastore xj_256 20 rfl rfl (zc_iconst xj_256 21 1 1 rfl rfl rfl (zc_ireturn1 xj_256 22 rfl rfl (trivial)))))))
noncomputable def xb_256_0 : List zF := [zq_ildg zG1, zq_k 0, zq_k 30046, zq_calls 188 3 3, zq_if_ne 13, zq_k 0, zq_iret 1]
noncomputable def xf_256_0 : zE → zKn := fun E => zq_ildg zG1 (zq_k 0 (zq_k 30046 (zq_calls 188 3 3 (zq_if_ne 13 (zq_k 0 (zq_iret 1 (zNil) E) E) E) E) E) E) E
theorem xe_256_0 : xf_256_0 = zEx xb_256_0 := by
  unfold xf_256_0 xb_256_0
  rfl
theorem xc_256_0 : zCd 256 [0, 13] 0 xb_256_0 := zc_iload_n xj_256 1 1 rfl rfl zf_ild_1 (zc_iconst xj_256 2 0 0 rfl rfl rfl (zc_sipush xj_256 5 30046 30046 rfl rfl rfl (zc_invokestatic2 xj_256 8 67 188 3 265 0 3 rfl rfl rfl rfl (zc_if_ne xj_256 11 5 13 rfl rfl rfl (zc_iconst xj_256 12 0 0 rfl rfl rfl (zc_ireturn1 xj_256 13 rfl rfl (trivial)))))))
noncomputable def xm_256 : Lean.RArray (zE → zKn) := .branch 13 (.leaf xf_256_0) (.leaf xf_256_1)
theorem xa_256 : zCdAll 256 [0, 13] xm_256 := zAll2_ok (P := fun t => ∃ c, zCd 256 [0, 13] t c ∧ xm_256.get t = zEx c) ⟨⟨_, xc_256_0, xe_256_0⟩, ⟨_, xc_256_1, xe_256_1⟩, trivial⟩
/-- SquareMeshModel.points -/
theorem xj_257 : ∀ pc, pI 257 pc = pJ_257 pc := fun _ => rfl
noncomputable def xb_257_4 : List zF := [zq_ildg zG1, zq_iret 0]
noncomputable def xf_257_4 : zE → zKn := fun E => zq_ildg zG1 (zq_iret 0 (zNil) E) E
theorem xe_257_4 : xf_257_4 = zEx xb_257_4 := by
  unfold xf_257_4 xb_257_4
  rfl
theorem xc_257_4 : zCd 257 [0, 4, 23, 24, 32] 32 xb_257_4 := zc_iload_n xj_257 33 1 rfl rfl zf_ild_1 (zc_ireturn0 xj_257 34 rfl rfl (trivial))
noncomputable def xb_257_3 : List zF := [zq_add, zq_istg zE1, zq_incg zG2 zE2 1, zq_goto 4]
noncomputable def xf_257_3 : zE → zKn := fun E => zq_add (zq_istg zE1 (zq_incg zG2 zE2 1 (zq_goto 4 (zNil) E) E) E) E
theorem xe_257_3 : xf_257_3 = zEx xb_257_3 := by
  unfold xf_257_3 xb_257_3
  rfl
theorem xc_257_3 : zCd 257 [0, 4, 23, 24, 32] 24 xb_257_3 := zc_iadd xj_257 25 rfl rfl (zc_istore_n xj_257 26 1 rfl rfl zf_ist_1 (zc_iinc xj_257 29 2 1 1 rfl rfl rfl (zf_inc_2 _) (zc_goto xj_257 30 (-25) 4 rfl rfl rfl (trivial))))
noncomputable def xb_257_2 : List zF := zq_k 0 :: xb_257_3
noncomputable def xf_257_2 : zE → zKn := fun E => zq_k 0 (xf_257_3 E) E
theorem xe_257_2 : xf_257_2 = zEx xb_257_2 := by
  unfold xf_257_2 xb_257_2
  rw [xe_257_3]
  rfl
theorem xc_257_2 : zCd 257 [0, 4, 23, 24, 32] 23 xb_257_2 := zc_iconst xj_257 24 0 0 rfl rfl rfl (xc_257_3)
noncomputable def xb_257_1 : List zF := [zq_ildg zG2, zq_k 40, zq_ic_ge 32, zq_ildg zG1, zq_aldg zG0, zq_ildg zG2, zN1 191 2 zg_191, zq_if_eq 23, zq_k 1, zq_goto 24]
noncomputable def xf_257_1 : zE → zKn := fun E => zq_ildg zG2 (zq_k 40 (zq_ic_ge 32 (zq_ildg zG1 (zq_aldg zG0 (zq_ildg zG2 (zN1 191 2 zg_191 (zq_if_eq 23 (zq_k 1 (zq_goto 24 (zNil) E) E) E) E) E) E) E) E) E) E
theorem xe_257_1 : xf_257_1 = zEx xb_257_1 := by
  unfold xf_257_1 xb_257_1
  rfl
theorem xc_257_1 : zCd 257 [0, 4, 23, 24, 32] 4 xb_257_1 := zc_iload_n xj_257 5 2 rfl rfl zf_ild_2 (zc_bipush xj_257 7 40 40 rfl rfl rfl (zc_ic_ge xj_257 10 25 32 rfl rfl rfl (zc_iload_n xj_257 11 1 rfl rfl zf_ild_1 (zc_aload_n xj_257 12 0 rfl rfl zf_ald_0 (zc_iload_n xj_257 13 2 rfl rfl zf_ild_2 (zc_any xj_257 16 (.invokevirtual 71) [1, 191, 1, 264, 9, 2] rfl rfl (zN1 191 2 zg_191) rfl rfl (zc_if_eq xj_257 19 7 23 rfl rfl rfl (zc_iconst xj_257 20 1 1 rfl rfl rfl (zc_goto xj_257 21 4 24 rfl rfl rfl (trivial))))))))))
noncomputable def xb_257_0 : List zF := zq_k 0 :: zq_istg zE1 :: zq_k 0 :: zq_istg zE2 :: xb_257_1
noncomputable def xf_257_0 : zE → zKn := fun E => zq_k 0 (zq_istg zE1 (zq_k 0 (zq_istg zE2 (xf_257_1 E) E) E) E) E
theorem xe_257_0 : xf_257_0 = zEx xb_257_0 := by
  unfold xf_257_0 xb_257_0
  rw [xe_257_1]
  rfl
theorem xc_257_0 : zCd 257 [0, 4, 23, 24, 32] 0 xb_257_0 := zc_iconst xj_257 1 0 0 rfl rfl rfl (zc_istore_n xj_257 2 1 rfl rfl zf_ist_1 (zc_iconst xj_257 3 0 0 rfl rfl rfl (zc_istore_n xj_257 4 2 rfl rfl zf_ist_2 (xc_257_1))))
noncomputable def xm_257 : Lean.RArray (zE → zKn) := .branch 23 (.branch 4 (.leaf xf_257_0) (.leaf xf_257_1)) (.branch 24 (.leaf xf_257_2) (.branch 32 (.leaf xf_257_3) (.leaf xf_257_4)))
theorem xa_257 : zCdAll 257 [0, 4, 23, 24, 32] xm_257 := zAll2_ok (P := fun t => ∃ c, zCd 257 [0, 4, 23, 24, 32] t c ∧ xm_257.get t = zEx c) ⟨⟨_, xc_257_0, xe_257_0⟩, ⟨_, xc_257_1, xe_257_1⟩, ⟨_, xc_257_2, xe_257_2⟩, ⟨_, xc_257_3, xe_257_3⟩, ⟨_, xc_257_4, xe_257_4⟩, trivial⟩
/-- SquareMeshModel.edges -/
theorem xj_258 : ∀ pc, pI 258 pc = pJ_258 pc := fun _ => rfl
noncomputable def xb_258_6 : List zF := [zq_ildg zG1, zq_iret 0]
noncomputable def xf_258_6 : zE → zKn := fun E => zq_ildg zG1 (zq_iret 0 (zNil) E) E
theorem xe_258_6 : xf_258_6 = zEx xb_258_6 := by
  unfold xf_258_6 xb_258_6
  rfl
theorem xc_258_6 : zCd 258 [0, 4, 12, 31, 32, 40, 46] 46 xb_258_6 := zc_iload_n xj_258 47 1 rfl rfl zf_ild_1 (zc_ireturn0 xj_258 48 rfl rfl (trivial))
noncomputable def xb_258_5 : List zF := [zq_incg zG2 zE2 1, zq_goto 4]
noncomputable def xf_258_5 : zE → zKn := fun E => zq_incg zG2 zE2 1 (zq_goto 4 (zNil) E) E
theorem xe_258_5 : xf_258_5 = zEx xb_258_5 := by
  unfold xf_258_5 xb_258_5
  rfl
theorem xc_258_5 : zCd 258 [0, 4, 12, 31, 32, 40, 46] 40 xb_258_5 := zc_iinc xj_258 43 2 1 1 rfl rfl rfl (zf_inc_2 _) (zc_goto xj_258 44 (-39) 4 rfl rfl rfl (trivial))
noncomputable def xb_258_4 : List zF := [zq_add, zq_istg zE1, zq_incg zG3 zE3 1, zq_goto 12]
noncomputable def xf_258_4 : zE → zKn := fun E => zq_add (zq_istg zE1 (zq_incg zG3 zE3 1 (zq_goto 12 (zNil) E) E) E) E
theorem xe_258_4 : xf_258_4 = zEx xb_258_4 := by
  unfold xf_258_4 xb_258_4
  rfl
theorem xc_258_4 : zCd 258 [0, 4, 12, 31, 32, 40, 46] 32 xb_258_4 := zc_iadd xj_258 33 rfl rfl (zc_istore_n xj_258 34 1 rfl rfl zf_ist_1 (zc_iinc xj_258 37 3 1 1 rfl rfl rfl (zf_inc_3 _) (zc_goto xj_258 38 (-25) 12 rfl rfl rfl (trivial))))
noncomputable def xb_258_3 : List zF := zq_k 0 :: xb_258_4
noncomputable def xf_258_3 : zE → zKn := fun E => zq_k 0 (xf_258_4 E) E
theorem xe_258_3 : xf_258_3 = zEx xb_258_3 := by
  unfold xf_258_3 xb_258_3
  rw [xe_258_4]
  rfl
theorem xc_258_3 : zCd 258 [0, 4, 12, 31, 32, 40, 46] 31 xb_258_3 := zc_iconst xj_258 32 0 0 rfl rfl rfl (xc_258_4)
noncomputable def xb_258_2 : List zF := [zq_ildg zG3, zq_ildg zG2, zq_ic_ge 40, zq_ildg zG1, zq_aldg zG0, zq_ildg zG2, zq_ildg zG3, zN2 213 3 zg_213, zq_if_eq 31, zq_k 1, zq_goto 32]
noncomputable def xf_258_2 : zE → zKn := fun E => zq_ildg zG3 (zq_ildg zG2 (zq_ic_ge 40 (zq_ildg zG1 (zq_aldg zG0 (zq_ildg zG2 (zq_ildg zG3 (zN2 213 3 zg_213 (zq_if_eq 31 (zq_k 1 (zq_goto 32 (zNil) E) E) E) E) E) E) E) E) E) E) E
theorem xe_258_2 : xf_258_2 = zEx xb_258_2 := by
  unfold xf_258_2 xb_258_2
  rfl
theorem xc_258_2 : zCd 258 [0, 4, 12, 31, 32, 40, 46] 12 xb_258_2 := zc_iload_n xj_258 13 3 rfl rfl zf_ild_3 (zc_iload_n xj_258 14 2 rfl rfl zf_ild_2 (zc_ic_ge xj_258 17 26 40 rfl rfl rfl (zc_iload_n xj_258 18 1 rfl rfl zf_ild_1 (zc_aload_n xj_258 19 0 rfl rfl zf_ald_0 (zc_iload_n xj_258 20 2 rfl rfl zf_ild_2 (zc_iload_n xj_258 21 3 rfl rfl zf_ild_3 (zc_any xj_258 24 (.invokevirtual 234) [1, 213, 2, 321, 9, 3] rfl rfl (zN2 213 3 zg_213) rfl rfl (zc_if_eq xj_258 27 7 31 rfl rfl rfl (zc_iconst xj_258 28 1 1 rfl rfl rfl (zc_goto xj_258 29 4 32 rfl rfl rfl (trivial)))))))))))
noncomputable def xb_258_1 : List zF := zq_ildg zG2 :: zq_k 40 :: zq_ic_ge 46 :: zq_k 0 :: zq_istg zE3 :: xb_258_2
noncomputable def xf_258_1 : zE → zKn := fun E => zq_ildg zG2 (zq_k 40 (zq_ic_ge 46 (zq_k 0 (zq_istg zE3 (xf_258_2 E) E) E) E) E) E
theorem xe_258_1 : xf_258_1 = zEx xb_258_1 := by
  unfold xf_258_1 xb_258_1
  rw [xe_258_2]
  rfl
theorem xc_258_1 : zCd 258 [0, 4, 12, 31, 32, 40, 46] 4 xb_258_1 := zc_iload_n xj_258 5 2 rfl rfl zf_ild_2 (zc_bipush xj_258 7 40 40 rfl rfl rfl (zc_ic_ge xj_258 10 39 46 rfl rfl rfl (zc_iconst xj_258 11 0 0 rfl rfl rfl (zc_istore_n xj_258 12 3 rfl rfl zf_ist_3 (xc_258_2)))))
noncomputable def xb_258_0 : List zF := zq_k 0 :: zq_istg zE1 :: zq_k 0 :: zq_istg zE2 :: xb_258_1
noncomputable def xf_258_0 : zE → zKn := fun E => zq_k 0 (zq_istg zE1 (zq_k 0 (zq_istg zE2 (xf_258_1 E) E) E) E) E
theorem xe_258_0 : xf_258_0 = zEx xb_258_0 := by
  unfold xf_258_0 xb_258_0
  rw [xe_258_1]
  rfl
theorem xc_258_0 : zCd 258 [0, 4, 12, 31, 32, 40, 46] 0 xb_258_0 := zc_iconst xj_258 1 0 0 rfl rfl rfl (zc_istore_n xj_258 2 1 rfl rfl zf_ist_1 (zc_iconst xj_258 3 0 0 rfl rfl rfl (zc_istore_n xj_258 4 2 rfl rfl zf_ist_2 (xc_258_1))))
noncomputable def xm_258 : Lean.RArray (zE → zKn) := .branch 31 (.branch 4 (.leaf xf_258_0) (.branch 12 (.leaf xf_258_1) (.leaf xf_258_2))) (.branch 40 (.branch 32 (.leaf xf_258_3) (.leaf xf_258_4)) (.branch 46 (.leaf xf_258_5) (.leaf xf_258_6)))
theorem xa_258 : zCdAll 258 [0, 4, 12, 31, 32, 40, 46] xm_258 := zAll2_ok (P := fun t => ∃ c, zCd 258 [0, 4, 12, 31, 32, 40, 46] t c ∧ xm_258.get t = zEx c) ⟨⟨_, xc_258_0, xe_258_0⟩, ⟨_, xc_258_1, xe_258_1⟩, ⟨_, xc_258_2, xe_258_2⟩, ⟨_, xc_258_3, xe_258_3⟩, ⟨_, xc_258_4, xe_258_4⟩, ⟨_, xc_258_5, xe_258_5⟩, ⟨_, xc_258_6, xe_258_6⟩, trivial⟩
/-- SquareMeshModel.fixedBy -/
theorem xj_259 : ∀ pc, pI 259 pc = pJ_259 pc := fun _ => rfl
noncomputable def xb_259_6 : List zF := [zq_ildg zG2, zq_iret 0]
noncomputable def xf_259_6 : zE → zKn := fun E => zq_ildg zG2 (zq_iret 0 (zNil) E) E
theorem xe_259_6 : xf_259_6 = zEx xb_259_6 := by
  unfold xf_259_6 xb_259_6
  rfl
theorem xc_259_6 : zCd 259 [0, 4, 13, 35, 36, 44, 50] 50 xb_259_6 := zc_iload_n xj_259 51 2 rfl rfl zf_ild_2 (zc_ireturn0 xj_259 52 rfl rfl (trivial))
noncomputable def xb_259_5 : List zF := [zq_incg zG3 zE3 1, zq_goto 4]
noncomputable def xf_259_5 : zE → zKn := fun E => zq_incg zG3 zE3 1 (zq_goto 4 (zNil) E) E
theorem xe_259_5 : xf_259_5 = zEx xb_259_5 := by
  unfold xf_259_5 xb_259_5
  rfl
theorem xc_259_5 : zCd 259 [0, 4, 13, 35, 36, 44, 50] 44 xb_259_5 := zc_iinc xj_259 47 3 1 1 rfl rfl rfl (zf_inc_3 _) (zc_goto xj_259 48 (-43) 4 rfl rfl rfl (trivial))
noncomputable def xb_259_4 : List zF := [zq_add, zq_istg zE2, zq_incg zG4 zE4 1, zq_goto 13]
noncomputable def xf_259_4 : zE → zKn := fun E => zq_add (zq_istg zE2 (zq_incg zG4 zE4 1 (zq_goto 13 (zNil) E) E) E) E
theorem xe_259_4 : xf_259_4 = zEx xb_259_4 := by
  unfold xf_259_4 xb_259_4
  rfl
theorem xc_259_4 : zCd 259 [0, 4, 13, 35, 36, 44, 50] 36 xb_259_4 := zc_iadd xj_259 37 rfl rfl (zc_istore_n xj_259 38 2 rfl rfl zf_ist_2 (zc_iinc xj_259 41 4 1 1 rfl rfl rfl (zf_inc_4 _) (zc_goto xj_259 42 (-28) 13 rfl rfl rfl (trivial))))
noncomputable def xb_259_3 : List zF := zq_k 0 :: xb_259_4
noncomputable def xf_259_3 : zE → zKn := fun E => zq_k 0 (xf_259_4 E) E
theorem xe_259_3 : xf_259_3 = zEx xb_259_3 := by
  unfold xf_259_3 xb_259_3
  rw [xe_259_4]
  rfl
theorem xc_259_3 : zCd 259 [0, 4, 13, 35, 36, 44, 50] 35 xb_259_3 := zc_iconst xj_259 36 0 0 rfl rfl rfl (xc_259_4)
noncomputable def xb_259_2 : List zF := [zq_ildg zG4, zq_ildg zG3, zq_ic_ge 44, zq_ildg zG2, zq_aldg zG0, zq_ildg zG3, zq_ildg zG4, zN2 196 3 zg_196, zq_ildg zG1, zq_ic_lt 35, zq_k 1, zq_goto 36]
noncomputable def xf_259_2 : zE → zKn := fun E => zq_ildg zG4 (zq_ildg zG3 (zq_ic_ge 44 (zq_ildg zG2 (zq_aldg zG0 (zq_ildg zG3 (zq_ildg zG4 (zN2 196 3 zg_196 (zq_ildg zG1 (zq_ic_lt 35 (zq_k 1 (zq_goto 36 (zNil) E) E) E) E) E) E) E) E) E) E) E) E
theorem xe_259_2 : xf_259_2 = zEx xb_259_2 := by
  unfold xf_259_2 xb_259_2
  rfl
theorem xc_259_2 : zCd 259 [0, 4, 13, 35, 36, 44, 50] 13 xb_259_2 := zc_iload xj_259 15 4 rfl rfl zf_ild_4 (zc_iload_n xj_259 16 3 rfl rfl zf_ild_3 (zc_ic_ge xj_259 19 28 44 rfl rfl rfl (zc_iload_n xj_259 20 2 rfl rfl zf_ild_2 (zc_aload_n xj_259 21 0 rfl rfl zf_ald_0 (zc_iload_n xj_259 22 3 rfl rfl zf_ild_3 (zc_iload xj_259 24 4 rfl rfl zf_ild_4 (zc_any xj_259 27 (.invokevirtual 102) [1, 196, 2, 258, 9, 3] rfl rfl (zN2 196 3 zg_196) rfl rfl (zc_iload_n xj_259 28 1 rfl rfl zf_ild_1 (zc_ic_lt xj_259 31 7 35 rfl rfl rfl (zc_iconst xj_259 32 1 1 rfl rfl rfl (zc_goto xj_259 33 4 36 rfl rfl rfl (trivial))))))))))))
noncomputable def xb_259_1 : List zF := zq_ildg zG3 :: zq_k 40 :: zq_ic_ge 50 :: zq_k 0 :: zq_istg zE4 :: xb_259_2
noncomputable def xf_259_1 : zE → zKn := fun E => zq_ildg zG3 (zq_k 40 (zq_ic_ge 50 (zq_k 0 (zq_istg zE4 (xf_259_2 E) E) E) E) E) E
theorem xe_259_1 : xf_259_1 = zEx xb_259_1 := by
  unfold xf_259_1 xb_259_1
  rw [xe_259_2]
  rfl
theorem xc_259_1 : zCd 259 [0, 4, 13, 35, 36, 44, 50] 4 xb_259_1 := zc_iload_n xj_259 5 3 rfl rfl zf_ild_3 (zc_bipush xj_259 7 40 40 rfl rfl rfl (zc_ic_ge xj_259 10 43 50 rfl rfl rfl (zc_iconst xj_259 11 0 0 rfl rfl rfl (zc_istore xj_259 13 4 rfl rfl zf_ist_4 (xc_259_2)))))
noncomputable def xb_259_0 : List zF := zq_k 0 :: zq_istg zE2 :: zq_k 0 :: zq_istg zE3 :: xb_259_1
noncomputable def xf_259_0 : zE → zKn := fun E => zq_k 0 (zq_istg zE2 (zq_k 0 (zq_istg zE3 (xf_259_1 E) E) E) E) E
theorem xe_259_0 : xf_259_0 = zEx xb_259_0 := by
  unfold xf_259_0 xb_259_0
  rw [xe_259_1]
  rfl
theorem xc_259_0 : zCd 259 [0, 4, 13, 35, 36, 44, 50] 0 xb_259_0 := zc_iconst xj_259 1 0 0 rfl rfl rfl (zc_istore_n xj_259 2 2 rfl rfl zf_ist_2 (zc_iconst xj_259 3 0 0 rfl rfl rfl (zc_istore_n xj_259 4 3 rfl rfl zf_ist_3 (xc_259_1))))
noncomputable def xm_259 : Lean.RArray (zE → zKn) := .branch 35 (.branch 4 (.leaf xf_259_0) (.branch 13 (.leaf xf_259_1) (.leaf xf_259_2))) (.branch 44 (.branch 36 (.leaf xf_259_3) (.leaf xf_259_4)) (.branch 50 (.leaf xf_259_5) (.leaf xf_259_6)))
theorem xa_259 : zCdAll 259 [0, 4, 13, 35, 36, 44, 50] xm_259 := zAll2_ok (P := fun t => ∃ c, zCd 259 [0, 4, 13, 35, 36, 44, 50] t c ∧ xm_259.get t = zEx c) ⟨⟨_, xc_259_0, xe_259_0⟩, ⟨_, xc_259_1, xe_259_1⟩, ⟨_, xc_259_2, xe_259_2⟩, ⟨_, xc_259_3, xe_259_3⟩, ⟨_, xc_259_4, xe_259_4⟩, ⟨_, xc_259_5, xe_259_5⟩, ⟨_, xc_259_6, xe_259_6⟩, trivial⟩
/-- SquareMeshModel.is -/
theorem xj_260 : ∀ pc, pI 260 pc = pJ_260 pc := fun _ => rfl
noncomputable def xb_260_14 : List zF := [zq_k 4294967295, zq_iret 0]
noncomputable def xf_260_14 : zE → zKn := fun E => zq_k 4294967295 (zq_iret 0 (zNil) E) E
theorem xe_260_14 : xf_260_14 = zEx xb_260_14 := by
  unfold xf_260_14 xb_260_14
  rfl
theorem xc_260_14 : zCd 260 [0, 68, 73, 78, 83, 89, 95, 100, 107, 112, 121, 126, 132, 138, 143] 143 xb_260_14 := zc_iconst xj_260 144 (-1) 4294967295 rfl rfl rfl (zc_ireturn0 xj_260 145 rfl rfl (trivial))
noncomputable def xb_260_13 : List zF := [zq_aldg zG0, zq_calli 300 0 9 3, zq_iret 0]
noncomputable def xf_260_13 : zE → zKn := fun E => zq_aldg zG0 (zq_calli 300 0 9 3 (zq_iret 0 (zNil) E) E) E
theorem xe_260_13 : xf_260_13 = zEx xb_260_13 := by
  unfold xf_260_13 xb_260_13
  rfl
theorem xc_260_13 : zCd 260 [0, 68, 73, 78, 83, 89, 95, 100, 107, 112, 121, 126, 132, 138, 143] 138 xb_260_13 := zc_aload_n xj_260 139 0 rfl rfl zf_ald_0 (zc_invokevirtual1 xj_260 142 259 300 0 340 9 3 rfl rfl rfl rfl (zc_ireturn0 xj_260 143 rfl rfl (trivial)))
noncomputable def xb_260_12 : List zF := [zq_aldg zG0, zq_k 0, zq_calli 298 1 9 7, zq_iret 0]
noncomputable def xf_260_12 : zE → zKn := fun E => zq_aldg zG0 (zq_k 0 (zq_calli 298 1 9 7 (zq_iret 0 (zNil) E) E) E) E
theorem xe_260_12 : xf_260_12 = zEx xb_260_12 := by
  unfold xf_260_12 xb_260_12
  rfl
theorem xc_260_12 : zCd 260 [0, 68, 73, 78, 83, 89, 95, 100, 107, 112, 121, 126, 132, 138, 143] 132 xb_260_12 := zc_aload_n xj_260 133 0 rfl rfl zf_ald_0 (zc_iconst xj_260 134 0 0 rfl rfl rfl (zc_invokevirtual1 xj_260 137 255 298 1 338 9 7 rfl rfl rfl rfl (zc_ireturn0 xj_260 138 rfl rfl (trivial))))
noncomputable def xb_260_11 : List zF := [zq_aldg zG0, zq_k 1, zq_calli 298 1 9 7, zq_iret 0]
noncomputable def xf_260_11 : zE → zKn := fun E => zq_aldg zG0 (zq_k 1 (zq_calli 298 1 9 7 (zq_iret 0 (zNil) E) E) E) E
theorem xe_260_11 : xf_260_11 = zEx xb_260_11 := by
  unfold xf_260_11 xb_260_11
  rfl
theorem xc_260_11 : zCd 260 [0, 68, 73, 78, 83, 89, 95, 100, 107, 112, 121, 126, 132, 138, 143] 126 xb_260_11 := zc_aload_n xj_260 127 0 rfl rfl zf_ald_0 (zc_iconst xj_260 128 1 1 rfl rfl rfl (zc_invokevirtual1 xj_260 131 255 298 1 338 9 7 rfl rfl rfl rfl (zc_ireturn0 xj_260 132 rfl rfl (trivial))))
noncomputable def xb_260_10 : List zF := [zq_aldg zG0, zq_calli 296 0 9 4, zq_iret 0]
noncomputable def xf_260_10 : zE → zKn := fun E => zq_aldg zG0 (zq_calli 296 0 9 4 (zq_iret 0 (zNil) E) E) E
theorem xe_260_10 : xf_260_10 = zEx xb_260_10 := by
  unfold xf_260_10 xb_260_10
  rfl
theorem xc_260_10 : zCd 260 [0, 68, 73, 78, 83, 89, 95, 100, 107, 112, 121, 126, 132, 138, 143] 121 xb_260_10 := zc_aload_n xj_260 122 0 rfl rfl zf_ald_0 (zc_invokevirtual1 xj_260 125 252 296 0 334 9 4 rfl rfl rfl rfl (zc_ireturn0 xj_260 126 rfl rfl (trivial)))
noncomputable def xb_260_9 : List zF := [zq_aldg zG0, zq_getfg 9 zG0, zq_k 1763, zq_ild_ 0, zq_iret 0]
noncomputable def xf_260_9 : zE → zKn := fun E => zq_aldg zG0 (zq_getfg 9 zG0 (zq_k 1763 (zq_ild_ 0 (zq_iret 0 (zNil) E) E) E) E) E
theorem xe_260_9 : xf_260_9 = zEx xb_260_9 := by
  unfold xf_260_9 xb_260_9
  rfl
theorem xc_260_9 : zCd 260 [0, 68, 73, 78, 83, 89, 95, 100, 107, 112, 121, 126, 132, 138, 143] 112 xb_260_9 := zc_aload_n xj_260 113 0 rfl rfl zf_ald_0 (zc_getf xj_260 116 8 9 0 94 rfl rfl (zf_getf_0 _) (zc_sipush xj_260 119 1763 1763 rfl rfl rfl (zc_iaload xj_260 120 rfl rfl (zc_ireturn0 xj_260 121 rfl rfl (trivial)))))
noncomputable def xb_260_8 : List zF := [zq_aldg zG0, zq_calli 319 0 9 4, zq_iret 0]
noncomputable def xf_260_8 : zE → zKn := fun E => zq_aldg zG0 (zq_calli 319 0 9 4 (zq_iret 0 (zNil) E) E) E
theorem xe_260_8 : xf_260_8 = zEx xb_260_8 := by
  unfold xf_260_8 xb_260_8
  rfl
theorem xc_260_8 : zCd 260 [0, 68, 73, 78, 83, 89, 95, 100, 107, 112, 121, 126, 132, 138, 143] 107 xb_260_8 := zc_aload_n xj_260 108 0 rfl rfl zf_ald_0 (zc_invokevirtual1 xj_260 111 249 319 0 331 9 4 rfl rfl rfl rfl (zc_ireturn0 xj_260 112 rfl rfl (trivial)))
noncomputable def xb_260_7 : List zF := [zq_aldg zG0, zq_getfg 9 zG0, zq_k 2, zq_ild_ 0, zq_iret 0]
noncomputable def xf_260_7 : zE → zKn := fun E => zq_aldg zG0 (zq_getfg 9 zG0 (zq_k 2 (zq_ild_ 0 (zq_iret 0 (zNil) E) E) E) E) E
theorem xe_260_7 : xf_260_7 = zEx xb_260_7 := by
  unfold xf_260_7 xb_260_7
  rfl
theorem xc_260_7 : zCd 260 [0, 68, 73, 78, 83, 89, 95, 100, 107, 112, 121, 126, 132, 138, 143] 100 xb_260_7 := zc_aload_n xj_260 101 0 rfl rfl zf_ald_0 (zc_getf xj_260 104 8 9 0 94 rfl rfl (zf_getf_0 _) (zc_iconst xj_260 105 2 2 rfl rfl rfl (zc_iaload xj_260 106 rfl rfl (zc_ireturn0 xj_260 107 rfl rfl (trivial)))))
noncomputable def xb_260_6 : List zF := [zq_aldg zG0, zq_calli 289 0 9 6, zq_iret 0]
noncomputable def xf_260_6 : zE → zKn := fun E => zq_aldg zG0 (zq_calli 289 0 9 6 (zq_iret 0 (zNil) E) E) E
theorem xe_260_6 : xf_260_6 = zEx xb_260_6 := by
  unfold xf_260_6 xb_260_6
  rfl
theorem xc_260_6 : zCd 260 [0, 68, 73, 78, 83, 89, 95, 100, 107, 112, 121, 126, 132, 138, 143] 95 xb_260_6 := zc_aload_n xj_260 96 0 rfl rfl zf_ald_0 (zc_invokevirtual1 xj_260 99 246 289 0 328 9 6 rfl rfl rfl rfl (zc_ireturn0 xj_260 100 rfl rfl (trivial)))
noncomputable def xb_260_5 : List zF := [zq_aldg zG0, zq_k 2, zq_calli 259 1 9 5, zq_iret 0]
noncomputable def xf_260_5 : zE → zKn := fun E => zq_aldg zG0 (zq_k 2 (zq_calli 259 1 9 5 (zq_iret 0 (zNil) E) E) E) E
theorem xe_260_5 : xf_260_5 = zEx xb_260_5 := by
  unfold xf_260_5 xb_260_5
  rfl
theorem xc_260_5 : zCd 260 [0, 68, 73, 78, 83, 89, 95, 100, 107, 112, 121, 126, 132, 138, 143] 89 xb_260_5 := zc_aload_n xj_260 90 0 rfl rfl zf_ald_0 (zc_iconst xj_260 91 2 2 rfl rfl rfl (zc_invokevirtual1 xj_260 94 243 259 1 327 9 5 rfl rfl rfl rfl (zc_ireturn0 xj_260 95 rfl rfl (trivial))))
noncomputable def xb_260_4 : List zF := [zq_aldg zG0, zq_k 1, zq_calli 259 1 9 5, zq_iret 0]
noncomputable def xf_260_4 : zE → zKn := fun E => zq_aldg zG0 (zq_k 1 (zq_calli 259 1 9 5 (zq_iret 0 (zNil) E) E) E) E
theorem xe_260_4 : xf_260_4 = zEx xb_260_4 := by
  unfold xf_260_4 xb_260_4
  rfl
theorem xc_260_4 : zCd 260 [0, 68, 73, 78, 83, 89, 95, 100, 107, 112, 121, 126, 132, 138, 143] 83 xb_260_4 := zc_aload_n xj_260 84 0 rfl rfl zf_ald_0 (zc_iconst xj_260 85 1 1 rfl rfl rfl (zc_invokevirtual1 xj_260 88 243 259 1 327 9 5 rfl rfl rfl rfl (zc_ireturn0 xj_260 89 rfl rfl (trivial))))
noncomputable def xb_260_3 : List zF := [zq_aldg zG0, zq_calli 258 0 9 4, zq_iret 0]
noncomputable def xf_260_3 : zE → zKn := fun E => zq_aldg zG0 (zq_calli 258 0 9 4 (zq_iret 0 (zNil) E) E) E
theorem xe_260_3 : xf_260_3 = zEx xb_260_3 := by
  unfold xf_260_3 xb_260_3
  rfl
theorem xc_260_3 : zCd 260 [0, 68, 73, 78, 83, 89, 95, 100, 107, 112, 121, 126, 132, 138, 143] 78 xb_260_3 := zc_aload_n xj_260 79 0 rfl rfl zf_ald_0 (zc_invokevirtual1 xj_260 82 240 258 0 326 9 4 rfl rfl rfl rfl (zc_ireturn0 xj_260 83 rfl rfl (trivial)))
noncomputable def xb_260_2 : List zF := [zq_aldg zG0, zq_getfg 9 zG4, zq_iret 0]
noncomputable def xf_260_2 : zE → zKn := fun E => zq_aldg zG0 (zq_getfg 9 zG4 (zq_iret 0 (zNil) E) E) E
theorem xe_260_2 : xf_260_2 = zEx xb_260_2 := by
  unfold xf_260_2 xb_260_2
  rfl
theorem xc_260_2 : zCd 260 [0, 68, 73, 78, 83, 89, 95, 100, 107, 112, 121, 126, 132, 138, 143] 73 xb_260_2 := zc_aload_n xj_260 74 0 rfl rfl zf_ald_0 (zc_getf xj_260 77 134 9 4 98 rfl rfl (zf_getf_4 _) (zc_ireturn0 xj_260 78 rfl rfl (trivial)))
noncomputable def xb_260_1 : List zF := [zq_aldg zG0, zq_calli 257 0 9 3, zq_iret 0]
noncomputable def xf_260_1 : zE → zKn := fun E => zq_aldg zG0 (zq_calli 257 0 9 3 (zq_iret 0 (zNil) E) E) E
theorem xe_260_1 : xf_260_1 = zEx xb_260_1 := by
  unfold xf_260_1 xb_260_1
  rfl
theorem xc_260_1 : zCd 260 [0, 68, 73, 78, 83, 89, 95, 100, 107, 112, 121, 126, 132, 138, 143] 68 xb_260_1 := zc_aload_n xj_260 69 0 rfl rfl zf_ald_0 (zc_invokevirtual1 xj_260 72 237 257 0 325 9 3 rfl rfl rfl rfl (zc_ireturn0 xj_260 73 rfl rfl (trivial)))
noncomputable def xb_260_0 : List zF := [zq_ildg zG1, zq_tab 0 [68, 73, 78, 83, 89, 95, 100, 107, 112, 121, 126, 132, 138] 143]
noncomputable def xf_260_0 : zE → zKn := fun E => zq_ildg zG1 (zq_tab 0 [68, 73, 78, 83, 89, 95, 100, 107, 112, 121, 126, 132, 138] 143 (zNil) E) E
theorem xe_260_0 : xf_260_0 = zEx xb_260_0 := by
  unfold xf_260_0 xb_260_0
  rfl
theorem xc_260_0 : zCd 260 [0, 68, 73, 78, 83, 89, 95, 100, 107, 112, 121, 126, 132, 138, 143] 0 xb_260_0 := zc_iload_n xj_260 1 1 rfl rfl zf_ild_1 (zc_tab xj_260 2 142 0 12 #[67, 72, 77, 82, 88, 94, 99, 106, 111, 120, 125, 131, 137] 143 [68, 73, 78, 83, 89, 95, 100, 107, 112, 121, 126, 132, 138] 0 rfl rfl rfl rfl rfl (trivial))
noncomputable def xm_260 : Lean.RArray (zE → zKn) := .branch 100 (.branch 78 (.branch 68 (.leaf xf_260_0) (.branch 73 (.leaf xf_260_1) (.leaf xf_260_2))) (.branch 89 (.branch 83 (.leaf xf_260_3) (.leaf xf_260_4)) (.branch 95 (.leaf xf_260_5) (.leaf xf_260_6)))) (.branch 126 (.branch 112 (.branch 107 (.leaf xf_260_7) (.leaf xf_260_8)) (.branch 121 (.leaf xf_260_9) (.leaf xf_260_10))) (.branch 138 (.branch 132 (.leaf xf_260_11) (.leaf xf_260_12)) (.branch 143 (.leaf xf_260_13) (.leaf xf_260_14))))
theorem xa_260 : zCdAll 260 [0, 68, 73, 78, 83, 89, 95, 100, 107, 112, 121, 126, 132, 138, 143] xm_260 := zAll2_ok (P := fun t => ∃ c, zCd 260 [0, 68, 73, 78, 83, 89, 95, 100, 107, 112, 121, 126, 132, 138, 143] t c ∧ xm_260.get t = zEx c) ⟨⟨_, xc_260_0, xe_260_0⟩, ⟨_, xc_260_1, xe_260_1⟩, ⟨_, xc_260_2, xe_260_2⟩, ⟨_, xc_260_3, xe_260_3⟩, ⟨_, xc_260_4, xe_260_4⟩, ⟨_, xc_260_5, xe_260_5⟩, ⟨_, xc_260_6, xe_260_6⟩, ⟨_, xc_260_7, xe_260_7⟩, ⟨_, xc_260_8, xe_260_8⟩, ⟨_, xc_260_9, xe_260_9⟩, ⟨_, xc_260_10, xe_260_10⟩, ⟨_, xc_260_11, xe_260_11⟩, ⟨_, xc_260_12, xe_260_12⟩, ⟨_, xc_260_13, xe_260_13⟩, ⟨_, xc_260_14, xe_260_14⟩, trivial⟩
/-- SquareMeshModel.isOnBorder -/
theorem xj_261 : ∀ pc, pI 261 pc = pJ_261 pc := fun _ => rfl
noncomputable def xb_261_3 : List zF := [zq_iret 1]
noncomputable def xf_261_3 : zE → zKn := fun E => zq_iret 1 (zNil) E
theorem xe_261_3 : xf_261_3 = zEx xb_261_3 := by
  unfold xf_261_3 xb_261_3
  rfl
theorem xc_261_3 : zCd 261 [0, 44, 48, 49] 49 xb_261_3 := zc_ireturn1 xj_261 50 rfl rfl (trivial)
noncomputable def xb_261_2 : List zF := zq_k 0 :: xb_261_3
noncomputable def xf_261_2 : zE → zKn := fun E => zq_k 0 (xf_261_3 E) E
theorem xe_261_2 : xf_261_2 = zEx xb_261_2 := by
  unfold xf_261_2 xb_261_2
  rw [xe_261_3]
  rfl
theorem xc_261_2 : zCd 261 [0, 44, 48, 49] 48 xb_261_2 := zc_iconst xj_261 49 0 0 rfl rfl rfl (xc_261_3)
noncomputable def xb_261_1 : List zF := [zq_k 1, zq_goto 49]
noncomputable def xf_261_1 : zE → zKn := fun E => zq_k 1 (zq_goto 49 (zNil) E) E
theorem xe_261_1 : xf_261_1 = zEx xb_261_1 := by
  unfold xf_261_1 xb_261_1
  rfl
theorem xc_261_1 : zCd 261 [0, 44, 48, 49] 44 xb_261_1 := zc_iconst xj_261 45 1 1 rfl rfl rfl (zc_goto xj_261 46 4 49 rfl rfl rfl (trivial))
noncomputable def xb_261_0 : List zF := zq_aldg zG0 :: zq_ildg zG1 :: zN1 192 2 zg_192 :: zq_k 1000 :: zq_ic_eq 44 :: zq_aldg zG0 :: zq_ildg zG1 :: zN1 192 2 zg_192 :: zq_k 4294966296 :: zq_ic_eq 44 :: zq_aldg zG0 :: zq_ildg zG1 :: zN1 193 2 zg_193 :: zq_k 1000 :: zq_ic_eq 44 :: zq_aldg zG0 :: zq_ildg zG1 :: zN1 193 2 zg_193 :: zq_k 4294966296 :: zq_ic_ne 48 :: xb_261_1
noncomputable def xf_261_0 : zE → zKn := fun E => zq_aldg zG0 (zq_ildg zG1 (zN1 192 2 zg_192 (zq_k 1000 (zq_ic_eq 44 (zq_aldg zG0 (zq_ildg zG1 (zN1 192 2 zg_192 (zq_k 4294966296 (zq_ic_eq 44 (zq_aldg zG0 (zq_ildg zG1 (zN1 193 2 zg_193 (zq_k 1000 (zq_ic_eq 44 (zq_aldg zG0 (zq_ildg zG1 (zN1 193 2 zg_193 (zq_k 4294966296 (zq_ic_ne 48 (xf_261_1 E) E) E) E) E) E) E) E) E) E) E) E) E) E) E) E) E) E) E) E) E
theorem xe_261_0 : xf_261_0 = zEx xb_261_0 := by
  unfold xf_261_0 xb_261_0
  rw [xe_261_1]
  rfl
theorem xc_261_0 : zCd 261 [0, 44, 48, 49] 0 xb_261_0 := zc_aload_n xj_261 1 0 rfl rfl zf_ald_0 (zc_iload_n xj_261 2 1 rfl rfl zf_ild_1 (zc_any xj_261 5 (.invokevirtual 75) [1, 192, 1, 260, 9, 2] rfl rfl (zN1 192 2 zg_192) rfl rfl (zc_sipush xj_261 8 1000 1000 rfl rfl rfl (zc_ic_eq xj_261 11 36 44 rfl rfl rfl (zc_aload_n xj_261 12 0 rfl rfl zf_ald_0 (zc_iload_n xj_261 13 1 rfl rfl zf_ild_1 (zc_any xj_261 16 (.invokevirtual 75) [1, 192, 1, 260, 9, 2] rfl rfl (zN1 192 2 zg_192) rfl rfl (zc_sipush xj_261 19 (-1000) 4294966296 rfl rfl rfl (zc_ic_eq xj_261 22 25 44 rfl rfl rfl (zc_aload_n xj_261 23 0 rfl rfl zf_ald_0 (zc_iload_n xj_261 24 1 rfl rfl zf_ild_1 (zc_any xj_261 27 (.invokevirtual 79) [1, 193, 1, 261, 9, 2] rfl rfl (zN1 193 2 zg_193) rfl rfl (zc_sipush xj_261 30 1000 1000 rfl rfl rfl (zc_ic_eq xj_261 33 14 44 rfl rfl rfl (zc_aload_n xj_261 34 0 rfl rfl zf_ald_0 (zc_iload_n xj_261 35 1 rfl rfl zf_ild_1 (zc_any xj_261 38 (.invokevirtual 79) [1, 193, 1, 261, 9, 2] rfl rfl (zN1 193 2 zg_193) rfl rfl (zc_sipush xj_261 41 (-1000) 4294966296 rfl rfl rfl (zc_ic_ne xj_261 44 7 48 rfl rfl rfl (xc_261_1))))))))))))))))))))
noncomputable def xm_261 : Lean.RArray (zE → zKn) := .branch 48 (.branch 44 (.leaf xf_261_0) (.leaf xf_261_1)) (.branch 49 (.leaf xf_261_2) (.leaf xf_261_3))
theorem xa_261 : zCdAll 261 [0, 44, 48, 49] xm_261 := zAll2_ok (P := fun t => ∃ c, zCd 261 [0, 44, 48, 49] t c ∧ xm_261.get t = zEx c) ⟨⟨_, xc_261_0, xe_261_0⟩, ⟨_, xc_261_1, xe_261_1⟩, ⟨_, xc_261_2, xe_261_2⟩, ⟨_, xc_261_3, xe_261_3⟩, trivial⟩
/-- SquareMeshModel.of -/
theorem xj_262 : ∀ pc, pI 262 pc = pJ_262 pc := fun _ => rfl
noncomputable def xb_262_15 : List zF := [zq_aldg zG0, zq_ildg zG1, zq_calli 194 1 9 2, zq_iret 0]
noncomputable def xf_262_15 : zE → zKn := fun E => zq_aldg zG0 (zq_ildg zG1 (zq_calli 194 1 9 2 (zq_iret 0 (zNil) E) E) E) E
theorem xe_262_15 : xf_262_15 = zEx xb_262_15 := by
  unfold xf_262_15 xb_262_15
  rfl
theorem xc_262_15 : zCd 262 [0, 14, 18, 19, 37, 47, 48, 49, 84, 90, 96, 102, 108, 120, 121, 122] 122 xb_262_15 := zc_aload_n xj_262 123 0 rfl rfl zf_ald_0 (zc_iload_n xj_262 124 1 rfl rfl zf_ild_1 (zc_invokevirtual1 xj_262 127 266 194 1 344 9 2 rfl rfl rfl rfl (zc_ireturn0 xj_262 128 rfl rfl (trivial))))
noncomputable def xb_262_14 : List zF := [zq_iret 0]
noncomputable def xf_262_14 : zE → zKn := fun E => zq_iret 0 (zNil) E
theorem xe_262_14 : xf_262_14 = zEx xb_262_14 := by
  unfold xf_262_14 xb_262_14
  rfl
theorem xc_262_14 : zCd 262 [0, 14, 18, 19, 37, 47, 48, 49, 84, 90, 96, 102, 108, 120, 121, 122] 121 xb_262_14 := zc_ireturn0 xj_262 122 rfl rfl (trivial)
noncomputable def xb_262_13 : List zF := zq_k 0 :: xb_262_14
noncomputable def xf_262_13 : zE → zKn := fun E => zq_k 0 (xf_262_14 E) E
theorem xe_262_13 : xf_262_13 = zEx xb_262_13 := by
  unfold xf_262_13 xb_262_13
  rw [xe_262_14]
  rfl
theorem xc_262_13 : zCd 262 [0, 14, 18, 19, 37, 47, 48, 49, 84, 90, 96, 102, 108, 120, 121, 122] 120 xb_262_13 := zc_iconst xj_262 121 0 0 rfl rfl rfl (xc_262_14)
noncomputable def xb_262_12 : List zF := [zq_aldg zG0, zq_ildg zG1, zq_calli 261 1 9 2, zq_if_eq 120, zq_k 1, zq_goto 121]
noncomputable def xf_262_12 : zE → zKn := fun E => zq_aldg zG0 (zq_ildg zG1 (zq_calli 261 1 9 2 (zq_if_eq 120 (zq_k 1 (zq_goto 121 (zNil) E) E) E) E) E) E
theorem xe_262_12 : xf_262_12 = zEx xb_262_12 := by
  unfold xf_262_12 xb_262_12
  rfl
theorem xc_262_12 : zCd 262 [0, 14, 18, 19, 37, 47, 48, 49, 84, 90, 96, 102, 108, 120, 121, 122] 108 xb_262_12 := zc_aload_n xj_262 109 0 rfl rfl zf_ald_0 (zc_iload_n xj_262 110 1 rfl rfl zf_ild_1 (zc_invokevirtual1 xj_262 113 263 261 1 343 9 2 rfl rfl rfl rfl (zc_if_eq xj_262 116 7 120 rfl rfl rfl (zc_iconst xj_262 117 1 1 rfl rfl rfl (zc_goto xj_262 118 4 121 rfl rfl rfl (trivial))))))
noncomputable def xb_262_11 : List zF := [zq_aldg zG0, zq_ildg zG1, zq_calli 233 1 9 4, zq_iret 0]
noncomputable def xf_262_11 : zE → zKn := fun E => zq_aldg zG0 (zq_ildg zG1 (zq_calli 233 1 9 4 (zq_iret 0 (zNil) E) E) E) E
theorem xe_262_11 : xf_262_11 = zEx xb_262_11 := by
  unfold xf_262_11 xb_262_11
  rfl
theorem xc_262_11 : zCd 262 [0, 14, 18, 19, 37, 47, 48, 49, 84, 90, 96, 102, 108, 120, 121, 122] 102 xb_262_11 := zc_aload_n xj_262 103 0 rfl rfl zf_ald_0 (zc_iload_n xj_262 104 1 rfl rfl zf_ild_1 (zc_invokevirtual1 xj_262 107 181 233 1 297 9 4 rfl rfl rfl rfl (zc_ireturn0 xj_262 108 rfl rfl (trivial))))
noncomputable def xb_262_10 : List zF := [zq_aldg zG0, zq_ildg zG1, zq_calli 281 1 9 5, zq_iret 0]
noncomputable def xf_262_10 : zE → zKn := fun E => zq_aldg zG0 (zq_ildg zG1 (zq_calli 281 1 9 5 (zq_iret 0 (zNil) E) E) E) E
theorem xe_262_10 : xf_262_10 = zEx xb_262_10 := by
  unfold xf_262_10 xb_262_10
  rfl
theorem xc_262_10 : zCd 262 [0, 14, 18, 19, 37, 47, 48, 49, 84, 90, 96, 102, 108, 120, 121, 122] 96 xb_262_10 := zc_aload_n xj_262 97 0 rfl rfl zf_ald_0 (zc_iload_n xj_262 98 1 rfl rfl zf_ild_1 (zc_invokevirtual1 xj_262 101 228 281 1 319 9 5 rfl rfl rfl rfl (zc_ireturn0 xj_262 102 rfl rfl (trivial))))
noncomputable def xb_262_9 : List zF := [zq_aldg zG0, zq_ildg zG1, zN1 193 2 zg_193, zq_iret 0]
noncomputable def xf_262_9 : zE → zKn := fun E => zq_aldg zG0 (zq_ildg zG1 (zN1 193 2 zg_193 (zq_iret 0 (zNil) E) E) E) E
theorem xe_262_9 : xf_262_9 = zEx xb_262_9 := by
  unfold xf_262_9 xb_262_9
  rfl
theorem xc_262_9 : zCd 262 [0, 14, 18, 19, 37, 47, 48, 49, 84, 90, 96, 102, 108, 120, 121, 122] 90 xb_262_9 := zc_aload_n xj_262 91 0 rfl rfl zf_ald_0 (zc_iload_n xj_262 92 1 rfl rfl zf_ild_1 (zc_any xj_262 95 (.invokevirtual 79) [1, 193, 1, 261, 9, 2] rfl rfl (zN1 193 2 zg_193) rfl rfl (zc_ireturn0 xj_262 96 rfl rfl (trivial))))
noncomputable def xb_262_8 : List zF := [zq_aldg zG0, zq_ildg zG1, zN1 192 2 zg_192, zq_iret 0]
noncomputable def xf_262_8 : zE → zKn := fun E => zq_aldg zG0 (zq_ildg zG1 (zN1 192 2 zg_192 (zq_iret 0 (zNil) E) E) E) E
theorem xe_262_8 : xf_262_8 = zEx xb_262_8 := by
  unfold xf_262_8 xb_262_8
  rfl
theorem xc_262_8 : zCd 262 [0, 14, 18, 19, 37, 47, 48, 49, 84, 90, 96, 102, 108, 120, 121, 122] 84 xb_262_8 := zc_aload_n xj_262 85 0 rfl rfl zf_ald_0 (zc_iload_n xj_262 86 1 rfl rfl zf_ild_1 (zc_any xj_262 89 (.invokevirtual 75) [1, 192, 1, 260, 9, 2] rfl rfl (zN1 192 2 zg_192) rfl rfl (zc_ireturn0 xj_262 90 rfl rfl (trivial))))
noncomputable def xb_262_7 : List zF := [zq_ildg zG2, zq_tab 0 [84, 90, 96, 102, 108] 122]
noncomputable def xf_262_7 : zE → zKn := fun E => zq_ildg zG2 (zq_tab 0 [84, 90, 96, 102, 108] 122 (zNil) E) E
theorem xe_262_7 : xf_262_7 = zEx xb_262_7 := by
  unfold xf_262_7 xb_262_7
  rfl
theorem xc_262_7 : zCd 262 [0, 14, 18, 19, 37, 47, 48, 49, 84, 90, 96, 102, 108, 120, 121, 122] 49 xb_262_7 := zc_iload_n xj_262 50 2 rfl rfl zf_ild_2 (zc_tab xj_262 51 72 0 4 #[34, 40, 46, 52, 58] 122 [84, 90, 96, 102, 108] 0 rfl rfl rfl rfl rfl (trivial))
noncomputable def xb_262_6 : List zF := [zq_iret 0]
noncomputable def xf_262_6 : zE → zKn := fun E => zq_iret 0 (zNil) E
theorem xe_262_6 : xf_262_6 = zEx xb_262_6 := by
  unfold xf_262_6 xb_262_6
  rfl
theorem xc_262_6 : zCd 262 [0, 14, 18, 19, 37, 47, 48, 49, 84, 90, 96, 102, 108, 120, 121, 122] 48 xb_262_6 := zc_ireturn0 xj_262 49 rfl rfl (trivial)
noncomputable def xb_262_5 : List zF := zq_k 4294967295 :: xb_262_6
noncomputable def xf_262_5 : zE → zKn := fun E => zq_k 4294967295 (xf_262_6 E) E
theorem xe_262_5 : xf_262_5 = zEx xb_262_5 := by
  unfold xf_262_5 xb_262_5
  rw [xe_262_6]
  rfl
theorem xc_262_5 : zCd 262 [0, 14, 18, 19, 37, 47, 48, 49, 84, 90, 96, 102, 108, 120, 121, 122] 47 xb_262_5 := zc_iconst xj_262 48 (-1) 4294967295 rfl rfl rfl (xc_262_6)
noncomputable def xb_262_4 : List zF := [zq_ildg zG3, zq_if_eq 47, zq_k 4294867296, zq_goto 48]
noncomputable def xf_262_4 : zE → zKn := fun E => zq_ildg zG3 (zq_if_eq 47 (zq_k 4294867296 (zq_goto 48 (zNil) E) E) E) E
theorem xe_262_4 : xf_262_4 = zEx xb_262_4 := by
  unfold xf_262_4 xb_262_4
  rfl
theorem xc_262_4 : zCd 262 [0, 14, 18, 19, 37, 47, 48, 49, 84, 90, 96, 102, 108, 120, 121, 122] 37 xb_262_4 := zc_iload_n xj_262 38 3 rfl rfl zf_ild_3 (zc_if_eq xj_262 41 9 47 rfl rfl rfl (zc_ldc_w xj_262 44 262 4294867296 3 rfl rfl rfl (zc_goto xj_262 45 4 48 rfl rfl rfl (trivial))))
noncomputable def xb_262_3 : List zF := zq_istg zE3 :: zq_aldg zG0 :: zq_ildg zG1 :: zN1 191 2 zg_191 :: zq_if_eq 37 :: zq_ildg zG2 :: zq_k 0 :: zq_k 5 :: zq_calls 188 3 3 :: zq_if_ne 49 :: xb_262_4
noncomputable def xf_262_3 : zE → zKn := fun E => zq_istg zE3 (zq_aldg zG0 (zq_ildg zG1 (zN1 191 2 zg_191 (zq_if_eq 37 (zq_ildg zG2 (zq_k 0 (zq_k 5 (zq_calls 188 3 3 (zq_if_ne 49 (xf_262_4 E) E) E) E) E) E) E) E) E) E) E
theorem xe_262_3 : xf_262_3 = zEx xb_262_3 := by
  unfold xf_262_3 xb_262_3
  rw [xe_262_4]
  rfl
theorem xc_262_3 : zCd 262 [0, 14, 18, 19, 37, 47, 48, 49, 84, 90, 96, 102, 108, 120, 121, 122] 19 xb_262_3 := zc_istore_n xj_262 20 3 rfl rfl zf_ist_3 (zc_aload_n xj_262 21 0 rfl rfl zf_ald_0 (zc_iload_n xj_262 22 1 rfl rfl zf_ild_1 (zc_any xj_262 25 (.invokevirtual 71) [1, 191, 1, 264, 9, 2] rfl rfl (zN1 191 2 zg_191) rfl rfl (zc_if_eq xj_262 28 12 37 rfl rfl rfl (zc_iload_n xj_262 29 2 rfl rfl zf_ild_2 (zc_iconst xj_262 30 0 0 rfl rfl rfl (zc_iconst xj_262 31 5 5 rfl rfl rfl (zc_invokestatic2 xj_262 34 67 188 3 265 0 3 rfl rfl rfl rfl (zc_if_ne xj_262 37 15 49 rfl rfl rfl (xc_262_4))))))))))
noncomputable def xb_262_2 : List zF := zq_k 0 :: xb_262_3
noncomputable def xf_262_2 : zE → zKn := fun E => zq_k 0 (xf_262_3 E) E
theorem xe_262_2 : xf_262_2 = zEx xb_262_2 := by
  unfold xf_262_2 xb_262_2
  rw [xe_262_3]
  rfl
theorem xc_262_2 : zCd 262 [0, 14, 18, 19, 37, 47, 48, 49, 84, 90, 96, 102, 108, 120, 121, 122] 18 xb_262_2 := zc_iconst xj_262 19 0 0 rfl rfl rfl (xc_262_3)
noncomputable def xb_262_1 : List zF := [zq_k 1, zq_goto 19]
noncomputable def xf_262_1 : zE → zKn := fun E => zq_k 1 (zq_goto 19 (zNil) E) E
theorem xe_262_1 : xf_262_1 = zEx xb_262_1 := by
  unfold xf_262_1 xb_262_1
  rfl
theorem xc_262_1 : zCd 262 [0, 14, 18, 19, 37, 47, 48, 49, 84, 90, 96, 102, 108, 120, 121, 122] 14 xb_262_1 := zc_iconst xj_262 15 1 1 rfl rfl rfl (zc_goto xj_262 16 4 19 rfl rfl rfl (trivial))
noncomputable def xb_262_0 : List zF := zq_ildg zG2 :: zq_if_eq 14 :: zq_ildg zG2 :: zq_k 1 :: zq_ic_eq 14 :: zq_ildg zG2 :: zq_k 5 :: zq_ic_ne 18 :: xb_262_1
noncomputable def xf_262_0 : zE → zKn := fun E => zq_ildg zG2 (zq_if_eq 14 (zq_ildg zG2 (zq_k 1 (zq_ic_eq 14 (zq_ildg zG2 (zq_k 5 (zq_ic_ne 18 (xf_262_1 E) E) E) E) E) E) E) E) E
theorem xe_262_0 : xf_262_0 = zEx xb_262_0 := by
  unfold xf_262_0 xb_262_0
  rw [xe_262_1]
  rfl
theorem xc_262_0 : zCd 262 [0, 14, 18, 19, 37, 47, 48, 49, 84, 90, 96, 102, 108, 120, 121, 122] 0 xb_262_0 := zc_iload_n xj_262 1 2 rfl rfl zf_ild_2 (zc_if_eq xj_262 4 13 14 rfl rfl rfl (zc_iload_n xj_262 5 2 rfl rfl zf_ild_2 (zc_iconst xj_262 6 1 1 rfl rfl rfl (zc_ic_eq xj_262 9 8 14 rfl rfl rfl (zc_iload_n xj_262 10 2 rfl rfl zf_ild_2 (zc_iconst xj_262 11 5 5 rfl rfl rfl (zc_ic_ne xj_262 14 7 18 rfl rfl rfl (xc_262_1))))))))
noncomputable def xm_262 : Lean.RArray (zE → zKn) := .branch 84 (.branch 37 (.branch 18 (.branch 14 (.leaf xf_262_0) (.leaf xf_262_1)) (.branch 19 (.leaf xf_262_2) (.leaf xf_262_3))) (.branch 48 (.branch 47 (.leaf xf_262_4) (.leaf xf_262_5)) (.branch 49 (.leaf xf_262_6) (.leaf xf_262_7)))) (.branch 108 (.branch 96 (.branch 90 (.leaf xf_262_8) (.leaf xf_262_9)) (.branch 102 (.leaf xf_262_10) (.leaf xf_262_11))) (.branch 121 (.branch 120 (.leaf xf_262_12) (.leaf xf_262_13)) (.branch 122 (.leaf xf_262_14) (.leaf xf_262_15))))
theorem xa_262 : zCdAll 262 [0, 14, 18, 19, 37, 47, 48, 49, 84, 90, 96, 102, 108, 120, 121, 122] xm_262 := zAll2_ok (P := fun t => ∃ c, zCd 262 [0, 14, 18, 19, 37, 47, 48, 49, 84, 90, 96, 102, 108, 120, 121, 122] t c ∧ xm_262.get t = zEx c) ⟨⟨_, xc_262_0, xe_262_0⟩, ⟨_, xc_262_1, xe_262_1⟩, ⟨_, xc_262_2, xe_262_2⟩, ⟨_, xc_262_3, xe_262_3⟩, ⟨_, xc_262_4, xe_262_4⟩, ⟨_, xc_262_5, xe_262_5⟩, ⟨_, xc_262_6, xe_262_6⟩, ⟨_, xc_262_7, xe_262_7⟩, ⟨_, xc_262_8, xe_262_8⟩, ⟨_, xc_262_9, xe_262_9⟩, ⟨_, xc_262_10, xe_262_10⟩, ⟨_, xc_262_11, xe_262_11⟩, ⟨_, xc_262_12, xe_262_12⟩, ⟨_, xc_262_13, xe_262_13⟩, ⟨_, xc_262_14, xe_262_14⟩, ⟨_, xc_262_15, xe_262_15⟩, trivial⟩
/-- SquareMeshModel.at -/
theorem xj_263 : ∀ pc, pI 263 pc = pJ_263 pc := fun _ => rfl
noncomputable def xb_263_0 : List zF := [zq_aldg zG0, zq_ildg zG1, zq_ildg zG2, zq_calli 198 2 9 4, zq_iret 0]
noncomputable def xf_263_0 : zE → zKn := fun E => zq_aldg zG0 (zq_ildg zG1 (zq_ildg zG2 (zq_calli 198 2 9 4 (zq_iret 0 (zNil) E) E) E) E) E
theorem xe_263_0 : xf_263_0 = zEx xb_263_0 := by
  unfold xf_263_0 xb_263_0
  rfl
theorem xc_263_0 : zCd 263 [0] 0 xb_263_0 := zc_aload_n xj_263 1 0 rfl rfl zf_ald_0 (zc_iload_n xj_263 2 1 rfl rfl zf_ild_1 (zc_iload_n xj_263 3 2 rfl rfl zf_ild_2 (zc_invokevirtual1 xj_263 6 169 198 2 291 9 4 rfl rfl rfl rfl (zc_ireturn0 xj_263 7 rfl rfl (trivial)))))
noncomputable def xm_263 : Lean.RArray (zE → zKn) := .leaf xf_263_0
theorem xa_263 : zCdAll 263 [0] xm_263 := zAll2_ok (P := fun t => ∃ c, zCd 263 [0] t c ∧ xm_263.get t = zEx c) ⟨⟨_, xc_263_0, xe_263_0⟩, trivial⟩
/-- SquareMeshModel.isTriangle -/
theorem xj_264 : ∀ pc, pI 264 pc = pJ_264 pc := fun _ => rfl
noncomputable def xb_264_0 : List zF := [zq_ildg zG1, zq_k 0, zq_aldg zG0, zq_getfg 9 zG4, zq_k 1, zq_sub, zq_calls 188 3 3, zq_iret 1]
noncomputable def xf_264_0 : zE → zKn := fun E => zq_ildg zG1 (zq_k 0 (zq_aldg zG0 (zq_getfg 9 zG4 (zq_k 1 (zq_sub (zq_calls 188 3 3 (zq_iret 1 (zNil) E) E) E) E) E) E) E) E
theorem xe_264_0 : xf_264_0 = zEx xb_264_0 := by
  unfold xf_264_0 xb_264_0
  rfl
theorem xc_264_0 : zCd 264 [0] 0 xb_264_0 := zc_iload_n xj_264 1 1 rfl rfl zf_ild_1 (zc_iconst xj_264 2 0 0 rfl rfl rfl (zc_aload_n xj_264 3 0 rfl rfl zf_ald_0 (zc_getf xj_264 6 134 9 4 98 rfl rfl (zf_getf_4 _) (zc_iconst xj_264 7 1 1 rfl rfl rfl (zc_isub xj_264 8 rfl rfl (zc_invokestatic2 xj_264 11 67 188 3 265 0 3 rfl rfl rfl rfl (zc_ireturn1 xj_264 12 rfl rfl (trivial))))))))
noncomputable def xm_264 : Lean.RArray (zE → zKn) := .leaf xf_264_0
theorem xa_264 : zCdAll 264 [0] xm_264 := zAll2_ok (P := fun t => ∃ c, zCd 264 [0] t c ∧ xm_264.get t = zEx c) ⟨⟨_, xc_264_0, xe_264_0⟩, trivial⟩
/-- SquareMeshModel.corner -/
theorem xj_265 : ∀ pc, pI 265 pc = pJ_265 pc := fun _ => rfl
noncomputable def xb_265_2 : List zF := [zq_iret 0]
noncomputable def xf_265_2 : zE → zKn := fun E => zq_iret 0 (zNil) E
theorem xe_265_2 : xf_265_2 = zEx xb_265_2 := by
  unfold xf_265_2 xb_265_2
  rfl
theorem xc_265_2 : zCd 265 [0, 26, 27] 27 xb_265_2 := zc_ireturn0 xj_265 28 rfl rfl (trivial)
noncomputable def xb_265_1 : List zF := zq_k 4294967295 :: xb_265_2
noncomputable def xf_265_1 : zE → zKn := fun E => zq_k 4294967295 (xf_265_2 E) E
theorem xe_265_1 : xf_265_1 = zEx xb_265_1 := by
  unfold xf_265_1 xb_265_1
  rw [xe_265_2]
  rfl
theorem xc_265_1 : zCd 265 [0, 26, 27] 26 xb_265_1 := zc_iconst xj_265 27 (-1) 4294967295 rfl rfl rfl (xc_265_2)
noncomputable def xb_265_0 : List zF := [zq_aldg zG0, zq_ildg zG1, zq_calli 264 1 9 2, zq_if_eq 26, zq_ildg zG2, zq_k 0, zq_k 2, zq_calls 188 3 3, zq_if_eq 26, zq_aldg zG0, zq_ildg zG1, zq_ildg zG2, zq_calli 247 2 9 3, zq_goto 27]
noncomputable def xf_265_0 : zE → zKn := fun E => zq_aldg zG0 (zq_ildg zG1 (zq_calli 264 1 9 2 (zq_if_eq 26 (zq_ildg zG2 (zq_k 0 (zq_k 2 (zq_calls 188 3 3 (zq_if_eq 26 (zq_aldg zG0 (zq_ildg zG1 (zq_ildg zG2 (zq_calli 247 2 9 3 (zq_goto 27 (zNil) E) E) E) E) E) E) E) E) E) E) E) E) E) E
theorem xe_265_0 : xf_265_0 = zEx xb_265_0 := by
  unfold xf_265_0 xb_265_0
  rfl
theorem xc_265_0 : zCd 265 [0, 26, 27] 0 xb_265_0 := zc_aload_n xj_265 1 0 rfl rfl zf_ald_0 (zc_iload_n xj_265 2 1 rfl rfl zf_ild_1 (zc_invokevirtual1 xj_265 5 269 264 1 347 9 2 rfl rfl rfl rfl (zc_if_eq xj_265 8 21 26 rfl rfl rfl (zc_iload_n xj_265 9 2 rfl rfl zf_ild_2 (zc_iconst xj_265 10 0 0 rfl rfl rfl (zc_iconst xj_265 11 2 2 rfl rfl rfl (zc_invokestatic2 xj_265 14 67 188 3 265 0 3 rfl rfl rfl rfl (zc_if_eq xj_265 17 12 26 rfl rfl rfl (zc_aload_n xj_265 18 0 rfl rfl zf_ald_0 (zc_iload_n xj_265 19 1 rfl rfl zf_ild_1 (zc_iload_n xj_265 20 2 rfl rfl zf_ild_2 (zc_invokevirtual1 xj_265 23 206 247 2 313 9 3 rfl rfl rfl rfl (zc_goto xj_265 24 4 27 rfl rfl rfl (trivial))))))))))))))
noncomputable def xm_265 : Lean.RArray (zE → zKn) := .branch 26 (.leaf xf_265_0) (.branch 27 (.leaf xf_265_1) (.leaf xf_265_2))
theorem xa_265 : zCdAll 265 [0, 26, 27] xm_265 := zAll2_ok (P := fun t => ∃ c, zCd 265 [0, 26, 27] t c ∧ xm_265.get t = zEx c) ⟨⟨_, xc_265_0, xe_265_0⟩, ⟨_, xc_265_1, xe_265_1⟩, ⟨_, xc_265_2, xe_265_2⟩, trivial⟩
/-- SquareMeshModel.beyondOf -/
theorem xj_266 : ∀ pc, pI 266 pc = pJ_266 pc := fun _ => rfl
noncomputable def xb_266_0 : List zF := [zq_aldg zG0, zq_aldg zG0, zq_ildg zG1, zq_ildg zG2, zq_k 1, zq_add, zq_calli 247 2 9 3, zq_aldg zG0, zq_ildg zG1, zq_ildg zG2, zq_calli 247 2 9 3, zN2 212 3 zg_212, zq_iret 0]
noncomputable def xf_266_0 : zE → zKn := fun E => zq_aldg zG0 (zq_aldg zG0 (zq_ildg zG1 (zq_ildg zG2 (zq_k 1 (zq_add (zq_calli 247 2 9 3 (zq_aldg zG0 (zq_ildg zG1 (zq_ildg zG2 (zq_calli 247 2 9 3 (zN2 212 3 zg_212 (zq_iret 0 (zNil) E) E) E) E) E) E) E) E) E) E) E) E) E
theorem xe_266_0 : xf_266_0 = zEx xb_266_0 := by
  unfold xf_266_0 xb_266_0
  rfl
theorem xc_266_0 : zCd 266 [0] 0 xb_266_0 := zc_aload_n xj_266 1 0 rfl rfl zf_ald_0 (zc_aload_n xj_266 2 0 rfl rfl zf_ald_0 (zc_iload_n xj_266 3 1 rfl rfl zf_ild_1 (zc_iload_n xj_266 4 2 rfl rfl zf_ild_2 (zc_iconst xj_266 5 1 1 rfl rfl rfl (zc_iadd xj_266 6 rfl rfl (zc_invokevirtual1 xj_266 9 206 247 2 313 9 3 rfl rfl rfl rfl (zc_aload_n xj_266 10 0 rfl rfl zf_ald_0 (zc_iload_n xj_266 11 1 rfl rfl zf_ild_1 (zc_iload_n xj_266 12 2 rfl rfl zf_ild_2 (zc_invokevirtual1 xj_266 15 206 247 2 313 9 3 rfl rfl rfl rfl (zc_any xj_266 18 (.invokevirtual 118) [1, 212, 2, 262, 9, 3] rfl rfl (zN2 212 3 zg_212) rfl rfl (zc_ireturn0 xj_266 19 rfl rfl (trivial)))))))))))))
noncomputable def xm_266 : Lean.RArray (zE → zKn) := .leaf xf_266_0
theorem xa_266 : zCdAll 266 [0] xm_266 := zAll2_ok (P := fun t => ∃ c, zCd 266 [0] t c ∧ xm_266.get t = zEx c) ⟨⟨_, xc_266_0, xe_266_0⟩, trivial⟩
/-- SquareMeshModel.beyond -/
theorem xj_267 : ∀ pc, pI 267 pc = pJ_267 pc := fun _ => rfl
noncomputable def xb_267_2 : List zF := [zq_iret 0]
noncomputable def xf_267_2 : zE → zKn := fun E => zq_iret 0 (zNil) E
theorem xe_267_2 : xf_267_2 = zEx xb_267_2 := by
  unfold xf_267_2 xb_267_2
  rfl
theorem xc_267_2 : zCd 267 [0, 26, 27] 27 xb_267_2 := zc_ireturn0 xj_267 28 rfl rfl (trivial)
noncomputable def xb_267_1 : List zF := zq_k 4294967295 :: xb_267_2
noncomputable def xf_267_1 : zE → zKn := fun E => zq_k 4294967295 (xf_267_2 E) E
theorem xe_267_1 : xf_267_1 = zEx xb_267_1 := by
  unfold xf_267_1 xb_267_1
  rw [xe_267_2]
  rfl
theorem xc_267_1 : zCd 267 [0, 26, 27] 26 xb_267_1 := zc_iconst xj_267 27 (-1) 4294967295 rfl rfl rfl (xc_267_2)
noncomputable def xb_267_0 : List zF := [zq_aldg zG0, zq_ildg zG1, zq_calli 264 1 9 2, zq_if_eq 26, zq_ildg zG2, zq_k 0, zq_k 2, zq_calls 188 3 3, zq_if_eq 26, zq_aldg zG0, zq_ildg zG1, zq_ildg zG2, zq_calli 266 2 9 3, zq_goto 27]
noncomputable def xf_267_0 : zE → zKn := fun E => zq_aldg zG0 (zq_ildg zG1 (zq_calli 264 1 9 2 (zq_if_eq 26 (zq_ildg zG2 (zq_k 0 (zq_k 2 (zq_calls 188 3 3 (zq_if_eq 26 (zq_aldg zG0 (zq_ildg zG1 (zq_ildg zG2 (zq_calli 266 2 9 3 (zq_goto 27 (zNil) E) E) E) E) E) E) E) E) E) E) E) E) E) E
theorem xe_267_0 : xf_267_0 = zEx xb_267_0 := by
  unfold xf_267_0 xb_267_0
  rfl
theorem xc_267_0 : zCd 267 [0, 26, 27] 0 xb_267_0 := zc_aload_n xj_267 1 0 rfl rfl zf_ald_0 (zc_iload_n xj_267 2 1 rfl rfl zf_ild_1 (zc_invokevirtual1 xj_267 5 269 264 1 347 9 2 rfl rfl rfl rfl (zc_if_eq xj_267 8 21 26 rfl rfl rfl (zc_iload_n xj_267 9 2 rfl rfl zf_ild_2 (zc_iconst xj_267 10 0 0 rfl rfl rfl (zc_iconst xj_267 11 2 2 rfl rfl rfl (zc_invokestatic2 xj_267 14 67 188 3 265 0 3 rfl rfl rfl rfl (zc_if_eq xj_267 17 12 26 rfl rfl rfl (zc_aload_n xj_267 18 0 rfl rfl zf_ald_0 (zc_iload_n xj_267 19 1 rfl rfl zf_ild_1 (zc_iload_n xj_267 20 2 rfl rfl zf_ild_2 (zc_invokevirtual1 xj_267 23 272 266 2 330 9 3 rfl rfl rfl rfl (zc_goto xj_267 24 4 27 rfl rfl rfl (trivial))))))))))))))
noncomputable def xm_267 : Lean.RArray (zE → zKn) := .branch 26 (.leaf xf_267_0) (.branch 27 (.leaf xf_267_1) (.leaf xf_267_2))
theorem xa_267 : zCdAll 267 [0, 26, 27] xm_267 := zAll2_ok (P := fun t => ∃ c, zCd 267 [0, 26, 27] t c ∧ xm_267.get t = zEx c) ⟨⟨_, xc_267_0, xe_267_0⟩, ⟨_, xc_267_1, xe_267_1⟩, ⟨_, xc_267_2, xe_267_2⟩, trivial⟩
/-- SquareMeshModel.area -/
theorem xj_268 : ∀ pc, pI 268 pc = pJ_268 pc := fun _ => rfl
noncomputable def xb_268_2 : List zF := [zq_iret 0]
noncomputable def xf_268_2 : zE → zKn := fun E => zq_iret 0 (zNil) E
theorem xe_268_2 : xf_268_2 = zEx xb_268_2 := by
  unfold xf_268_2 xb_268_2
  rfl
theorem xc_268_2 : zCd 268 [0, 16, 17] 17 xb_268_2 := zc_ireturn0 xj_268 18 rfl rfl (trivial)
noncomputable def xb_268_1 : List zF := zq_k 4294967295 :: xb_268_2
noncomputable def xf_268_1 : zE → zKn := fun E => zq_k 4294967295 (xf_268_2 E) E
theorem xe_268_1 : xf_268_1 = zEx xb_268_1 := by
  unfold xf_268_1 xb_268_1
  rw [xe_268_2]
  rfl
theorem xc_268_1 : zCd 268 [0, 16, 17] 16 xb_268_1 := zc_iconst xj_268 17 (-1) 4294967295 rfl rfl rfl (xc_268_2)
noncomputable def xb_268_0 : List zF := [zq_aldg zG0, zq_ildg zG1, zq_calli 264 1 9 2, zq_if_eq 16, zq_aldg zG0, zq_ildg zG1, zq_calli 250 1 9 2, zq_goto 17]
noncomputable def xf_268_0 : zE → zKn := fun E => zq_aldg zG0 (zq_ildg zG1 (zq_calli 264 1 9 2 (zq_if_eq 16 (zq_aldg zG0 (zq_ildg zG1 (zq_calli 250 1 9 2 (zq_goto 17 (zNil) E) E) E) E) E) E) E) E
theorem xe_268_0 : xf_268_0 = zEx xb_268_0 := by
  unfold xf_268_0 xb_268_0
  rfl
theorem xc_268_0 : zCd 268 [0, 16, 17] 0 xb_268_0 := zc_aload_n xj_268 1 0 rfl rfl zf_ald_0 (zc_iload_n xj_268 2 1 rfl rfl zf_ild_1 (zc_invokevirtual1 xj_268 5 269 264 1 347 9 2 rfl rfl rfl rfl (zc_if_eq xj_268 8 11 16 rfl rfl rfl (zc_aload_n xj_268 9 0 rfl rfl zf_ald_0 (zc_iload_n xj_268 10 1 rfl rfl zf_ild_1 (zc_invokevirtual1 xj_268 13 212 250 1 312 9 2 rfl rfl rfl rfl (zc_goto xj_268 14 4 17 rfl rfl rfl (trivial))))))))
noncomputable def xm_268 : Lean.RArray (zE → zKn) := .branch 16 (.leaf xf_268_0) (.branch 17 (.leaf xf_268_1) (.leaf xf_268_2))
theorem xa_268 : zCdAll 268 [0, 16, 17] xm_268 := zAll2_ok (P := fun t => ∃ c, zCd 268 [0, 16, 17] t c ∧ xm_268.get t = zEx c) ⟨⟨_, xc_268_0, xe_268_0⟩, ⟨_, xc_268_1, xe_268_1⟩, ⟨_, xc_268_2, xe_268_2⟩, trivial⟩
