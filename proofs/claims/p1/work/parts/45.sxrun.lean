/-! THE MACHINE FOR THE KERNEL: which leaf an instruction becomes; a run of leaves is a run of the plain machine. By hand. -/
noncomputable def zGd (b : Bool) (x : zF) : zF := bif b then x else zq_bad
theorem zGd_s {ρ : Nat → Int} {T : List Nat} {nx : Nat} {K : Prop} {f : pLv → List Value → pW → Option pOut} {b : Bool} {x : zF} (h : b = true → zS ρ T nx K f x) : zS ρ T nx K f (zGd b x) := by
  cases b
  · exact zs_bad
  · exact h rfl
def zIok (lo hi : Int) (n : Nat) : Bool := !(zIneg lo) && zIz (hi + 1 - lo - (n : Int)) && zLe (hi + 1) 1000000
noncomputable def zCi (c : Jvm.ClassFile.Cond) (t : Nat) : zF := match c with
  | .eq => zq_if_eq t
  | .ne => zq_if_ne t
  | .lt => zq_if_lt t
  | .ge => zq_if_ge t
  | .gt => zq_if_gt t
  | .le => zq_if_le t
noncomputable def zCi2 (c : Jvm.ClassFile.Cond) (t : Nat) : zF := match c with
  | .eq => zq_ic_eq t
  | .ne => zq_ic_ne t
  | .lt => zq_ic_lt t
  | .ge => zq_ic_ge t
  | .gt => zq_ic_gt t
  | .le => zq_ic_le t
noncomputable def zK1 (dt : List Nat) : zF := match dt with
  | [v] => zGd (Nat.ble v 4294967295) (zq_k v)
  | _ => zq_bad
noncomputable def zLdc (dt : List Nat) : zF := match dt with
  | [v, _] => zGd (Nat.ble v 4294967295) (zq_k v)
  | _ => zq_bad
noncomputable def zLdc2 (dt : List Nat) : zF := match dt with
  | [v, _] => zGd (Nat.ble v 18446744073709551615) (zq_kl v)
  | _ => zq_bad
noncomputable def zT1 (g : Nat → zF) (dt : List Nat) : zF := match dt with
  | [t] => g t
  | _ => zq_bad
noncomputable def zTab (lo hi : Int) (dt : List Nat) : zF := match dt with
  | d :: ts => zGd (zIok lo hi ts.length) (zq_tab lo.toNat ts d)
  | _ => zq_bad
noncomputable def zGf (dt : List Nat) : zF := match dt with
  | [ci, k, _] => zq_getf ci k
  | _ => zq_bad
noncomputable def zPf (dt : List Nat) : zF := match dt with
  | [ci, k, _] => zq_putf ci k (zTy (pTf ci k))
  | _ => zq_bad
noncomputable def zNo2 (dt : List Nat) : zF := match dt with
  | [ci, n, _] => zq_newo ci ((List.range n).map (fun j => zDf (pTf ci j)))
  | _ => zq_bad
noncomputable def zNt (j n mx : Nat) : zF := bif Nat.beq j 356 && Nat.beq n 2 then zGd (Nat.ble 2 mx) zq_fill else bif Nat.beq j 355 && Nat.beq n 2 then zGd (Nat.ble 3 mx) zq_filll else bif Nat.beq j 187 && Nat.beq n 2 then zGd (Nat.ble 2 mx) zq_cpall else zGd (Nat.ble j 356 && Nat.ble mx 999) (zq_calls j n mx)
noncomputable def zNv (j n ci mx : Nat) : zF :=
  bif Nat.beq n 1 && (Nat.beq ci 9 && (Nat.ble 2 mx && Nat.ble mx 999)) then
    (bif Nat.beq j 191 then zN1 191 mx zg_191 else bif Nat.beq j 192 then zN1 192 mx zg_192 else bif Nat.beq j 193 then zN1 193 mx zg_193 else zGd (Nat.ble j 356 && Nat.ble mx 999) (zq_calli j n ci mx))
  else bif Nat.beq n 2 && (Nat.beq ci 9 && (Nat.ble 3 mx && Nat.ble mx 999)) then
    (bif Nat.beq j 196 then zN2 196 mx zg_196 else bif Nat.beq j 208 then zN2 208 mx zg_208 else bif Nat.beq j 212 then zN2 212 mx zg_212 else bif Nat.beq j 213 then zN2 213 mx zg_213 else bif Nat.beq j 217 then zN2 217 mx zg_217 else zGd (Nat.ble j 356 && Nat.ble mx 999) (zq_calli j n ci mx))
  else zGd (Nat.ble j 356 && Nat.ble mx 999) (zq_calli j n ci mx)
noncomputable def zIv (dt : List Nat) : zF := match dt with
  | [kd, j, n, _, ci, mx] => (match kd with
    | 0 => zq_call0
    | 1 => zNv j n ci mx
    | 2 => zNt j n mx
    | 3 => zGd (Nat.ble j 356 && Nat.ble mx 999) (zq_calli j n ci mx)
    | 4 => zNt j n mx
    | 5 => zGd (Nat.ble j 356 && Nat.ble mx 999) (zq_calli j n ci mx)
    | 7 => zq_copy
    | _ => zq_bad)
  | _ => zq_bad
noncomputable def zRt (dt : List Nat) : zF := match dt with
  | [0] => zq_iret 0
  | [1] => zq_iret 1
  | _ => zq_bad
/-- which leaf -/
noncomputable def zCp (ins : Instr) (dt : List Nat) : zF := match ins with
  | .iconst _ => zK1 dt
  | .bipush _ => zK1 dt
  | .sipush _ => zK1 dt
  | .lconst n => zq_kl (n : Nat)
  | .iload_n k => zq_ild k
  | .iload k => zq_ild k
  | .lload_n k => zq_lld k
  | .lload k => zq_lld k
  | .aload_n k => zq_ald k
  | .istore_n k => zq_ist k
  | .istore k => zq_ist k
  | .lstore_n k => zq_lst k
  | .lstore k => zq_lst k
  | .astore_n k => zq_ast k
  | .iinc k n => zq_inc k (zN n)
  | .iadd => zq_add
  | .isub => zq_sub
  | .imul => zq_mul
  | .iand => zq_and
  | .ixor => zq_xor
  | .idiv => zq_div
  | .irem => zq_rem
  | .ineg => zq_neg
  | .ladd => zq_ladd
  | .lsub => zq_lsub
  | .lmul => zq_lmul
  | .land => zq_land
  | .lor => zq_lor
  | .lxor => zq_lxor
  | .ldiv => zq_ldiv
  | .lneg => zq_lneg
  | .i2l => zq_i2l
  | .l2i => zq_l2i
  | .lushr => zq_lushr
  | .lshl => zq_lshl
  | .lcmp => zq_lcmp
  | .dup => zq_dup
  | .pop => zq_pop
  | .dup2 => zq_dup2
  | .ifCond c _ => zT1 (zCi c) dt
  | .if_icmp c _ => zT1 (zCi2 c) dt
  | .goto _ => zT1 zq_goto dt
  | .tableswitch _ lo hi _ => zTab lo hi dt
  | .ldc _ => zLdc dt
  | .ldc_w _ => zLdc dt
  | .ldc2_w _ => zLdc2 dt
  | .getfield _ => zGf dt
  | .putfield _ => zPf dt
  | .iaload => zq_ild_ 0
  | .baload => zq_ild_ 2
  | .laload => zq_ild_ 1
  | .iastore => zq_iast
  | .bastore => zq_bast
  | .lastore => zq_last
  | .arraylength => zq_len
  | .newarray _ => zT1 zq_newa dt
  | .new _ => zNo2 dt
  | .invokevirtual _ => zIv dt
  | .invokespecial _ => zIv dt
  | .invokestatic _ => zIv dt
  | .ireturn => zRt dt
  | .lreturn => zq_lret
  | .return_ => zq_vret
  | _ => zq_bad
def zLen (ins : Instr) : Nat := match ins with
  | .bipush _ => 2
  | .sipush _ => 3
  | .iload _ => 2
  | .lload _ => 2
  | .istore _ => 2
  | .lstore _ => 2
  | .iinc _ _ => 3
  | .ifCond _ _ => 3
  | .if_icmp _ _ => 3
  | .ldc _ => 2
  | .ldc_w _ => 3
  | .ldc2_w _ => 3
  | .getfield _ => 3
  | .putfield _ => 3
  | .newarray _ => 2
  | .new _ => 3
  | .invokevirtual _ => 3
  | .invokespecial _ => 3
  | .invokestatic _ => 3
  | _ => 1
/-- where a branch leads -/
def zTg (ins : Instr) (dt : List Nat) : List Nat := match ins with
  | .ifCond _ _ => dt
  | .if_icmp _ _ => dt
  | .goto _ => dt
  | .tableswitch _ _ _ _ => dt
  | _ => []
section CP
variable {ρ : Nat → Int} {T : List Nat} {pc : Nat}
theorem zK1_s {nx : Nat} {K : Prop} {dt : List Nat} : zS ρ T nx K (fun lv st w => pK1 nx dt lv st w) (zK1 dt) := by
  rcases dt with _ | ⟨v, _ | ⟨_, _⟩⟩
  · exact zs_bad
  · exact zGd_s (fun h => zs_k (Nat.lt_of_le_of_lt (pBle h) (by decide)))
  · exact zs_bad
theorem zLdc_s {nx : Nat} {K : Prop} {dt : List Nat} : zS ρ T nx K (fun lv st w => pLdc nx dt lv st w) (zLdc dt) := by
  rcases dt with _ | ⟨v, _ | ⟨x, _ | ⟨_, _⟩⟩⟩
  · exact zs_bad
  · exact zs_bad
  · exact zGd_s (fun h => zs_k (Nat.lt_of_le_of_lt (pBle h) (by decide)))
  · exact zs_bad
theorem zLdc2_s {nx : Nat} {K : Prop} {dt : List Nat} : zS ρ T nx K (fun lv st w => pLdc2 nx dt lv st w) (zLdc2 dt) := by
  rcases dt with _ | ⟨v, _ | ⟨x, _ | ⟨_, _⟩⟩⟩
  · exact zs_bad
  · exact zs_bad
  · exact zGd_s (fun h => zs_kl (Nat.lt_of_le_of_lt (pBle h) (by decide)))
  · exact zs_bad
theorem zCi_s {K : Prop} {c : Jvm.ClassFile.Cond} {dt : List Nat} (ht : ∀ t, t ∈ dt → t ∈ T) : zS ρ T (pc + 3) K (fun lv st w => pIfC c pc dt lv st w) (zT1 (zCi c) dt) := by
  rcases dt with _ | ⟨t, _ | ⟨_, _⟩⟩
  · exact zs_bad
  · have ht := ht t List.mem_cons_self
    cases c
    · exact zs_if_eq ht
    · exact zs_if_ne ht
    · exact zs_if_lt ht
    · exact zs_if_ge ht
    · exact zs_if_gt ht
    · exact zs_if_le ht
  · exact zs_bad
theorem zCi2_s {K : Prop} {c : Jvm.ClassFile.Cond} {dt : List Nat} (ht : ∀ t, t ∈ dt → t ∈ T) : zS ρ T (pc + 3) K (fun lv st w => pIfC2 c pc dt lv st w) (zT1 (zCi2 c) dt) := by
  rcases dt with _ | ⟨t, _ | ⟨_, _⟩⟩
  · exact zs_bad
  · have ht := ht t List.mem_cons_self
    cases c
    · exact zs_ic_eq ht
    · exact zs_ic_ne ht
    · exact zs_ic_lt ht
    · exact zs_ic_ge ht
    · exact zs_ic_gt ht
    · exact zs_ic_le ht
  · exact zs_bad
theorem zGo_s {nx : Nat} {K : Prop} {dt : List Nat} (ht : ∀ t, t ∈ dt → t ∈ T) : zS ρ T nx K (fun lv st w => pGoto dt lv st w) (zT1 zq_goto dt) := by
  rcases dt with _ | ⟨t, _ | ⟨_, _⟩⟩
  · exact zs_bad
  · exact zs_goto (ht t List.mem_cons_self)
  · exact zs_bad
theorem zTab_s {nx : Nat} {K : Prop} {lo hi : Int} {dt : List Nat} (ht : ∀ t, t ∈ dt → t ∈ T) : zS ρ T nx K (fun lv st w => pTab lo hi dt lv st w) (zTab lo hi dt) := by
  rcases dt with _ | ⟨d, ts⟩
  · exact zs_bad
  · refine zGd_s (fun h => ?_)
    unfold zIok at h
    rw [Bool.and_eq_true, Bool.and_eq_true, Bool.not_eq_true'] at h
    have h1 := zIneg_f h.1.1
    have h2 := zIz_ok h.1.2
    have h3 := zLe_ok h.2
    exact zs_tab h1 (by omega) (by omega) (ht d List.mem_cons_self) (fun t hm => ht t (List.mem_cons_of_mem _ hm))
theorem zGf_s {nx : Nat} {K : Prop} {dt : List Nat} : zS ρ T nx K (fun lv st w => pGetF nx dt lv st w) (zGf dt) := by
  rcases dt with _ | ⟨a, _ | ⟨b, _ | ⟨c, _ | ⟨_, _⟩⟩⟩⟩
  · exact zs_bad
  · exact zs_bad
  · exact zs_bad
  · exact zs_getf
  · exact zs_bad
theorem zPf_s {nx : Nat} {K : Prop} {dt : List Nat} : zS ρ T nx K (fun lv st w => pPutF nx dt lv st w) (zPf dt) := by
  rcases dt with _ | ⟨a, _ | ⟨b, _ | ⟨c, _ | ⟨_, _⟩⟩⟩⟩
  · exact zs_bad
  · exact zs_bad
  · exact zs_bad
  · exact zs_putf
  · exact zs_bad
theorem zNo2_s {nx : Nat} {K : Prop} {dt : List Nat} : zS ρ T nx K (fun lv st w => pNewO nx dt lv st w) (zNo2 dt) := by
  rcases dt with _ | ⟨a, _ | ⟨b, _ | ⟨c, _ | ⟨_, _⟩⟩⟩⟩
  · exact zs_bad
  · exact zs_bad
  · exact zs_bad
  · exact zs_newo
  · exact zs_bad
theorem zNa_s {nx : Nat} {K : Prop} {dt : List Nat} : zS ρ T nx K (fun lv st w => pNewA nx dt lv st w) (zT1 zq_newa dt) := by
  rcases dt with _ | ⟨a, _ | ⟨_, _⟩⟩
  · exact zs_bad
  · exact zs_newa
  · exact zs_bad
theorem zNt_s {nx : Nat} {K : Prop} {j n mx : Nat} (hK : K) : zS ρ T nx K (fun _ st _ => pCallS j n mx st) (zNt j n mx) := by
  unfold zNt
  cases h : (Nat.beq j 356 && Nat.beq n 2) with
  | true =>
    rw [Bool.and_eq_true] at h
    have h1 := pBeq h.1
    have h2 := pBeq h.2
    subst h1
    subst h2
    exact zGd_s (fun h => zs_fill hK (pBle h))
  | false =>
    cases h : (Nat.beq j 355 && Nat.beq n 2) with
    | true =>
      rw [Bool.and_eq_true] at h
      have h1 := pBeq h.1
      have h2 := pBeq h.2
      subst h1
      subst h2
      exact zGd_s (fun h => zs_filll hK (pBle h))
    | false =>
      cases h : (Nat.beq j 187 && Nat.beq n 2) with
      | true =>
        rw [Bool.and_eq_true] at h
        have h1 := pBeq h.1
        have h2 := pBeq h.2
        subst h1
        subst h2
        exact zGd_s (fun h => zs_cpall hK (pBle h))
      | false =>
        refine zGd_s (fun h => ?_)
        rw [Bool.and_eq_true] at h
        exact zs_calls hK (Nat.lt_succ_of_le (pBle h.1)) (Nat.lt_succ_of_le (pBle h.2))
theorem zCI_s {nx : Nat} {K : Prop} {j n ci mx : Nat} (hK : K) : zS ρ T nx K (fun _ st w => pCallI j n ci mx st w) (zGd (Nat.ble j 356 && Nat.ble mx 999) (zq_calli j n ci mx)) := by
  refine zGd_s (fun h => ?_)
  rw [Bool.and_eq_true] at h
  exact zs_calli hK (Nat.lt_succ_of_le (pBle h.1)) (Nat.lt_succ_of_le (pBle h.2))
theorem zNv_s {nx : Nat} {K : Prop} {j n ci mx : Nat} (hK : K) : zS ρ T nx K (fun _ st w => pCallI j n ci mx st w) (zNv j n ci mx) := by
  unfold zNv
  cases h : (Nat.beq n 1 && (Nat.beq ci 9 && (Nat.ble 2 mx && Nat.ble mx 999))) with
  | true =>
    rw [Bool.and_eq_true, Bool.and_eq_true, Bool.and_eq_true] at h
    obtain ⟨h1, h2, h3, h4⟩ := h
    have h1 := pBeq h1
    have h2 := pBeq h2
    have h3 := pBle h3
    have h4 := Nat.lt_succ_of_le (pBle h4)
    subst h1
    subst h2
    cases e : Nat.beq j 191 with
    | true =>
      have e := pBeq e
      subst e
      exact zs_N1 zg_191_ok hK (by decide) h3 h4
    | false =>
      cases e : Nat.beq j 192 with
      | true =>
        have e := pBeq e
        subst e
        exact zs_N1 zg_192_ok hK (by decide) h3 h4
      | false =>
        cases e : Nat.beq j 193 with
        | true =>
          have e := pBeq e
          subst e
          exact zs_N1 zg_193_ok hK (by decide) h3 h4
        | false => exact zCI_s hK
  | false =>
    cases h : (Nat.beq n 2 && (Nat.beq ci 9 && (Nat.ble 3 mx && Nat.ble mx 999))) with
    | true =>
      rw [Bool.and_eq_true, Bool.and_eq_true, Bool.and_eq_true] at h
      obtain ⟨h1, h2, h3, h4⟩ := h
      have h1 := pBeq h1
      have h2 := pBeq h2
      have h3 := pBle h3
      have h4 := Nat.lt_succ_of_le (pBle h4)
      subst h1
      subst h2
      cases e : Nat.beq j 196 with
      | true =>
        have e := pBeq e
        subst e
        exact zs_N2 zg_196_ok hK (by decide) h3 h4
      | false =>
        cases e : Nat.beq j 208 with
        | true =>
          have e := pBeq e
          subst e
          exact zs_N2 zg_208_ok hK (by decide) h3 h4
        | false =>
          cases e : Nat.beq j 212 with
          | true =>
            have e := pBeq e
            subst e
            exact zs_N2 zg_212_ok hK (by decide) h3 h4
          | false =>
            cases e : Nat.beq j 213 with
            | true =>
              have e := pBeq e
              subst e
              exact zs_N2 zg_213_ok hK (by decide) h3 h4
            | false =>
              cases e : Nat.beq j 217 with
              | true =>
                have e := pBeq e
                subst e
                exact zs_N2 zg_217_ok hK (by decide) h3 h4
              | false => exact zCI_s hK
    | false => exact zCI_s hK
theorem zIv_s {dt : List Nat} : zS ρ T (pc + 3) (pc + 3 = pc + 3) (fun lv st w => pCall pc dt lv st w) (zIv dt) := by
  rcases dt with _ | ⟨kd, _ | ⟨j, _ | ⟨n, _ | ⟨e, _ | ⟨ci, _ | ⟨mx, _ | ⟨_, _⟩⟩⟩⟩⟩⟩⟩
  · exact zs_bad
  · exact zs_bad
  · exact zs_bad
  · exact zs_bad
  · exact zs_bad
  · exact zs_bad
  · rcases kd with _ | _ | _ | _ | _ | _ | _ | _ | kd
    · exact zs_call0 rfl
    · exact zNv_s rfl
    · exact zNt_s rfl
    · exact zCI_s rfl
    · exact zNt_s rfl
    · exact zCI_s rfl
    · exact zs_bad
    · exact zs_copy rfl
    · exact zs_bad
  · exact zs_bad
theorem zRt_s {nx : Nat} {K : Prop} {dt : List Nat} : zS ρ T nx K (fun _ st _ => pIret dt st) (zRt dt) := by
  rcases dt with _ | ⟨_ | _ | a, _ | ⟨_, _⟩⟩
  · exact zs_bad
  · exact zs_iret0
  · exact zs_bad
  · exact zs_iret1
  · exact zs_bad
  · exact zs_bad
  · exact zs_bad
theorem zCp_s {ins : Instr} {dt : List Nat} (ht : ∀ t, t ∈ zTg ins dt → t ∈ T) : zS ρ T (pc + zLen ins) (pc + zLen ins = pc + 3) (fun lv st w => pS1 ins pc dt lv st w) (zCp ins dt) := by
  cases ins
  case iconst n => exact zK1_s
  case bipush n => exact zK1_s
  case sipush n => exact zK1_s
  case lconst n => exact zs_kl (by have := n.isLt; omega)
  case iload_n k => exact zs_ild
  case iload k => exact zs_ild
  case lload_n k => exact zs_lld
  case lload k => exact zs_lld
  case aload_n k => exact zs_ald
  case istore_n k => exact zs_ist
  case istore k => exact zs_ist
  case lstore_n k => exact zs_lst
  case lstore k => exact zs_lst
  case astore_n k => exact zs_ast
  case iinc k n => exact zs_inc
  case iadd => exact zs_add
  case isub => exact zs_sub
  case imul => exact zs_mul
  case iand => exact zs_and
  case ixor => exact zs_xor
  case idiv => exact zs_div
  case irem => exact zs_rem
  case ineg => exact zs_neg
  case ladd => exact zs_ladd
  case lsub => exact zs_lsub
  case lmul => exact zs_lmul
  case land => exact zs_land
  case lor => exact zs_lor
  case lxor => exact zs_lxor
  case ldiv => exact zs_ldiv
  case lneg => exact zs_lneg
  case i2l => exact zs_i2l
  case l2i => exact zs_l2i
  case lushr => exact zs_lushr
  case lshl => exact zs_lshl
  case lcmp => exact zs_lcmp
  case dup => exact zs_dup
  case pop => exact zs_pop
  case dup2 => exact zs_dup2
  case ifCond c o => exact zCi_s ht
  case if_icmp c o => exact zCi2_s ht
  case goto o => exact zGo_s ht
  case tableswitch a lo hi os => exact zTab_s ht
  case ldc i => exact zLdc_s
  case ldc_w i => exact zLdc_s
  case ldc2_w i => exact zLdc2_s
  case getfield i => exact zGf_s
  case putfield i => exact zPf_s
  case iaload => exact zs_ildk (by decide) (by decide)
  case baload => exact zs_ildk (by decide) (by decide)
  case laload => exact zs_lldk
  case iastore => exact zs_iast
  case bastore => exact zs_bast
  case lastore => exact zs_last
  case arraylength => exact zs_len
  case newarray t => exact zNa_s
  case new i => exact zNo2_s
  case invokevirtual i => exact zIv_s
  case invokespecial i => exact zIv_s
  case invokestatic i => exact zIv_s
  case ireturn => exact zRt_s
  case lreturn => exact zs_lret
  case return_ => exact zs_vret
  all_goals exact zs_bad
end CP
/-- these leaves are the code of method i from pc on -/
def zCd (i : Nat) (T : List Nat) : Nat → List zF → Prop
  | _, [] => True
  | pc, x :: c => ∃ ins dt, pI i pc = some (ins, dt) ∧ x = zCp ins dt ∧ (∀ t, t ∈ zTg ins dt → t ∈ T) ∧ zCd i T (pc + zLen ins) c
def zCdAll (i : Nat) (T : List Nat) (M : Lean.RArray (zE → zKn)) : Prop := ∀ t, t ∈ T → ∃ c, zCd i T t c ∧ M.get t = zEx c
/-- a run that ends well -/
def zOk (ρ : Nat → Int) (i : Nat) (kr : Option zV → zW → zR) (pc : Nat) (L S : List zV) (W : zW) (v : Option zV × zW) : Prop := ∃ r W1, kr r W1 = some v ∧ ∀ lv st w, yL ρ L lv → yT ρ S st → yW ρ W w → ∃ cr w1, yO ρ r cr ∧ yW ρ W1 w1 ∧ pRest i (pc, lv, st, w) cr w1
theorem zEx_ok {ρ : Nat → Int} {i : Nat} {T : List Nat} {kr : Option zV → zW → zR} {E : zE} (hj : ∀ t L S W v, t ∈ T → E.1 t L S W = some v → zOk ρ i kr t L S W v)
    (hc : ∀ j as L S W kn v, j < 357 → E.2.1 j as L S W kn = some v → ∃ r W1, (Option.rec (motive := fun _ => zR) (kn L S W1) (fun u => kn L (u :: S) W1) r) = some v ∧ ∀ cas w, yT ρ as cas → yW ρ W w → ∃ cr w1, yO ρ r cr ∧ yW ρ W1 w1 ∧ pRun j cas w cr w1)
    (hr : ∀ r W v, E.2.2 r W = some v → kr r W = some v) :
    ∀ (c : List zF) (pc : Nat) (L S : List zV) (W : zW) (v : Option zV × zW), zCd i T pc c → zEx c E L S W = some v → zOk ρ i kr pc L S W v := by
  intro c
  induction c with
  | nil => intro pc L S W v _ h; cases h
  | cons x c ih =>
    intro pc L S W v hC h
    obtain ⟨ins, dt, hI, rfl, ht, hC⟩ := hC
    rcases zCp_s (ρ := ρ) (pc := pc) ht _ _ _ _ _ _ h with ⟨L', S', W', h, H⟩ | ⟨t, L', S', W', hm, h, H⟩ | ⟨hK, j, as, S', hj9, h, H⟩ | ⟨r, h, H⟩ | ⟨hK, S', W', h, H⟩
    · obtain ⟨r, W1, hk, G⟩ := ih _ _ _ _ _ hC h
      refine ⟨r, W1, hk, fun lv st w hL hT hW => ?_⟩
      obtain ⟨lv', st', w', a1, a2, a3, hS⟩ := H lv st w hL hT hW
      obtain ⟨cr, w1, b1, b2, b3⟩ := G lv' st' w' a1 a2 a3
      exact ⟨cr, w1, b1, b2, pr_go hI hS b3⟩
    · obtain ⟨r, W1, hk, G⟩ := hj _ _ _ _ _ hm h
      refine ⟨r, W1, hk, fun lv st w hL hT hW => ?_⟩
      obtain ⟨lv', st', w', a1, a2, a3, hS⟩ := H lv st w hL hT hW
      obtain ⟨cr, w1, b1, b2, b3⟩ := G lv' st' w' a1 a2 a3
      exact ⟨cr, w1, b1, b2, pr_go hI hS b3⟩
    · obtain ⟨r2, W2, h, HR⟩ := hc _ _ _ _ _ _ _ hj9 h
      rw [hK] at hC
      cases r2 with
      | none =>
        obtain ⟨r, W1, hk, G⟩ := ih _ _ _ _ _ hC h
        refine ⟨r, W1, hk, fun lv st w hL hT hW => ?_⟩
        obtain ⟨cas, st', a1, a2, hS⟩ := H lv st w hL hT hW
        obtain ⟨cr2, w2, c1, c2, c3⟩ := HR cas w a1 hW
        cases cr2 with
        | some y => exact c1.elim
        | none =>
          obtain ⟨cr, w1, b1, b2, b3⟩ := G lv st' w2 hL a2 c2
          exact ⟨cr, w1, b1, b2, pr_call hI hS c3 b3⟩
      | some u =>
        obtain ⟨r, W1, hk, G⟩ := ih _ _ _ _ _ hC h
        refine ⟨r, W1, hk, fun lv st w hL hT hW => ?_⟩
        obtain ⟨cas, st', a1, a2, hS⟩ := H lv st w hL hT hW
        obtain ⟨cr2, w2, c1, c2, c3⟩ := HR cas w a1 hW
        cases cr2 with
        | none => exact c1.elim
        | some y =>
          obtain ⟨cr, w1, b1, b2, b3⟩ := G lv (y :: st') w2 hL ⟨c1, a2⟩ c2
          exact ⟨cr, w1, b1, b2, pr_call hI hS c3 b3⟩
    · refine ⟨r, W, hr _ _ _ h, fun lv st w hL hT hW => ?_⟩
      obtain ⟨cr, b1, hS⟩ := H lv st w hL hT hW
      exact ⟨cr, w, b1, hW, pr_ret hI hS⟩
    · obtain ⟨r, W1, hk, G⟩ := ih _ _ _ _ _ hC h
      refine ⟨r, W1, hk, fun lv st w hL hT hW => ?_⟩
      obtain ⟨j, cas, st', r2, w2, hS, hrun, a2, a3⟩ := H lv st w hL hT hW
      obtain ⟨cr, w1, b1, b2, b3⟩ := G lv _ w2 hL a2 a3
      rw [hK] at b3
      exact ⟨cr, w1, b1, b2, pr_call hI hS hrun b3⟩
def zMok (MM : Lean.RArray (Lean.RArray (zE → zKn))) : Prop := ∀ j, j < 357 → ∃ T, 0 ∈ T ∧ zCdAll j T (MM.get j)
theorem zRun_ok {ρ : Nat → Int} {MM : Lean.RArray (Lean.RArray (zE → zKn))} (hM : zMok MM) : ∀ (n i : Nat) (M : Lean.RArray (zE → zKn)) (T : List Nat) (kr : Option zV → zW → zR) (t : Nat) (L S : List zV) (W : zW) (v : Option zV × zW), zCdAll i T M → t ∈ T → zRun MM n M kr t L S W = some v → zOk ρ i kr t L S W v := by
  intro n
  induction n with
  | zero => intro i M T kr t L S W v _ _ h; cases h
  | succ n ih =>
    intro i M T kr t L S W v hC ht h
    obtain ⟨c, hc, e⟩ := hC t ht
    refine zEx_ok (T := T) (E := (zRun MM n M kr, fun j as L S W kn => zLoc as (fun L1 => zRun MM n (MM.get j) (fun r W1 => Option.rec (motive := fun _ => zR) (kn L S W1) (fun v => kn L (v :: S) W1) r) 0 L1 [] W), kr)) (fun t L S W v ht h => ih i M T kr t L S W v hC ht h) (fun j as L S W kn v hj h => ?_) (fun r W v h => h) c t L S W v hc (by
      have h : M.get t (zRun MM n M kr, fun j as L S W kn => zLoc as (fun L1 => zRun MM n (MM.get j) (fun r W1 => Option.rec (motive := fun _ => zR) (kn L S W1) (fun v => kn L (v :: S) W1) r) 0 L1 [] W), kr) L S W = some v := h
      rw [e] at h
      exact h)
    obtain ⟨L1, h, hl⟩ := zLoc_ok h
    obtain ⟨T', h0, hC'⟩ := hM j hj
    obtain ⟨r, W1, hk, G⟩ := ih j (MM.get j) T' _ 0 L1 [] W v hC' h0 h
    refine ⟨r, W1, hk, fun cas w ha hW => ?_⟩
    obtain ⟨cr, w1, b1, b2, b3⟩ := G (lv_args 0 cas) [] w (fun i v hv => by
      have := hl ρ cas 0 ha i v hv
      rw [Nat.zero_add] at this
      exact this) trivial hW
    exact ⟨cr, w1, b1, b2, pr_run rfl b3⟩
/-- a whole call -/
noncomputable def zGo (MM : Lean.RArray (Lean.RArray (zE → zKn))) (n j : Nat) (as : List zV) (W : zW) (kr : Option zV → zW → zR) : zR := zLoc as (fun L => zRun MM n (MM.get j) kr 0 L [] W)
theorem zGo_ok {ρ : Nat → Int} {MM : Lean.RArray (Lean.RArray (zE → zKn))} (hM : zMok MM) {n j : Nat} {as : List zV} {W : zW} {kr : Option zV → zW → zR} {v : Option zV × zW} (hj : j < 357) (h : zGo MM n j as W kr = some v) : ∃ r W1, kr r W1 = some v ∧ ∀ cas w, yT ρ as cas → yW ρ W w → ∃ cr w1, yO ρ r cr ∧ yW ρ W1 w1 ∧ pRun j cas w cr w1 := by
  obtain ⟨L1, h, hl⟩ := zLoc_ok h
  obtain ⟨T', h0, hC'⟩ := hM j hj
  obtain ⟨r, W1, hk, G⟩ := zRun_ok hM n j (MM.get j) T' kr 0 L1 [] W v hC' h0 h
  refine ⟨r, W1, hk, fun cas w ha hW => ?_⟩
  obtain ⟨cr, w1, b1, b2, b3⟩ := G (lv_args 0 cas) [] w (fun i v hv => by
    have := hl ρ cas 0 ha i v hv
    rw [Nat.zero_add] at this
    exact this) trivial hW
  exact ⟨cr, w1, b1, b2, pr_run rfl b3⟩
