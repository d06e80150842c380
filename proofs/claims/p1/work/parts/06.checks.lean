/-! CHECKS OF THE CODE: each leaf of the tries is the instruction that the bytes decode to there, and its data are the tables'. By program (wip/tools/gen4.py). -/
def pLen (ins : Instr) (pc : Nat) : Nat := match ins with
  | .bipush _ | .iload _ | .lload _ | .istore _ | .lstore _ | .ldc _ | .newarray _ => 2
  | .sipush _ | .ifCond _ _ | .if_icmp _ _ | .goto _ | .iinc _ _ | .getfield _ | .putfield _ | .invokevirtual _ | .invokespecial _ | .invokestatic _ | .new _ | .ldc_w _ | .ldc2_w _ => 3
  | .tableswitch _ lo hi _ => 13 + (3 - pc % 4) + 4 * (hi - lo + 1).toNat
  | _ => 1
def pCallOK (i idx : Nat) (ks : List Nat) (dt : List Nat) : Bool := match dt with
  | [kd, j, n, e, ci, mx] => ks.contains kd && (match pCaL[e]? with
      | some q => Nat.beq q.1 (pO i) && Nat.beq q.2.1 idx && Nat.beq q.2.2.1 kd && Nat.beq q.2.2.2.1 j && Nat.beq q.2.2.2.2.1 n
      | none => false) &&
      (match kd with
      | 0 => Nat.ble 1 (pFr i) && Nat.ble 20 (pLo i)
      | 7 => Nat.ble 1 (pFr i) && Nat.ble 26 (pLo i)
      | 8 => Nat.ble 1 (pFr i) && Nat.ble 23 (pLo i)
      | kd => Nat.ble (j + 1) 357 && Nat.ble (pFr j + 1) (pFr i) && Nat.ble (8 + (pX j + 11) + pLo j) (pLo i) && decide ((parseMethodDescriptor (pY j).desc).map (fun d => d.parameters.length) = some n) &&
          (match kd with
          | 1 => Nat.beq ci (pO j) && Nat.ble (ci + 1) 10
          | _ => Nat.ble ci 0 || Nat.ble 0 ci) && Nat.beq mx (pX j))
  | _ => false
def pDat (i pc : Nat) (ins : Instr) (dt : List Nat) : Bool := match ins with
  | .istore_n k | .astore_n k => Nat.ble (k + 1) (pX i)
  | .istore k | .iinc k _ => Nat.ble (k + 1) (pX i)
  | .lstore_n k | .dstore_n k => Nat.ble (k + 2) (pX i)
  | .lstore k => Nat.ble (k + 2) (pX i)
  | .ifCond _ off | .if_icmp _ off | .goto off => (match dt with
      | [t] => decide ((pc : Int) + off = (t : Int))
      | _ => false)
  | .tableswitch d lo hi offs => (match dt with
      | t :: ts => decide ((pc : Int) + d = (t : Int)) && decide (offs.toList.map (fun o => (pc : Int) + o) = ts.map Int.ofNat)
      | _ => false)
  | .iconst n => (match dt with
      | [v] => decide (Int32.ofInt n = Int32.ofNat v)
      | _ => false)
  | .bipush n => (match dt with
      | [v] => decide ((Int8.ofInt n).toInt32 = Int32.ofNat v)
      | _ => false)
  | .sipush n => (match dt with
      | [v] => decide ((Int16.ofInt n).toInt32 = Int32.ofNat v)
      | _ => false)
  | .getfield idx => (match dt with
      | [ci, k, e] => (match pFlL[e]? with
          | some q => Nat.beq q.1 (pO i) && Nat.beq q.2.1 idx && Nat.beq q.2.2.1 ci && Nat.beq q.2.2.2.1 k
          | none => false)
      | _ => false)
  | .putfield idx => (match dt with
      | [ci, k, e] => (match pFlL[e]? with
          | some q => Nat.beq q.1 (pO i) && Nat.beq q.2.1 idx && Nat.beq q.2.2.1 ci && Nat.beq q.2.2.2.1 k
          | none => false) && (match vwCl[ci]? with
          | some c => !((c.2.1 k).2.2.2) || (decide ((pY i).name = "<init>") && Nat.beq (pO i) ci && Nat.ble (ci + 1) 10)
          | none => false)
      | _ => false)
  | .ldc idx | .ldc_w idx => (match dt with
      | [v, e] => (match pKiL[e]? with
          | some q => Nat.beq q.1 (pO i) && Nat.beq q.2.1 idx && decide (q.2.2.1 = Int32.ofNat v)
          | none => false)
      | _ => false)
  | .ldc2_w idx => (match dt with
      | [v, e] => (match pKlL[e]? with
          | some q => Nat.beq q.1 (pO i) && Nat.beq q.2.1 idx && decide (q.2.2.1 = Int64.ofNat v)
          | none => false)
      | [v, e, _] => (match pKdL[e]? with
          | some q => Nat.beq q.1 (pO i) && Nat.beq q.2.1 idx && decide (q.2.2.1 = UInt64.ofNat v)
          | none => false)
      | _ => false)
  | .new idx => (match dt with
      | [ci, n, e] => (match pNwL[e]? with
          | some q => Nat.beq q.1 (pO i) && Nat.beq q.2.1 idx && Nat.beq q.2.2.1 ci
          | none => false) && (match vwCl[ci]? with
          | some c => Nat.beq c.2.2 n
          | none => false)
      | _ => false)
  | .newarray t => (match dt with
      | [k] => (match t, k with
          | .int, 0 | .long, 1 | .boolean, 2 => true
          | _, _ => false)
      | _ => false)
  | .invokevirtual idx => pCallOK i idx [1] dt
  | .invokespecial idx => pCallOK i idx [0, 3, 5] dt
  | .invokestatic idx => pCallOK i idx [2, 4, 7, 8] dt
  | .ireturn => (match dt with
      | [0] => decide (pR i = some .int)
      | [1] => decide (pR i = some .boolean)
      | _ => false)
  | .lreturn => decide (pR i = some .long)
  | .return_ => decide (pR i = none)
  | _ => true
def pChk (i pc : Nat) (q : pE) : Bool := decide (decode (pB i) pc = .ok (q.1, pLen q.1 pc)) && pDat i pc q.1 q.2
/-- all leaves of a trie -/
def pAll {A : Type} (d : Nat) : (Nat → A → Bool) → Nat → Nat → pT d A → Bool := Nat.rec (motive := fun d => (Nat → A → Bool) → Nat → Nat → pT d A → Bool) (fun f off _ x => f off x) (fun _ g f off stp t => g f off (stp * 2) t.1 && g f (off + stp) (stp * 2) t.2) d
theorem pAll_get {A : Type} (d : Nat) : ∀ (f : Nat → A → Bool) (off stp : Nat) (t : pT d A), pAll d f off stp t = true → ∀ k, k < 2 ^ d → f (off + stp * k) (pTget d t k) = true := by
  induction d with
  | zero =>
    intro f off stp t h k hk
    have : k = 0 := by simpa using hk
    subst this
    rw [Nat.mul_zero, Nat.add_zero]
    exact h
  | succ d ih =>
    intro f off stp t h k hk
    have h1 : (pAll d f off (stp * 2) t.1 && pAll d f (off + stp) (stp * 2) t.2) = true := h
    rw [Bool.and_eq_true] at h1
    have hk2 : k / 2 < 2 ^ d := by
      rw [Nat.pow_succ] at hk
      omega
    show f (off + stp * k) (bif Nat.beq (Nat.mod k 2) 0 then pTget d t.1 (Nat.div k 2) else pTget d t.2 (Nat.div k 2)) = true
    have hm : Nat.mod k 2 = k % 2 := rfl
    have hd : Nat.div k 2 = k / 2 := rfl
    rw [hm, hd]
    rcases Nat.mod_two_eq_zero_or_one k with e | e
    · have := ih f off (stp * 2) t.1 h1.1 (k / 2) hk2
      rw [e]
      have e2 : off + stp * 2 * (k / 2) = off + stp * k := by
        rw [Nat.mul_assoc]
        congr 2
        omega
      rw [e2] at this
      exact this
    · have := ih f (off + stp) (stp * 2) t.2 h1.2 (k / 2) hk2
      rw [e]
      have e2 : off + stp + stp * 2 * (k / 2) = off + stp * k := by
        rw [Nat.mul_assoc, Nat.add_assoc]
        congr 1
        have hk3 : 2 * (k / 2) + 1 = k := by omega
        rw [Nat.add_comm, ← Nat.mul_succ]
        exact congrArg _ hk3
      rw [e2] at this
      exact this
def pLeaf (i pc : Nat) (o : Option pE) : Bool := match o with
  | some q => pChk i pc q
  | none => true
def pGood (i : Nat) (f : Nat → Option pE) : Prop := ∀ pc q, f pc = some q → pChk i pc q = true
theorem pGood_of {i d : Nat} {t : pT d (Option pE)} (h : pAll d (pLeaf i) 0 1 t = true) : pGood i (fun pc => bif Nat.ble (2 ^ d) pc then none else pTget d t pc) := by
  intro pc q hq
  by_cases hb : Nat.ble (2 ^ d) pc = true
  · simp only [hb, cond_true] at hq
    cases hq
  · have hlt : pc < 2 ^ d := by
      rcases Nat.lt_or_ge pc (2 ^ d) with z | z
      · exact z
      · exact absurd (Nat.ble_eq_true_of_le z) hb
    have h1 := pAll_get d (pLeaf i) 0 1 t h pc hlt
    simp only [Bool.not_eq_true] at hb
    simp only [hb, cond_false] at hq
    rw [Nat.zero_add, Nat.one_mul, hq] at h1
    exact h1
set_option maxRecDepth 100000 in
theorem pk_0 : pAll 4 (pLeaf 0) 0 1 pI_0 = true := by decide +kernel
theorem pg_0 : pGood 0 pJ_0 := pGood_of pk_0
set_option maxRecDepth 100000 in
theorem pk_1 : pAll 7 (pLeaf 1) 0 1 pI_1 = true := by decide +kernel
theorem pg_1 : pGood 1 pJ_1 := pGood_of pk_1
set_option maxRecDepth 100000 in
theorem pk_2 : pAll 6 (pLeaf 2) 0 1 pI_2 = true := by decide +kernel
theorem pg_2 : pGood 2 pJ_2 := pGood_of pk_2
set_option maxRecDepth 100000 in
theorem pk_3 : pAll 6 (pLeaf 3) 0 1 pI_3 = true := by decide +kernel
theorem pg_3 : pGood 3 pJ_3 := pGood_of pk_3
set_option maxRecDepth 100000 in
theorem pk_4 : pAll 7 (pLeaf 4) 0 1 pI_4 = true := by decide +kernel
theorem pg_4 : pGood 4 pJ_4 := pGood_of pk_4
set_option maxRecDepth 100000 in
theorem pk_5 : pAll 7 (pLeaf 5) 0 1 pI_5 = true := by decide +kernel
theorem pg_5 : pGood 5 pJ_5 := pGood_of pk_5
set_option maxRecDepth 100000 in
theorem pk_6 : pAll 5 (pLeaf 6) 0 1 pI_6 = true := by decide +kernel
theorem pg_6 : pGood 6 pJ_6 := pGood_of pk_6
set_option maxRecDepth 100000 in
theorem pk_7 : pAll 7 (pLeaf 7) 0 1 pI_7 = true := by decide +kernel
theorem pg_7 : pGood 7 pJ_7 := pGood_of pk_7
set_option maxRecDepth 100000 in
theorem pk_8 : pAll 6 (pLeaf 8) 0 1 pI_8 = true := by decide +kernel
theorem pg_8 : pGood 8 pJ_8 := pGood_of pk_8
set_option maxRecDepth 100000 in
theorem pk_9 : pAll 7 (pLeaf 9) 0 1 pI_9 = true := by decide +kernel
theorem pg_9 : pGood 9 pJ_9 := pGood_of pk_9
set_option maxRecDepth 100000 in
theorem pk_10 : pAll 7 (pLeaf 10) 0 1 pI_10 = true := by decide +kernel
theorem pg_10 : pGood 10 pJ_10 := pGood_of pk_10
set_option maxRecDepth 100000 in
theorem pk_11 : pAll 7 (pLeaf 11) 0 1 pI_11 = true := by decide +kernel
theorem pg_11 : pGood 11 pJ_11 := pGood_of pk_11
set_option maxRecDepth 100000 in
theorem pk_12 : pAll 7 (pLeaf 12) 0 1 pI_12 = true := by decide +kernel
theorem pg_12 : pGood 12 pJ_12 := pGood_of pk_12
set_option maxRecDepth 100000 in
theorem pk_13 : pAll 8 (pLeaf 13) 0 1 pI_13 = true := by decide +kernel
theorem pg_13 : pGood 13 pJ_13 := pGood_of pk_13
set_option maxRecDepth 100000 in
theorem pk_14 : pAll 5 (pLeaf 14) 0 1 pI_14 = true := by decide +kernel
theorem pg_14 : pGood 14 pJ_14 := pGood_of pk_14
set_option maxRecDepth 100000 in
theorem pk_15 : pAll 6 (pLeaf 15) 0 1 pI_15 = true := by decide +kernel
theorem pg_15 : pGood 15 pJ_15 := pGood_of pk_15
set_option maxRecDepth 100000 in
theorem pk_16 : pAll 8 (pLeaf 16) 0 1 pI_16 = true := by decide +kernel
theorem pg_16 : pGood 16 pJ_16 := pGood_of pk_16
set_option maxRecDepth 100000 in
theorem pk_17 : pAll 6 (pLeaf 17) 0 1 pI_17 = true := by decide +kernel
theorem pg_17 : pGood 17 pJ_17 := pGood_of pk_17
set_option maxRecDepth 100000 in
theorem pk_18 : pAll 5 (pLeaf 18) 0 1 pI_18 = true := by decide +kernel
theorem pg_18 : pGood 18 pJ_18 := pGood_of pk_18
set_option maxRecDepth 100000 in
theorem pk_19 : pAll 6 (pLeaf 19) 0 1 pI_19 = true := by decide +kernel
theorem pg_19 : pGood 19 pJ_19 := pGood_of pk_19
set_option maxRecDepth 100000 in
theorem pk_20 : pAll 6 (pLeaf 20) 0 1 pI_20 = true := by decide +kernel
theorem pg_20 : pGood 20 pJ_20 := pGood_of pk_20
set_option maxRecDepth 100000 in
theorem pk_21 : pAll 5 (pLeaf 21) 0 1 pI_21 = true := by decide +kernel
theorem pg_21 : pGood 21 pJ_21 := pGood_of pk_21
set_option maxRecDepth 100000 in
theorem pk_22 : pAll 7 (pLeaf 22) 0 1 pI_22 = true := by decide +kernel
theorem pg_22 : pGood 22 pJ_22 := pGood_of pk_22
set_option maxRecDepth 100000 in
theorem pk_23 : pAll 7 (pLeaf 23) 0 1 pI_23 = true := by decide +kernel
theorem pg_23 : pGood 23 pJ_23 := pGood_of pk_23
set_option maxRecDepth 100000 in
theorem pk_24 : pAll 7 (pLeaf 24) 0 1 pI_24 = true := by decide +kernel
theorem pg_24 : pGood 24 pJ_24 := pGood_of pk_24
set_option maxRecDepth 100000 in
theorem pk_25 : pAll 6 (pLeaf 25) 0 1 pI_25 = true := by decide +kernel
theorem pg_25 : pGood 25 pJ_25 := pGood_of pk_25
set_option maxRecDepth 100000 in
theorem pk_26 : pAll 8 (pLeaf 26) 0 1 pI_26 = true := by decide +kernel
theorem pg_26 : pGood 26 pJ_26 := pGood_of pk_26
set_option maxRecDepth 100000 in
theorem pk_27 : pAll 6 (pLeaf 27) 0 1 pI_27 = true := by decide +kernel
theorem pg_27 : pGood 27 pJ_27 := pGood_of pk_27
set_option maxRecDepth 100000 in
theorem pk_28 : pAll 6 (pLeaf 28) 0 1 pI_28 = true := by decide +kernel
theorem pg_28 : pGood 28 pJ_28 := pGood_of pk_28
set_option maxRecDepth 100000 in
theorem pk_29 : pAll 8 (pLeaf 29) 0 1 pI_29 = true := by decide +kernel
theorem pg_29 : pGood 29 pJ_29 := pGood_of pk_29
set_option maxRecDepth 100000 in
theorem pk_30 : pAll 6 (pLeaf 30) 0 1 pI_30 = true := by decide +kernel
theorem pg_30 : pGood 30 pJ_30 := pGood_of pk_30
set_option maxRecDepth 100000 in
theorem pk_31 : pAll 7 (pLeaf 31) 0 1 pI_31 = true := by decide +kernel
theorem pg_31 : pGood 31 pJ_31 := pGood_of pk_31
set_option maxRecDepth 100000 in
theorem pk_32 : pAll 7 (pLeaf 32) 0 1 pI_32 = true := by decide +kernel
theorem pg_32 : pGood 32 pJ_32 := pGood_of pk_32
set_option maxRecDepth 100000 in
theorem pk_33 : pAll 7 (pLeaf 33) 0 1 pI_33 = true := by decide +kernel
theorem pg_33 : pGood 33 pJ_33 := pGood_of pk_33
set_option maxRecDepth 100000 in
theorem pk_34 : pAll 5 (pLeaf 34) 0 1 pI_34 = true := by decide +kernel
theorem pg_34 : pGood 34 pJ_34 := pGood_of pk_34
set_option maxRecDepth 100000 in
theorem pk_35 : pAll 4 (pLeaf 35) 0 1 pI_35 = true := by decide +kernel
theorem pg_35 : pGood 35 pJ_35 := pGood_of pk_35
set_option maxRecDepth 100000 in
theorem pk_36 : pAll 5 (pLeaf 36) 0 1 pI_36 = true := by decide +kernel
theorem pg_36 : pGood 36 pJ_36 := pGood_of pk_36
set_option maxRecDepth 100000 in
theorem pk_37 : pAll 6 (pLeaf 37) 0 1 pI_37 = true := by decide +kernel
theorem pg_37 : pGood 37 pJ_37 := pGood_of pk_37
set_option maxRecDepth 100000 in
theorem pk_38 : pAll 5 (pLeaf 38) 0 1 pI_38 = true := by decide +kernel
theorem pg_38 : pGood 38 pJ_38 := pGood_of pk_38
set_option maxRecDepth 100000 in
theorem pk_39 : pAll 5 (pLeaf 39) 0 1 pI_39 = true := by decide +kernel
theorem pg_39 : pGood 39 pJ_39 := pGood_of pk_39
set_option maxRecDepth 100000 in
theorem pk_40 : pAll 5 (pLeaf 40) 0 1 pI_40 = true := by decide +kernel
theorem pg_40 : pGood 40 pJ_40 := pGood_of pk_40
set_option maxRecDepth 100000 in
theorem pk_41 : pAll 5 (pLeaf 41) 0 1 pI_41 = true := by decide +kernel
theorem pg_41 : pGood 41 pJ_41 := pGood_of pk_41
set_option maxRecDepth 100000 in
theorem pk_42 : pAll 5 (pLeaf 42) 0 1 pI_42 = true := by decide +kernel
theorem pg_42 : pGood 42 pJ_42 := pGood_of pk_42
set_option maxRecDepth 100000 in
theorem pk_43 : pAll 6 (pLeaf 43) 0 1 pI_43 = true := by decide +kernel
theorem pg_43 : pGood 43 pJ_43 := pGood_of pk_43
set_option maxRecDepth 100000 in
theorem pk_44 : pAll 6 (pLeaf 44) 0 1 pI_44 = true := by decide +kernel
theorem pg_44 : pGood 44 pJ_44 := pGood_of pk_44
set_option maxRecDepth 100000 in
theorem pk_45 : pAll 7 (pLeaf 45) 0 1 pI_45 = true := by decide +kernel
theorem pg_45 : pGood 45 pJ_45 := pGood_of pk_45
set_option maxRecDepth 100000 in
theorem pk_46 : pAll 6 (pLeaf 46) 0 1 pI_46 = true := by decide +kernel
theorem pg_46 : pGood 46 pJ_46 := pGood_of pk_46
set_option maxRecDepth 100000 in
theorem pk_47 : pAll 8 (pLeaf 47) 0 1 pI_47 = true := by decide +kernel
theorem pg_47 : pGood 47 pJ_47 := pGood_of pk_47
set_option maxRecDepth 100000 in
theorem pk_48 : pAll 6 (pLeaf 48) 0 1 pI_48 = true := by decide +kernel
theorem pg_48 : pGood 48 pJ_48 := pGood_of pk_48
set_option maxRecDepth 100000 in
theorem pk_49 : pAll 6 (pLeaf 49) 0 1 pI_49 = true := by decide +kernel
theorem pg_49 : pGood 49 pJ_49 := pGood_of pk_49
set_option maxRecDepth 100000 in
theorem pk_50 : pAll 6 (pLeaf 50) 0 1 pI_50 = true := by decide +kernel
theorem pg_50 : pGood 50 pJ_50 := pGood_of pk_50
set_option maxRecDepth 100000 in
theorem pk_51 : pAll 6 (pLeaf 51) 0 1 pI_51 = true := by decide +kernel
theorem pg_51 : pGood 51 pJ_51 := pGood_of pk_51
set_option maxRecDepth 100000 in
theorem pk_52 : pAll 5 (pLeaf 52) 0 1 pI_52 = true := by decide +kernel
theorem pg_52 : pGood 52 pJ_52 := pGood_of pk_52
set_option maxRecDepth 100000 in
theorem pk_53 : pAll 7 (pLeaf 53) 0 1 pI_53 = true := by decide +kernel
theorem pg_53 : pGood 53 pJ_53 := pGood_of pk_53
set_option maxRecDepth 100000 in
theorem pk_54 : pAll 6 (pLeaf 54) 0 1 pI_54 = true := by decide +kernel
theorem pg_54 : pGood 54 pJ_54 := pGood_of pk_54
set_option maxRecDepth 100000 in
theorem pk_55 : pAll 7 (pLeaf 55) 0 1 pI_55 = true := by decide +kernel
theorem pg_55 : pGood 55 pJ_55 := pGood_of pk_55
set_option maxRecDepth 100000 in
theorem pk_56 : pAll 6 (pLeaf 56) 0 1 pI_56 = true := by decide +kernel
theorem pg_56 : pGood 56 pJ_56 := pGood_of pk_56
set_option maxRecDepth 100000 in
theorem pk_57 : pAll 5 (pLeaf 57) 0 1 pI_57 = true := by decide +kernel
theorem pg_57 : pGood 57 pJ_57 := pGood_of pk_57
set_option maxRecDepth 100000 in
theorem pk_58 : pAll 8 (pLeaf 58) 0 1 pI_58 = true := by decide +kernel
theorem pg_58 : pGood 58 pJ_58 := pGood_of pk_58
set_option maxRecDepth 100000 in
theorem pk_59 : pAll 6 (pLeaf 59) 0 1 pI_59 = true := by decide +kernel
theorem pg_59 : pGood 59 pJ_59 := pGood_of pk_59
set_option maxRecDepth 100000 in
theorem pk_60 : pAll 7 (pLeaf 60) 0 1 pI_60 = true := by decide +kernel
theorem pg_60 : pGood 60 pJ_60 := pGood_of pk_60
set_option maxRecDepth 100000 in
theorem pk_61 : pAll 7 (pLeaf 61) 0 1 pI_61 = true := by decide +kernel
theorem pg_61 : pGood 61 pJ_61 := pGood_of pk_61
set_option maxRecDepth 100000 in
theorem pk_62 : pAll 6 (pLeaf 62) 0 1 pI_62 = true := by decide +kernel
theorem pg_62 : pGood 62 pJ_62 := pGood_of pk_62
set_option maxRecDepth 100000 in
theorem pk_63 : pAll 5 (pLeaf 63) 0 1 pI_63 = true := by decide +kernel
theorem pg_63 : pGood 63 pJ_63 := pGood_of pk_63
set_option maxRecDepth 100000 in
theorem pk_64 : pAll 5 (pLeaf 64) 0 1 pI_64 = true := by decide +kernel
theorem pg_64 : pGood 64 pJ_64 := pGood_of pk_64
set_option maxRecDepth 100000 in
theorem pk_65 : pAll 6 (pLeaf 65) 0 1 pI_65 = true := by decide +kernel
theorem pg_65 : pGood 65 pJ_65 := pGood_of pk_65
set_option maxRecDepth 100000 in
theorem pk_66 : pAll 5 (pLeaf 66) 0 1 pI_66 = true := by decide +kernel
theorem pg_66 : pGood 66 pJ_66 := pGood_of pk_66
set_option maxRecDepth 100000 in
theorem pk_67 : pAll 7 (pLeaf 67) 0 1 pI_67 = true := by decide +kernel
theorem pg_67 : pGood 67 pJ_67 := pGood_of pk_67
set_option maxRecDepth 100000 in
theorem pk_68 : pAll 6 (pLeaf 68) 0 1 pI_68 = true := by decide +kernel
theorem pg_68 : pGood 68 pJ_68 := pGood_of pk_68
set_option maxRecDepth 100000 in
theorem pk_69 : pAll 6 (pLeaf 69) 0 1 pI_69 = true := by decide +kernel
theorem pg_69 : pGood 69 pJ_69 := pGood_of pk_69
set_option maxRecDepth 100000 in
theorem pk_70 : pAll 7 (pLeaf 70) 0 1 pI_70 = true := by decide +kernel
theorem pg_70 : pGood 70 pJ_70 := pGood_of pk_70
set_option maxRecDepth 100000 in
theorem pk_71 : pAll 5 (pLeaf 71) 0 1 pI_71 = true := by decide +kernel
theorem pg_71 : pGood 71 pJ_71 := pGood_of pk_71
set_option maxRecDepth 100000 in
theorem pk_72 : pAll 7 (pLeaf 72) 0 1 pI_72 = true := by decide +kernel
theorem pg_72 : pGood 72 pJ_72 := pGood_of pk_72
set_option maxRecDepth 100000 in
theorem pk_73 : pAll 8 (pLeaf 73) 0 1 pI_73 = true := by decide +kernel
theorem pg_73 : pGood 73 pJ_73 := pGood_of pk_73
set_option maxRecDepth 100000 in
theorem pk_74 : pAll 5 (pLeaf 74) 0 1 pI_74 = true := by decide +kernel
theorem pg_74 : pGood 74 pJ_74 := pGood_of pk_74
set_option maxRecDepth 100000 in
theorem pk_75 : pAll 6 (pLeaf 75) 0 1 pI_75 = true := by decide +kernel
theorem pg_75 : pGood 75 pJ_75 := pGood_of pk_75
set_option maxRecDepth 100000 in
theorem pk_76 : pAll 6 (pLeaf 76) 0 1 pI_76 = true := by decide +kernel
theorem pg_76 : pGood 76 pJ_76 := pGood_of pk_76
set_option maxRecDepth 100000 in
theorem pk_77 : pAll 6 (pLeaf 77) 0 1 pI_77 = true := by decide +kernel
theorem pg_77 : pGood 77 pJ_77 := pGood_of pk_77
set_option maxRecDepth 100000 in
theorem pk_78 : pAll 6 (pLeaf 78) 0 1 pI_78 = true := by decide +kernel
theorem pg_78 : pGood 78 pJ_78 := pGood_of pk_78
set_option maxRecDepth 100000 in
theorem pk_79 : pAll 7 (pLeaf 79) 0 1 pI_79 = true := by decide +kernel
theorem pg_79 : pGood 79 pJ_79 := pGood_of pk_79
set_option maxRecDepth 100000 in
theorem pk_80 : pAll 7 (pLeaf 80) 0 1 pI_80 = true := by decide +kernel
theorem pg_80 : pGood 80 pJ_80 := pGood_of pk_80
set_option maxRecDepth 100000 in
theorem pk_81 : pAll 7 (pLeaf 81) 0 1 pI_81 = true := by decide +kernel
theorem pg_81 : pGood 81 pJ_81 := pGood_of pk_81
set_option maxRecDepth 100000 in
theorem pk_82 : pAll 5 (pLeaf 82) 0 1 pI_82 = true := by decide +kernel
theorem pg_82 : pGood 82 pJ_82 := pGood_of pk_82
set_option maxRecDepth 100000 in
theorem pk_83 : pAll 3 (pLeaf 83) 0 1 pI_83 = true := by decide +kernel
theorem pg_83 : pGood 83 pJ_83 := pGood_of pk_83
set_option maxRecDepth 100000 in
theorem pk_84 : pAll 5 (pLeaf 84) 0 1 pI_84 = true := by decide +kernel
theorem pg_84 : pGood 84 pJ_84 := pGood_of pk_84
set_option maxRecDepth 100000 in
theorem pk_85 : pAll 5 (pLeaf 85) 0 1 pI_85 = true := by decide +kernel
theorem pg_85 : pGood 85 pJ_85 := pGood_of pk_85
set_option maxRecDepth 100000 in
theorem pk_86 : pAll 6 (pLeaf 86) 0 1 pI_86 = true := by decide +kernel
theorem pg_86 : pGood 86 pJ_86 := pGood_of pk_86
set_option maxRecDepth 100000 in
theorem pk_87 : pAll 5 (pLeaf 87) 0 1 pI_87 = true := by decide +kernel
theorem pg_87 : pGood 87 pJ_87 := pGood_of pk_87
set_option maxRecDepth 100000 in
theorem pk_88 : pAll 5 (pLeaf 88) 0 1 pI_88 = true := by decide +kernel
theorem pg_88 : pGood 88 pJ_88 := pGood_of pk_88
set_option maxRecDepth 100000 in
theorem pk_89 : pAll 5 (pLeaf 89) 0 1 pI_89 = true := by decide +kernel
theorem pg_89 : pGood 89 pJ_89 := pGood_of pk_89
set_option maxRecDepth 100000 in
theorem pk_90 : pAll 6 (pLeaf 90) 0 1 pI_90 = true := by decide +kernel
theorem pg_90 : pGood 90 pJ_90 := pGood_of pk_90
set_option maxRecDepth 100000 in
theorem pk_91 : pAll 5 (pLeaf 91) 0 1 pI_91 = true := by decide +kernel
theorem pg_91 : pGood 91 pJ_91 := pGood_of pk_91
set_option maxRecDepth 100000 in
theorem pk_92 : pAll 5 (pLeaf 92) 0 1 pI_92 = true := by decide +kernel
theorem pg_92 : pGood 92 pJ_92 := pGood_of pk_92
set_option maxRecDepth 100000 in
theorem pk_93 : pAll 6 (pLeaf 93) 0 1 pI_93 = true := by decide +kernel
theorem pg_93 : pGood 93 pJ_93 := pGood_of pk_93
set_option maxRecDepth 100000 in
theorem pk_94 : pAll 6 (pLeaf 94) 0 1 pI_94 = true := by decide +kernel
theorem pg_94 : pGood 94 pJ_94 := pGood_of pk_94
set_option maxRecDepth 100000 in
theorem pk_95 : pAll 6 (pLeaf 95) 0 1 pI_95 = true := by decide +kernel
theorem pg_95 : pGood 95 pJ_95 := pGood_of pk_95
set_option maxRecDepth 100000 in
theorem pk_96 : pAll 5 (pLeaf 96) 0 1 pI_96 = true := by decide +kernel
theorem pg_96 : pGood 96 pJ_96 := pGood_of pk_96
set_option maxRecDepth 100000 in
theorem pk_97 : pAll 6 (pLeaf 97) 0 1 pI_97 = true := by decide +kernel
theorem pg_97 : pGood 97 pJ_97 := pGood_of pk_97
set_option maxRecDepth 100000 in
theorem pk_98 : pAll 6 (pLeaf 98) 0 1 pI_98 = true := by decide +kernel
theorem pg_98 : pGood 98 pJ_98 := pGood_of pk_98
set_option maxRecDepth 100000 in
theorem pk_99 : pAll 7 (pLeaf 99) 0 1 pI_99 = true := by decide +kernel
theorem pg_99 : pGood 99 pJ_99 := pGood_of pk_99
set_option maxRecDepth 100000 in
theorem pk_100 : pAll 7 (pLeaf 100) 0 1 pI_100 = true := by decide +kernel
theorem pg_100 : pGood 100 pJ_100 := pGood_of pk_100
set_option maxRecDepth 100000 in
theorem pk_101 : pAll 6 (pLeaf 101) 0 1 pI_101 = true := by decide +kernel
theorem pg_101 : pGood 101 pJ_101 := pGood_of pk_101
set_option maxRecDepth 100000 in
theorem pk_102 : pAll 5 (pLeaf 102) 0 1 pI_102 = true := by decide +kernel
theorem pg_102 : pGood 102 pJ_102 := pGood_of pk_102
set_option maxRecDepth 100000 in
theorem pk_103 : pAll 7 (pLeaf 103) 0 1 pI_103 = true := by decide +kernel
theorem pg_103 : pGood 103 pJ_103 := pGood_of pk_103
set_option maxRecDepth 100000 in
theorem pk_104 : pAll 7 (pLeaf 104) 0 1 pI_104 = true := by decide +kernel
theorem pg_104 : pGood 104 pJ_104 := pGood_of pk_104
set_option maxRecDepth 100000 in
theorem pk_105 : pAll 5 (pLeaf 105) 0 1 pI_105 = true := by decide +kernel
theorem pg_105 : pGood 105 pJ_105 := pGood_of pk_105
set_option maxRecDepth 100000 in
theorem pk_106 : pAll 5 (pLeaf 106) 0 1 pI_106 = true := by decide +kernel
theorem pg_106 : pGood 106 pJ_106 := pGood_of pk_106
set_option maxRecDepth 100000 in
theorem pk_107 : pAll 6 (pLeaf 107) 0 1 pI_107 = true := by decide +kernel
theorem pg_107 : pGood 107 pJ_107 := pGood_of pk_107
set_option maxRecDepth 100000 in
theorem pk_108 : pAll 6 (pLeaf 108) 0 1 pI_108 = true := by decide +kernel
theorem pg_108 : pGood 108 pJ_108 := pGood_of pk_108
set_option maxRecDepth 100000 in
theorem pk_109 : pAll 7 (pLeaf 109) 0 1 pI_109 = true := by decide +kernel
theorem pg_109 : pGood 109 pJ_109 := pGood_of pk_109
set_option maxRecDepth 100000 in
theorem pk_110 : pAll 8 (pLeaf 110) 0 1 pI_110 = true := by decide +kernel
theorem pg_110 : pGood 110 pJ_110 := pGood_of pk_110
set_option maxRecDepth 100000 in
theorem pk_111 : pAll 6 (pLeaf 111) 0 1 pI_111 = true := by decide +kernel
theorem pg_111 : pGood 111 pJ_111 := pGood_of pk_111
set_option maxRecDepth 100000 in
theorem pk_112 : pAll 6 (pLeaf 112) 0 1 pI_112 = true := by decide +kernel
theorem pg_112 : pGood 112 pJ_112 := pGood_of pk_112
set_option maxRecDepth 100000 in
theorem pk_113 : pAll 7 (pLeaf 113) 0 1 pI_113 = true := by decide +kernel
theorem pg_113 : pGood 113 pJ_113 := pGood_of pk_113
set_option maxRecDepth 100000 in
theorem pk_114 : pAll 8 (pLeaf 114) 0 1 pI_114 = true := by decide +kernel
theorem pg_114 : pGood 114 pJ_114 := pGood_of pk_114
set_option maxRecDepth 100000 in
theorem pk_115 : pAll 6 (pLeaf 115) 0 1 pI_115 = true := by decide +kernel
theorem pg_115 : pGood 115 pJ_115 := pGood_of pk_115
set_option maxRecDepth 100000 in
theorem pk_116 : pAll 6 (pLeaf 116) 0 1 pI_116 = true := by decide +kernel
theorem pg_116 : pGood 116 pJ_116 := pGood_of pk_116
set_option maxRecDepth 100000 in
theorem pk_117 : pAll 7 (pLeaf 117) 0 1 pI_117 = true := by decide +kernel
theorem pg_117 : pGood 117 pJ_117 := pGood_of pk_117
set_option maxRecDepth 100000 in
theorem pk_118 : pAll 6 (pLeaf 118) 0 1 pI_118 = true := by decide +kernel
theorem pg_118 : pGood 118 pJ_118 := pGood_of pk_118
set_option maxRecDepth 100000 in
theorem pk_119 : pAll 6 (pLeaf 119) 0 1 pI_119 = true := by decide +kernel
theorem pg_119 : pGood 119 pJ_119 := pGood_of pk_119
set_option maxRecDepth 100000 in
theorem pk_120 : pAll 7 (pLeaf 120) 0 1 pI_120 = true := by decide +kernel
theorem pg_120 : pGood 120 pJ_120 := pGood_of pk_120
set_option maxRecDepth 100000 in
theorem pk_121 : pAll 6 (pLeaf 121) 0 1 pI_121 = true := by decide +kernel
theorem pg_121 : pGood 121 pJ_121 := pGood_of pk_121
set_option maxRecDepth 100000 in
theorem pk_122 : pAll 6 (pLeaf 122) 0 1 pI_122 = true := by decide +kernel
theorem pg_122 : pGood 122 pJ_122 := pGood_of pk_122
set_option maxRecDepth 100000 in
theorem pk_123 : pAll 7 (pLeaf 123) 0 1 pI_123 = true := by decide +kernel
theorem pg_123 : pGood 123 pJ_123 := pGood_of pk_123
set_option maxRecDepth 100000 in
theorem pk_124 : pAll 6 (pLeaf 124) 0 1 pI_124 = true := by decide +kernel
theorem pg_124 : pGood 124 pJ_124 := pGood_of pk_124
set_option maxRecDepth 100000 in
theorem pk_125 : pAll 8 (pLeaf 125) 0 1 pI_125 = true := by decide +kernel
theorem pg_125 : pGood 125 pJ_125 := pGood_of pk_125
set_option maxRecDepth 100000 in
theorem pk_126 : pAll 7 (pLeaf 126) 0 1 pI_126 = true := by decide +kernel
theorem pg_126 : pGood 126 pJ_126 := pGood_of pk_126
set_option maxRecDepth 100000 in
theorem pk_127 : pAll 6 (pLeaf 127) 0 1 pI_127 = true := by decide +kernel
theorem pg_127 : pGood 127 pJ_127 := pGood_of pk_127
set_option maxRecDepth 100000 in
theorem pk_128 : pAll 5 (pLeaf 128) 0 1 pI_128 = true := by decide +kernel
theorem pg_128 : pGood 128 pJ_128 := pGood_of pk_128
set_option maxRecDepth 100000 in
theorem pk_129 : pAll 5 (pLeaf 129) 0 1 pI_129 = true := by decide +kernel
theorem pg_129 : pGood 129 pJ_129 := pGood_of pk_129
set_option maxRecDepth 100000 in
theorem pk_130 : pAll 3 (pLeaf 130) 0 1 pI_130 = true := by decide +kernel
theorem pg_130 : pGood 130 pJ_130 := pGood_of pk_130
set_option maxRecDepth 100000 in
theorem pk_131 : pAll 6 (pLeaf 131) 0 1 pI_131 = true := by decide +kernel
theorem pg_131 : pGood 131 pJ_131 := pGood_of pk_131
set_option maxRecDepth 100000 in
theorem pk_132 : pAll 6 (pLeaf 132) 0 1 pI_132 = true := by decide +kernel
theorem pg_132 : pGood 132 pJ_132 := pGood_of pk_132
set_option maxRecDepth 100000 in
theorem pk_133 : pAll 6 (pLeaf 133) 0 1 pI_133 = true := by decide +kernel
theorem pg_133 : pGood 133 pJ_133 := pGood_of pk_133
set_option maxRecDepth 100000 in
theorem pk_134 : pAll 8 (pLeaf 134) 0 1 pI_134 = true := by decide +kernel
theorem pg_134 : pGood 134 pJ_134 := pGood_of pk_134
set_option maxRecDepth 100000 in
theorem pk_135 : pAll 6 (pLeaf 135) 0 1 pI_135 = true := by decide +kernel
theorem pg_135 : pGood 135 pJ_135 := pGood_of pk_135
set_option maxRecDepth 100000 in
theorem pk_136 : pAll 8 (pLeaf 136) 0 1 pI_136 = true := by decide +kernel
theorem pg_136 : pGood 136 pJ_136 := pGood_of pk_136
set_option maxRecDepth 100000 in
theorem pk_137 : pAll 4 (pLeaf 137) 0 1 pI_137 = true := by decide +kernel
theorem pg_137 : pGood 137 pJ_137 := pGood_of pk_137
set_option maxRecDepth 100000 in
theorem pk_138 : pAll 6 (pLeaf 138) 0 1 pI_138 = true := by decide +kernel
theorem pg_138 : pGood 138 pJ_138 := pGood_of pk_138
set_option maxRecDepth 100000 in
theorem pk_139 : pAll 6 (pLeaf 139) 0 1 pI_139 = true := by decide +kernel
theorem pg_139 : pGood 139 pJ_139 := pGood_of pk_139
set_option maxRecDepth 100000 in
theorem pk_140 : pAll 5 (pLeaf 140) 0 1 pI_140 = true := by decide +kernel
theorem pg_140 : pGood 140 pJ_140 := pGood_of pk_140
set_option maxRecDepth 100000 in
theorem pk_141 : pAll 7 (pLeaf 141) 0 1 pI_141 = true := by decide +kernel
theorem pg_141 : pGood 141 pJ_141 := pGood_of pk_141
set_option maxRecDepth 100000 in
theorem pk_142 : pAll 6 (pLeaf 142) 0 1 pI_142 = true := by decide +kernel
theorem pg_142 : pGood 142 pJ_142 := pGood_of pk_142
set_option maxRecDepth 100000 in
theorem pk_143 : pAll 6 (pLeaf 143) 0 1 pI_143 = true := by decide +kernel
theorem pg_143 : pGood 143 pJ_143 := pGood_of pk_143
set_option maxRecDepth 100000 in
theorem pk_144 : pAll 4 (pLeaf 144) 0 1 pI_144 = true := by decide +kernel
theorem pg_144 : pGood 144 pJ_144 := pGood_of pk_144
set_option maxRecDepth 100000 in
theorem pk_145 : pAll 7 (pLeaf 145) 0 1 pI_145 = true := by decide +kernel
theorem pg_145 : pGood 145 pJ_145 := pGood_of pk_145
set_option maxRecDepth 100000 in
theorem pk_146 : pAll 7 (pLeaf 146) 0 1 pI_146 = true := by decide +kernel
theorem pg_146 : pGood 146 pJ_146 := pGood_of pk_146
set_option maxRecDepth 100000 in
theorem pk_147 : pAll 6 (pLeaf 147) 0 1 pI_147 = true := by decide +kernel
theorem pg_147 : pGood 147 pJ_147 := pGood_of pk_147
set_option maxRecDepth 100000 in
theorem pk_148 : pAll 6 (pLeaf 148) 0 1 pI_148 = true := by decide +kernel
theorem pg_148 : pGood 148 pJ_148 := pGood_of pk_148
set_option maxRecDepth 100000 in
theorem pk_149 : pAll 6 (pLeaf 149) 0 1 pI_149 = true := by decide +kernel
theorem pg_149 : pGood 149 pJ_149 := pGood_of pk_149
set_option maxRecDepth 100000 in
theorem pk_150 : pAll 6 (pLeaf 150) 0 1 pI_150 = true := by decide +kernel
theorem pg_150 : pGood 150 pJ_150 := pGood_of pk_150
set_option maxRecDepth 100000 in
theorem pk_151 : pAll 4 (pLeaf 151) 0 1 pI_151 = true := by decide +kernel
theorem pg_151 : pGood 151 pJ_151 := pGood_of pk_151
set_option maxRecDepth 100000 in
theorem pk_152 : pAll 6 (pLeaf 152) 0 1 pI_152 = true := by decide +kernel
theorem pg_152 : pGood 152 pJ_152 := pGood_of pk_152
set_option maxRecDepth 100000 in
theorem pk_153 : pAll 6 (pLeaf 153) 0 1 pI_153 = true := by decide +kernel
theorem pg_153 : pGood 153 pJ_153 := pGood_of pk_153
set_option maxRecDepth 100000 in
theorem pk_154 : pAll 8 (pLeaf 154) 0 1 pI_154 = true := by decide +kernel
theorem pg_154 : pGood 154 pJ_154 := pGood_of pk_154
set_option maxRecDepth 100000 in
theorem pk_155 : pAll 6 (pLeaf 155) 0 1 pI_155 = true := by decide +kernel
theorem pg_155 : pGood 155 pJ_155 := pGood_of pk_155
set_option maxRecDepth 100000 in
theorem pk_156 : pAll 7 (pLeaf 156) 0 1 pI_156 = true := by decide +kernel
theorem pg_156 : pGood 156 pJ_156 := pGood_of pk_156
set_option maxRecDepth 100000 in
theorem pk_157 : pAll 7 (pLeaf 157) 0 1 pI_157 = true := by decide +kernel
theorem pg_157 : pGood 157 pJ_157 := pGood_of pk_157
set_option maxRecDepth 100000 in
theorem pk_158 : pAll 7 (pLeaf 158) 0 1 pI_158 = true := by decide +kernel
theorem pg_158 : pGood 158 pJ_158 := pGood_of pk_158
set_option maxRecDepth 100000 in
theorem pk_159 : pAll 3 (pLeaf 159) 0 1 pI_159 = true := by decide +kernel
theorem pg_159 : pGood 159 pJ_159 := pGood_of pk_159
set_option maxRecDepth 100000 in
theorem pk_160 : pAll 6 (pLeaf 160) 0 1 pI_160 = true := by decide +kernel
theorem pg_160 : pGood 160 pJ_160 := pGood_of pk_160
set_option maxRecDepth 100000 in
theorem pk_161 : pAll 6 (pLeaf 161) 0 1 pI_161 = true := by decide +kernel
theorem pg_161 : pGood 161 pJ_161 := pGood_of pk_161
set_option maxRecDepth 100000 in
theorem pk_162 : pAll 6 (pLeaf 162) 0 1 pI_162 = true := by decide +kernel
theorem pg_162 : pGood 162 pJ_162 := pGood_of pk_162
set_option maxRecDepth 100000 in
theorem pk_163 : pAll 7 (pLeaf 163) 0 1 pI_163 = true := by decide +kernel
theorem pg_163 : pGood 163 pJ_163 := pGood_of pk_163
set_option maxRecDepth 100000 in
theorem pk_164 : pAll 7 (pLeaf 164) 0 1 pI_164 = true := by decide +kernel
theorem pg_164 : pGood 164 pJ_164 := pGood_of pk_164
set_option maxRecDepth 100000 in
theorem pk_165 : pAll 7 (pLeaf 165) 0 1 pI_165 = true := by decide +kernel
theorem pg_165 : pGood 165 pJ_165 := pGood_of pk_165
set_option maxRecDepth 100000 in
theorem pk_166 : pAll 7 (pLeaf 166) 0 1 pI_166 = true := by decide +kernel
theorem pg_166 : pGood 166 pJ_166 := pGood_of pk_166
set_option maxRecDepth 100000 in
theorem pk_167 : pAll 7 (pLeaf 167) 0 1 pI_167 = true := by decide +kernel
theorem pg_167 : pGood 167 pJ_167 := pGood_of pk_167
set_option maxRecDepth 100000 in
theorem pk_168 : pAll 5 (pLeaf 168) 0 1 pI_168 = true := by decide +kernel
theorem pg_168 : pGood 168 pJ_168 := pGood_of pk_168
set_option maxRecDepth 100000 in
theorem pk_169 : pAll 6 (pLeaf 169) 0 1 pI_169 = true := by decide +kernel
theorem pg_169 : pGood 169 pJ_169 := pGood_of pk_169
set_option maxRecDepth 100000 in
theorem pk_170 : pAll 7 (pLeaf 170) 0 1 pI_170 = true := by decide +kernel
theorem pg_170 : pGood 170 pJ_170 := pGood_of pk_170
set_option maxRecDepth 100000 in
theorem pk_171 : pAll 7 (pLeaf 171) 0 1 pI_171 = true := by decide +kernel
theorem pg_171 : pGood 171 pJ_171 := pGood_of pk_171
set_option maxRecDepth 100000 in
theorem pk_172 : pAll 7 (pLeaf 172) 0 1 pI_172 = true := by decide +kernel
theorem pg_172 : pGood 172 pJ_172 := pGood_of pk_172
set_option maxRecDepth 100000 in
theorem pk_173 : pAll 7 (pLeaf 173) 0 1 pI_173 = true := by decide +kernel
theorem pg_173 : pGood 173 pJ_173 := pGood_of pk_173
set_option maxRecDepth 100000 in
theorem pk_174 : pAll 7 (pLeaf 174) 0 1 pI_174 = true := by decide +kernel
theorem pg_174 : pGood 174 pJ_174 := pGood_of pk_174
set_option maxRecDepth 100000 in
theorem pk_175 : pAll 7 (pLeaf 175) 0 1 pI_175 = true := by decide +kernel
theorem pg_175 : pGood 175 pJ_175 := pGood_of pk_175
set_option maxRecDepth 100000 in
theorem pk_176 : pAll 6 (pLeaf 176) 0 1 pI_176 = true := by decide +kernel
theorem pg_176 : pGood 176 pJ_176 := pGood_of pk_176
set_option maxRecDepth 100000 in
theorem pk_177 : pAll 6 (pLeaf 177) 0 1 pI_177 = true := by decide +kernel
theorem pg_177 : pGood 177 pJ_177 := pGood_of pk_177
set_option maxRecDepth 100000 in
theorem pk_178 : pAll 6 (pLeaf 178) 0 1 pI_178 = true := by decide +kernel
theorem pg_178 : pGood 178 pJ_178 := pGood_of pk_178
set_option maxRecDepth 100000 in
theorem pk_179 : pAll 6 (pLeaf 179) 0 1 pI_179 = true := by decide +kernel
theorem pg_179 : pGood 179 pJ_179 := pGood_of pk_179
set_option maxRecDepth 100000 in
theorem pk_180 : pAll 6 (pLeaf 180) 0 1 pI_180 = true := by decide +kernel
theorem pg_180 : pGood 180 pJ_180 := pGood_of pk_180
set_option maxRecDepth 100000 in
theorem pk_181 : pAll 7 (pLeaf 181) 0 1 pI_181 = true := by decide +kernel
theorem pg_181 : pGood 181 pJ_181 := pGood_of pk_181
set_option maxRecDepth 100000 in
theorem pk_182 : pAll 6 (pLeaf 182) 0 1 pI_182 = true := by decide +kernel
theorem pg_182 : pGood 182 pJ_182 := pGood_of pk_182
set_option maxRecDepth 100000 in
theorem pk_183 : pAll 5 (pLeaf 183) 0 1 pI_183 = true := by decide +kernel
theorem pg_183 : pGood 183 pJ_183 := pGood_of pk_183
set_option maxRecDepth 100000 in
theorem pk_184 : pAll 5 (pLeaf 184) 0 1 pI_184 = true := by decide +kernel
theorem pg_184 : pGood 184 pJ_184 := pGood_of pk_184
set_option maxRecDepth 100000 in
theorem pk_185 : pAll 6 (pLeaf 185) 0 1 pI_185 = true := by decide +kernel
theorem pg_185 : pGood 185 pJ_185 := pGood_of pk_185
set_option maxRecDepth 100000 in
theorem pk_186 : pAll 8 (pLeaf 186) 0 1 pI_186 = true := by decide +kernel
theorem pg_186 : pGood 186 pJ_186 := pGood_of pk_186
set_option maxRecDepth 100000 in
theorem pk_187 : pAll 5 (pLeaf 187) 0 1 pI_187 = true := by decide +kernel
theorem pg_187 : pGood 187 pJ_187 := pGood_of pk_187
set_option maxRecDepth 100000 in
theorem pk_188 : pAll 4 (pLeaf 188) 0 1 pI_188 = true := by decide +kernel
theorem pg_188 : pGood 188 pJ_188 := pGood_of pk_188
set_option maxRecDepth 100000 in
theorem pk_189 : pAll 5 (pLeaf 189) 0 1 pI_189 = true := by decide +kernel
theorem pg_189 : pGood 189 pJ_189 := pGood_of pk_189
set_option maxRecDepth 100000 in
theorem pk_190 : pAll 5 (pLeaf 190) 0 1 pI_190 = true := by decide +kernel
theorem pg_190 : pGood 190 pJ_190 := pGood_of pk_190
set_option maxRecDepth 100000 in
theorem pk_191 : pAll 5 (pLeaf 191) 0 1 pI_191 = true := by decide +kernel
theorem pg_191 : pGood 191 pJ_191 := pGood_of pk_191
set_option maxRecDepth 100000 in
theorem pk_192 : pAll 4 (pLeaf 192) 0 1 pI_192 = true := by decide +kernel
theorem pg_192 : pGood 192 pJ_192 := pGood_of pk_192
set_option maxRecDepth 100000 in
theorem pk_193 : pAll 4 (pLeaf 193) 0 1 pI_193 = true := by decide +kernel
theorem pg_193 : pGood 193 pJ_193 := pGood_of pk_193
set_option maxRecDepth 100000 in
theorem pk_194 : pAll 4 (pLeaf 194) 0 1 pI_194 = true := by decide +kernel
theorem pg_194 : pGood 194 pJ_194 := pGood_of pk_194
set_option maxRecDepth 100000 in
theorem pk_195 : pAll 6 (pLeaf 195) 0 1 pI_195 = true := by decide +kernel
theorem pg_195 : pGood 195 pJ_195 := pGood_of pk_195
set_option maxRecDepth 100000 in
theorem pk_196 : pAll 4 (pLeaf 196) 0 1 pI_196 = true := by decide +kernel
theorem pg_196 : pGood 196 pJ_196 := pGood_of pk_196
set_option maxRecDepth 100000 in
theorem pk_197 : pAll 6 (pLeaf 197) 0 1 pI_197 = true := by decide +kernel
theorem pg_197 : pGood 197 pJ_197 := pGood_of pk_197
set_option maxRecDepth 100000 in
theorem pk_198 : pAll 6 (pLeaf 198) 0 1 pI_198 = true := by decide +kernel
theorem pg_198 : pGood 198 pJ_198 := pGood_of pk_198
set_option maxRecDepth 100000 in
theorem pk_199 : pAll 6 (pLeaf 199) 0 1 pI_199 = true := by decide +kernel
theorem pg_199 : pGood 199 pJ_199 := pGood_of pk_199
set_option maxRecDepth 100000 in
theorem pk_200 : pAll 6 (pLeaf 200) 0 1 pI_200 = true := by decide +kernel
theorem pg_200 : pGood 200 pJ_200 := pGood_of pk_200
set_option maxRecDepth 100000 in
theorem pk_201 : pAll 6 (pLeaf 201) 0 1 pI_201 = true := by decide +kernel
theorem pg_201 : pGood 201 pJ_201 := pGood_of pk_201
set_option maxRecDepth 100000 in
theorem pk_202 : pAll 5 (pLeaf 202) 0 1 pI_202 = true := by decide +kernel
theorem pg_202 : pGood 202 pJ_202 := pGood_of pk_202
set_option maxRecDepth 100000 in
theorem pk_203 : pAll 7 (pLeaf 203) 0 1 pI_203 = true := by decide +kernel
theorem pg_203 : pGood 203 pJ_203 := pGood_of pk_203
set_option maxRecDepth 100000 in
theorem pk_204 : pAll 6 (pLeaf 204) 0 1 pI_204 = true := by decide +kernel
theorem pg_204 : pGood 204 pJ_204 := pGood_of pk_204
set_option maxRecDepth 100000 in
theorem pk_205 : pAll 5 (pLeaf 205) 0 1 pI_205 = true := by decide +kernel
theorem pg_205 : pGood 205 pJ_205 := pGood_of pk_205
set_option maxRecDepth 100000 in
theorem pk_206 : pAll 6 (pLeaf 206) 0 1 pI_206 = true := by decide +kernel
theorem pg_206 : pGood 206 pJ_206 := pGood_of pk_206
set_option maxRecDepth 100000 in
theorem pk_207 : pAll 6 (pLeaf 207) 0 1 pI_207 = true := by decide +kernel
theorem pg_207 : pGood 207 pJ_207 := pGood_of pk_207
set_option maxRecDepth 100000 in
theorem pk_208 : pAll 6 (pLeaf 208) 0 1 pI_208 = true := by decide +kernel
theorem pg_208 : pGood 208 pJ_208 := pGood_of pk_208
set_option maxRecDepth 100000 in
theorem pk_209 : pAll 5 (pLeaf 209) 0 1 pI_209 = true := by decide +kernel
theorem pg_209 : pGood 209 pJ_209 := pGood_of pk_209
set_option maxRecDepth 100000 in
theorem pk_210 : pAll 8 (pLeaf 210) 0 1 pI_210 = true := by decide +kernel
theorem pg_210 : pGood 210 pJ_210 := pGood_of pk_210
set_option maxRecDepth 100000 in
theorem pk_211 : pAll 5 (pLeaf 211) 0 1 pI_211 = true := by decide +kernel
theorem pg_211 : pGood 211 pJ_211 := pGood_of pk_211
set_option maxRecDepth 100000 in
theorem pk_212 : pAll 4 (pLeaf 212) 0 1 pI_212 = true := by decide +kernel
theorem pg_212 : pGood 212 pJ_212 := pGood_of pk_212
set_option maxRecDepth 100000 in
theorem pk_213 : pAll 5 (pLeaf 213) 0 1 pI_213 = true := by decide +kernel
theorem pg_213 : pGood 213 pJ_213 := pGood_of pk_213
set_option maxRecDepth 100000 in
theorem pk_214 : pAll 8 (pLeaf 214) 0 1 pI_214 = true := by decide +kernel
theorem pg_214 : pGood 214 pJ_214 := pGood_of pk_214
set_option maxRecDepth 100000 in
theorem pk_215 : pAll 7 (pLeaf 215) 0 1 pI_215 = true := by decide +kernel
theorem pg_215 : pGood 215 pJ_215 := pGood_of pk_215
set_option maxRecDepth 100000 in
theorem pk_216 : pAll 7 (pLeaf 216) 0 1 pI_216 = true := by decide +kernel
theorem pg_216 : pGood 216 pJ_216 := pGood_of pk_216
set_option maxRecDepth 100000 in
theorem pk_217 : pAll 4 (pLeaf 217) 0 1 pI_217 = true := by decide +kernel
theorem pg_217 : pGood 217 pJ_217 := pGood_of pk_217
set_option maxRecDepth 100000 in
theorem pk_218 : pAll 5 (pLeaf 218) 0 1 pI_218 = true := by decide +kernel
theorem pg_218 : pGood 218 pJ_218 := pGood_of pk_218
set_option maxRecDepth 100000 in
theorem pk_219 : pAll 8 (pLeaf 219) 0 1 pI_219 = true := by decide +kernel
theorem pg_219 : pGood 219 pJ_219 := pGood_of pk_219
set_option maxRecDepth 100000 in
theorem pk_220 : pAll 9 (pLeaf 220) 0 1 pI_220 = true := by decide +kernel
theorem pg_220 : pGood 220 pJ_220 := pGood_of pk_220
set_option maxRecDepth 100000 in
theorem pk_221 : pAll 6 (pLeaf 221) 0 1 pI_221 = true := by decide +kernel
theorem pg_221 : pGood 221 pJ_221 := pGood_of pk_221
set_option maxRecDepth 100000 in
theorem pk_222 : pAll 5 (pLeaf 222) 0 1 pI_222 = true := by decide +kernel
theorem pg_222 : pGood 222 pJ_222 := pGood_of pk_222
set_option maxRecDepth 100000 in
theorem pk_223 : pAll 6 (pLeaf 223) 0 1 pI_223 = true := by decide +kernel
theorem pg_223 : pGood 223 pJ_223 := pGood_of pk_223
set_option maxRecDepth 100000 in
theorem pk_224 : pAll 4 (pLeaf 224) 0 1 pI_224 = true := by decide +kernel
theorem pg_224 : pGood 224 pJ_224 := pGood_of pk_224
set_option maxRecDepth 100000 in
theorem pk_225 : pAll 7 (pLeaf 225) 0 1 pI_225 = true := by decide +kernel
theorem pg_225 : pGood 225 pJ_225 := pGood_of pk_225
set_option maxRecDepth 100000 in
theorem pk_226 : pAll 7 (pLeaf 226) 0 1 pI_226 = true := by decide +kernel
theorem pg_226 : pGood 226 pJ_226 := pGood_of pk_226
set_option maxRecDepth 100000 in
theorem pk_227 : pAll 7 (pLeaf 227) 0 1 pI_227 = true := by decide +kernel
theorem pg_227 : pGood 227 pJ_227 := pGood_of pk_227
set_option maxRecDepth 100000 in
theorem pk_228 : pAll 7 (pLeaf 228) 0 1 pI_228 = true := by decide +kernel
theorem pg_228 : pGood 228 pJ_228 := pGood_of pk_228
set_option maxRecDepth 100000 in
theorem pk_229 : pAll 7 (pLeaf 229) 0 1 pI_229 = true := by decide +kernel
theorem pg_229 : pGood 229 pJ_229 := pGood_of pk_229
set_option maxRecDepth 100000 in
theorem pk_230 : pAll 6 (pLeaf 230) 0 1 pI_230 = true := by decide +kernel
theorem pg_230 : pGood 230 pJ_230 := pGood_of pk_230
set_option maxRecDepth 100000 in
theorem pk_231 : pAll 5 (pLeaf 231) 0 1 pI_231 = true := by decide +kernel
theorem pg_231 : pGood 231 pJ_231 := pGood_of pk_231
set_option maxRecDepth 100000 in
theorem pk_232 : pAll 5 (pLeaf 232) 0 1 pI_232 = true := by decide +kernel
theorem pg_232 : pGood 232 pJ_232 := pGood_of pk_232
set_option maxRecDepth 100000 in
theorem pk_233 : pAll 6 (pLeaf 233) 0 1 pI_233 = true := by decide +kernel
theorem pg_233 : pGood 233 pJ_233 := pGood_of pk_233
set_option maxRecDepth 100000 in
theorem pk_234 : pAll 5 (pLeaf 234) 0 1 pI_234 = true := by decide +kernel
theorem pg_234 : pGood 234 pJ_234 := pGood_of pk_234
set_option maxRecDepth 100000 in
theorem pk_235 : pAll 5 (pLeaf 235) 0 1 pI_235 = true := by decide +kernel
theorem pg_235 : pGood 235 pJ_235 := pGood_of pk_235
set_option maxRecDepth 100000 in
theorem pk_236 : pAll 5 (pLeaf 236) 0 1 pI_236 = true := by decide +kernel
theorem pg_236 : pGood 236 pJ_236 := pGood_of pk_236
set_option maxRecDepth 100000 in
theorem pk_237 : pAll 5 (pLeaf 237) 0 1 pI_237 = true := by decide +kernel
theorem pg_237 : pGood 237 pJ_237 := pGood_of pk_237
set_option maxRecDepth 100000 in
theorem pk_238 : pAll 6 (pLeaf 238) 0 1 pI_238 = true := by decide +kernel
theorem pg_238 : pGood 238 pJ_238 := pGood_of pk_238
set_option maxRecDepth 100000 in
theorem pk_239 : pAll 5 (pLeaf 239) 0 1 pI_239 = true := by decide +kernel
theorem pg_239 : pGood 239 pJ_239 := pGood_of pk_239
set_option maxRecDepth 100000 in
theorem pk_240 : pAll 6 (pLeaf 240) 0 1 pI_240 = true := by decide +kernel
theorem pg_240 : pGood 240 pJ_240 := pGood_of pk_240
set_option maxRecDepth 100000 in
theorem pk_241 : pAll 5 (pLeaf 241) 0 1 pI_241 = true := by decide +kernel
theorem pg_241 : pGood 241 pJ_241 := pGood_of pk_241
set_option maxRecDepth 100000 in
theorem pk_242 : pAll 5 (pLeaf 242) 0 1 pI_242 = true := by decide +kernel
theorem pg_242 : pGood 242 pJ_242 := pGood_of pk_242
set_option maxRecDepth 100000 in
theorem pk_243 : pAll 5 (pLeaf 243) 0 1 pI_243 = true := by decide +kernel
theorem pg_243 : pGood 243 pJ_243 := pGood_of pk_243
set_option maxRecDepth 100000 in
theorem pk_244 : pAll 6 (pLeaf 244) 0 1 pI_244 = true := by decide +kernel
theorem pg_244 : pGood 244 pJ_244 := pGood_of pk_244
set_option maxRecDepth 100000 in
theorem pk_245 : pAll 7 (pLeaf 245) 0 1 pI_245 = true := by decide +kernel
theorem pg_245 : pGood 245 pJ_245 := pGood_of pk_245
set_option maxRecDepth 100000 in
theorem pk_246 : pAll 6 (pLeaf 246) 0 1 pI_246 = true := by decide +kernel
theorem pg_246 : pGood 246 pJ_246 := pGood_of pk_246
set_option maxRecDepth 100000 in
theorem pk_247 : pAll 4 (pLeaf 247) 0 1 pI_247 = true := by decide +kernel
theorem pg_247 : pGood 247 pJ_247 := pGood_of pk_247
set_option maxRecDepth 100000 in
theorem pk_248 : pAll 5 (pLeaf 248) 0 1 pI_248 = true := by decide +kernel
theorem pg_248 : pGood 248 pJ_248 := pGood_of pk_248
set_option maxRecDepth 100000 in
theorem pk_249 : pAll 6 (pLeaf 249) 0 1 pI_249 = true := by decide +kernel
theorem pg_249 : pGood 249 pJ_249 := pGood_of pk_249
set_option maxRecDepth 100000 in
theorem pk_250 : pAll 5 (pLeaf 250) 0 1 pI_250 = true := by decide +kernel
theorem pg_250 : pGood 250 pJ_250 := pGood_of pk_250
set_option maxRecDepth 100000 in
theorem pk_251 : pAll 6 (pLeaf 251) 0 1 pI_251 = true := by decide +kernel
theorem pg_251 : pGood 251 pJ_251 := pGood_of pk_251
set_option maxRecDepth 100000 in
theorem pk_252 : pAll 7 (pLeaf 252) 0 1 pI_252 = true := by decide +kernel
theorem pg_252 : pGood 252 pJ_252 := pGood_of pk_252
set_option maxRecDepth 100000 in
theorem pk_253 : pAll 6 (pLeaf 253) 0 1 pI_253 = true := by decide +kernel
theorem pg_253 : pGood 253 pJ_253 := pGood_of pk_253
set_option maxRecDepth 100000 in
theorem pk_254 : pAll 7 (pLeaf 254) 0 1 pI_254 = true := by decide +kernel
theorem pg_254 : pGood 254 pJ_254 := pGood_of pk_254
set_option maxRecDepth 100000 in
theorem pk_255 : pAll 6 (pLeaf 255) 0 1 pI_255 = true := by decide +kernel
theorem pg_255 : pGood 255 pJ_255 := pGood_of pk_255
set_option maxRecDepth 100000 in
theorem pk_256 : pAll 5 (pLeaf 256) 0 1 pI_256 = true := by decide +kernel
theorem pg_256 : pGood 256 pJ_256 := pGood_of pk_256
set_option maxRecDepth 100000 in
theorem pk_257 : pAll 6 (pLeaf 257) 0 1 pI_257 = true := by decide +kernel
theorem pg_257 : pGood 257 pJ_257 := pGood_of pk_257
set_option maxRecDepth 100000 in
theorem pk_258 : pAll 6 (pLeaf 258) 0 1 pI_258 = true := by decide +kernel
theorem pg_258 : pGood 258 pJ_258 := pGood_of pk_258
set_option maxRecDepth 100000 in
theorem pk_259 : pAll 6 (pLeaf 259) 0 1 pI_259 = true := by decide +kernel
theorem pg_259 : pGood 259 pJ_259 := pGood_of pk_259
set_option maxRecDepth 100000 in
theorem pk_260 : pAll 8 (pLeaf 260) 0 1 pI_260 = true := by decide +kernel
theorem pg_260 : pGood 260 pJ_260 := pGood_of pk_260
set_option maxRecDepth 100000 in
theorem pk_261 : pAll 6 (pLeaf 261) 0 1 pI_261 = true := by decide +kernel
theorem pg_261 : pGood 261 pJ_261 := pGood_of pk_261
set_option maxRecDepth 100000 in
theorem pk_262 : pAll 7 (pLeaf 262) 0 1 pI_262 = true := by decide +kernel
theorem pg_262 : pGood 262 pJ_262 := pGood_of pk_262
set_option maxRecDepth 100000 in
theorem pk_263 : pAll 3 (pLeaf 263) 0 1 pI_263 = true := by decide +kernel
theorem pg_263 : pGood 263 pJ_263 := pGood_of pk_263
set_option maxRecDepth 100000 in
theorem pk_264 : pAll 4 (pLeaf 264) 0 1 pI_264 = true := by decide +kernel
theorem pg_264 : pGood 264 pJ_264 := pGood_of pk_264
set_option maxRecDepth 100000 in
theorem pk_265 : pAll 5 (pLeaf 265) 0 1 pI_265 = true := by decide +kernel
theorem pg_265 : pGood 265 pJ_265 := pGood_of pk_265
set_option maxRecDepth 100000 in
theorem pk_266 : pAll 5 (pLeaf 266) 0 1 pI_266 = true := by decide +kernel
theorem pg_266 : pGood 266 pJ_266 := pGood_of pk_266
set_option maxRecDepth 100000 in
theorem pk_267 : pAll 5 (pLeaf 267) 0 1 pI_267 = true := by decide +kernel
theorem pg_267 : pGood 267 pJ_267 := pGood_of pk_267
set_option maxRecDepth 100000 in
theorem pk_268 : pAll 5 (pLeaf 268) 0 1 pI_268 = true := by decide +kernel
theorem pg_268 : pGood 268 pJ_268 := pGood_of pk_268
set_option maxRecDepth 100000 in
theorem pk_269 : pAll 7 (pLeaf 269) 0 1 pI_269 = true := by decide +kernel
theorem pg_269 : pGood 269 pJ_269 := pGood_of pk_269
set_option maxRecDepth 100000 in
theorem pk_270 : pAll 6 (pLeaf 270) 0 1 pI_270 = true := by decide +kernel
theorem pg_270 : pGood 270 pJ_270 := pGood_of pk_270
set_option maxRecDepth 100000 in
theorem pk_271 : pAll 5 (pLeaf 271) 0 1 pI_271 = true := by decide +kernel
theorem pg_271 : pGood 271 pJ_271 := pGood_of pk_271
set_option maxRecDepth 100000 in
theorem pk_272 : pAll 5 (pLeaf 272) 0 1 pI_272 = true := by decide +kernel
theorem pg_272 : pGood 272 pJ_272 := pGood_of pk_272
set_option maxRecDepth 100000 in
theorem pk_273 : pAll 6 (pLeaf 273) 0 1 pI_273 = true := by decide +kernel
theorem pg_273 : pGood 273 pJ_273 := pGood_of pk_273
set_option maxRecDepth 100000 in
theorem pk_274 : pAll 5 (pLeaf 274) 0 1 pI_274 = true := by decide +kernel
theorem pg_274 : pGood 274 pJ_274 := pGood_of pk_274
set_option maxRecDepth 100000 in
theorem pk_275 : pAll 5 (pLeaf 275) 0 1 pI_275 = true := by decide +kernel
theorem pg_275 : pGood 275 pJ_275 := pGood_of pk_275
set_option maxRecDepth 100000 in
theorem pk_276 : pAll 7 (pLeaf 276) 0 1 pI_276 = true := by decide +kernel
theorem pg_276 : pGood 276 pJ_276 := pGood_of pk_276
set_option maxRecDepth 100000 in
theorem pk_277 : pAll 7 (pLeaf 277) 0 1 pI_277 = true := by decide +kernel
theorem pg_277 : pGood 277 pJ_277 := pGood_of pk_277
set_option maxRecDepth 100000 in
theorem pk_278 : pAll 8 (pLeaf 278) 0 1 pI_278 = true := by decide +kernel
theorem pg_278 : pGood 278 pJ_278 := pGood_of pk_278
set_option maxRecDepth 100000 in
theorem pk_279 : pAll 6 (pLeaf 279) 0 1 pI_279 = true := by decide +kernel
theorem pg_279 : pGood 279 pJ_279 := pGood_of pk_279
set_option maxRecDepth 100000 in
theorem pk_280 : pAll 6 (pLeaf 280) 0 1 pI_280 = true := by decide +kernel
theorem pg_280 : pGood 280 pJ_280 := pGood_of pk_280
set_option maxRecDepth 100000 in
theorem pk_281 : pAll 6 (pLeaf 281) 0 1 pI_281 = true := by decide +kernel
theorem pg_281 : pGood 281 pJ_281 := pGood_of pk_281
set_option maxRecDepth 100000 in
theorem pk_282 : pAll 6 (pLeaf 282) 0 1 pI_282 = true := by decide +kernel
theorem pg_282 : pGood 282 pJ_282 := pGood_of pk_282
set_option maxRecDepth 100000 in
theorem pk_283 : pAll 7 (pLeaf 283) 0 1 pI_283 = true := by decide +kernel
theorem pg_283 : pGood 283 pJ_283 := pGood_of pk_283
set_option maxRecDepth 100000 in
theorem pk_284 : pAll 6 (pLeaf 284) 0 1 pI_284 = true := by decide +kernel
theorem pg_284 : pGood 284 pJ_284 := pGood_of pk_284
set_option maxRecDepth 100000 in
theorem pk_285 : pAll 7 (pLeaf 285) 0 1 pI_285 = true := by decide +kernel
theorem pg_285 : pGood 285 pJ_285 := pGood_of pk_285
set_option maxRecDepth 100000 in
theorem pk_286 : pAll 5 (pLeaf 286) 0 1 pI_286 = true := by decide +kernel
theorem pg_286 : pGood 286 pJ_286 := pGood_of pk_286
set_option maxRecDepth 100000 in
theorem pk_287 : pAll 6 (pLeaf 287) 0 1 pI_287 = true := by decide +kernel
theorem pg_287 : pGood 287 pJ_287 := pGood_of pk_287
set_option maxRecDepth 100000 in
theorem pk_288 : pAll 5 (pLeaf 288) 0 1 pI_288 = true := by decide +kernel
theorem pg_288 : pGood 288 pJ_288 := pGood_of pk_288
set_option maxRecDepth 100000 in
theorem pk_289 : pAll 8 (pLeaf 289) 0 1 pI_289 = true := by decide +kernel
theorem pg_289 : pGood 289 pJ_289 := pGood_of pk_289
set_option maxRecDepth 100000 in
theorem pk_290 : pAll 5 (pLeaf 290) 0 1 pI_290 = true := by decide +kernel
theorem pg_290 : pGood 290 pJ_290 := pGood_of pk_290
set_option maxRecDepth 100000 in
theorem pk_291 : pAll 7 (pLeaf 291) 0 1 pI_291 = true := by decide +kernel
theorem pg_291 : pGood 291 pJ_291 := pGood_of pk_291
set_option maxRecDepth 100000 in
theorem pk_292 : pAll 6 (pLeaf 292) 0 1 pI_292 = true := by decide +kernel
theorem pg_292 : pGood 292 pJ_292 := pGood_of pk_292
set_option maxRecDepth 100000 in
theorem pk_293 : pAll 6 (pLeaf 293) 0 1 pI_293 = true := by decide +kernel
theorem pg_293 : pGood 293 pJ_293 := pGood_of pk_293
set_option maxRecDepth 100000 in
theorem pk_294 : pAll 7 (pLeaf 294) 0 1 pI_294 = true := by decide +kernel
theorem pg_294 : pGood 294 pJ_294 := pGood_of pk_294
set_option maxRecDepth 100000 in
theorem pk_295 : pAll 7 (pLeaf 295) 0 1 pI_295 = true := by decide +kernel
theorem pg_295 : pGood 295 pJ_295 := pGood_of pk_295
set_option maxRecDepth 100000 in
theorem pk_296 : pAll 6 (pLeaf 296) 0 1 pI_296 = true := by decide +kernel
theorem pg_296 : pGood 296 pJ_296 := pGood_of pk_296
set_option maxRecDepth 100000 in
theorem pk_297 : pAll 6 (pLeaf 297) 0 1 pI_297 = true := by decide +kernel
theorem pg_297 : pGood 297 pJ_297 := pGood_of pk_297
set_option maxRecDepth 100000 in
theorem pk_298 : pAll 7 (pLeaf 298) 0 1 pI_298 = true := by decide +kernel
theorem pg_298 : pGood 298 pJ_298 := pGood_of pk_298
set_option maxRecDepth 100000 in
theorem pk_299 : pAll 6 (pLeaf 299) 0 1 pI_299 = true := by decide +kernel
theorem pg_299 : pGood 299 pJ_299 := pGood_of pk_299
set_option maxRecDepth 100000 in
theorem pk_300 : pAll 7 (pLeaf 300) 0 1 pI_300 = true := by decide +kernel
theorem pg_300 : pGood 300 pJ_300 := pGood_of pk_300
set_option maxRecDepth 100000 in
theorem pk_301 : pAll 6 (pLeaf 301) 0 1 pI_301 = true := by decide +kernel
theorem pg_301 : pGood 301 pJ_301 := pGood_of pk_301
set_option maxRecDepth 100000 in
theorem pk_302 : pAll 5 (pLeaf 302) 0 1 pI_302 = true := by decide +kernel
theorem pg_302 : pGood 302 pJ_302 := pGood_of pk_302
set_option maxRecDepth 100000 in
theorem pk_303 : pAll 6 (pLeaf 303) 0 1 pI_303 = true := by decide +kernel
theorem pg_303 : pGood 303 pJ_303 := pGood_of pk_303
set_option maxRecDepth 100000 in
theorem pk_304 : pAll 7 (pLeaf 304) 0 1 pI_304 = true := by decide +kernel
theorem pg_304 : pGood 304 pJ_304 := pGood_of pk_304
set_option maxRecDepth 100000 in
theorem pk_305 : pAll 6 (pLeaf 305) 0 1 pI_305 = true := by decide +kernel
theorem pg_305 : pGood 305 pJ_305 := pGood_of pk_305
set_option maxRecDepth 100000 in
theorem pk_306 : pAll 8 (pLeaf 306) 0 1 pI_306 = true := by decide +kernel
theorem pg_306 : pGood 306 pJ_306 := pGood_of pk_306
set_option maxRecDepth 100000 in
theorem pk_307 : pAll 7 (pLeaf 307) 0 1 pI_307 = true := by decide +kernel
theorem pg_307 : pGood 307 pJ_307 := pGood_of pk_307
set_option maxRecDepth 100000 in
theorem pk_308 : pAll 7 (pLeaf 308) 0 1 pI_308 = true := by decide +kernel
theorem pg_308 : pGood 308 pJ_308 := pGood_of pk_308
set_option maxRecDepth 100000 in
theorem pk_309 : pAll 7 (pLeaf 309) 0 1 pI_309 = true := by decide +kernel
theorem pg_309 : pGood 309 pJ_309 := pGood_of pk_309
set_option maxRecDepth 100000 in
theorem pk_310 : pAll 6 (pLeaf 310) 0 1 pI_310 = true := by decide +kernel
theorem pg_310 : pGood 310 pJ_310 := pGood_of pk_310
set_option maxRecDepth 100000 in
theorem pk_311 : pAll 5 (pLeaf 311) 0 1 pI_311 = true := by decide +kernel
theorem pg_311 : pGood 311 pJ_311 := pGood_of pk_311
set_option maxRecDepth 100000 in
theorem pk_312 : pAll 7 (pLeaf 312) 0 1 pI_312 = true := by decide +kernel
theorem pg_312 : pGood 312 pJ_312 := pGood_of pk_312
set_option maxRecDepth 100000 in
theorem pk_313 : pAll 7 (pLeaf 313) 0 1 pI_313 = true := by decide +kernel
theorem pg_313 : pGood 313 pJ_313 := pGood_of pk_313
set_option maxRecDepth 100000 in
theorem pk_314 : pAll 8 (pLeaf 314) 0 1 pI_314 = true := by decide +kernel
theorem pg_314 : pGood 314 pJ_314 := pGood_of pk_314
set_option maxRecDepth 100000 in
theorem pk_315 : pAll 7 (pLeaf 315) 0 1 pI_315 = true := by decide +kernel
theorem pg_315 : pGood 315 pJ_315 := pGood_of pk_315
set_option maxRecDepth 100000 in
theorem pk_316 : pAll 7 (pLeaf 316) 0 1 pI_316 = true := by decide +kernel
theorem pg_316 : pGood 316 pJ_316 := pGood_of pk_316
set_option maxRecDepth 100000 in
theorem pk_317 : pAll 6 (pLeaf 317) 0 1 pI_317 = true := by decide +kernel
theorem pg_317 : pGood 317 pJ_317 := pGood_of pk_317
set_option maxRecDepth 100000 in
theorem pk_318 : pAll 8 (pLeaf 318) 0 1 pI_318 = true := by decide +kernel
theorem pg_318 : pGood 318 pJ_318 := pGood_of pk_318
set_option maxRecDepth 100000 in
theorem pk_319 : pAll 6 (pLeaf 319) 0 1 pI_319 = true := by decide +kernel
theorem pg_319 : pGood 319 pJ_319 := pGood_of pk_319
set_option maxRecDepth 100000 in
theorem pk_320 : pAll 7 (pLeaf 320) 0 1 pI_320 = true := by decide +kernel
theorem pg_320 : pGood 320 pJ_320 := pGood_of pk_320
set_option maxRecDepth 100000 in
theorem pk_321 : pAll 3 (pLeaf 321) 0 1 pI_321 = true := by decide +kernel
theorem pg_321 : pGood 321 pJ_321 := pGood_of pk_321
set_option maxRecDepth 100000 in
theorem pk_322 : pAll 7 (pLeaf 322) 0 1 pI_322 = true := by decide +kernel
theorem pg_322 : pGood 322 pJ_322 := pGood_of pk_322
set_option maxRecDepth 100000 in
theorem pk_323 : pAll 7 (pLeaf 323) 0 1 pI_323 = true := by decide +kernel
theorem pg_323 : pGood 323 pJ_323 := pGood_of pk_323
set_option maxRecDepth 100000 in
theorem pk_324 : pAll 7 (pLeaf 324) 0 1 pI_324 = true := by decide +kernel
theorem pg_324 : pGood 324 pJ_324 := pGood_of pk_324
set_option maxRecDepth 100000 in
theorem pk_325 : pAll 6 (pLeaf 325) 0 1 pI_325 = true := by decide +kernel
theorem pg_325 : pGood 325 pJ_325 := pGood_of pk_325
set_option maxRecDepth 100000 in
theorem pk_326 : pAll 6 (pLeaf 326) 0 1 pI_326 = true := by decide +kernel
theorem pg_326 : pGood 326 pJ_326 := pGood_of pk_326
set_option maxRecDepth 100000 in
theorem pk_327 : pAll 6 (pLeaf 327) 0 1 pI_327 = true := by decide +kernel
theorem pg_327 : pGood 327 pJ_327 := pGood_of pk_327
set_option maxRecDepth 100000 in
theorem pk_328 : pAll 8 (pLeaf 328) 0 1 pI_328 = true := by decide +kernel
theorem pg_328 : pGood 328 pJ_328 := pGood_of pk_328
set_option maxRecDepth 100000 in
theorem pk_329 : pAll 7 (pLeaf 329) 0 1 pI_329 = true := by decide +kernel
theorem pg_329 : pGood 329 pJ_329 := pGood_of pk_329
set_option maxRecDepth 100000 in
theorem pk_330 : pAll 7 (pLeaf 330) 0 1 pI_330 = true := by decide +kernel
theorem pg_330 : pGood 330 pJ_330 := pGood_of pk_330
set_option maxRecDepth 100000 in
theorem pk_331 : pAll 7 (pLeaf 331) 0 1 pI_331 = true := by decide +kernel
theorem pg_331 : pGood 331 pJ_331 := pGood_of pk_331
set_option maxRecDepth 100000 in
theorem pk_332 : pAll 7 (pLeaf 332) 0 1 pI_332 = true := by decide +kernel
theorem pg_332 : pGood 332 pJ_332 := pGood_of pk_332
set_option maxRecDepth 100000 in
theorem pk_333 : pAll 6 (pLeaf 333) 0 1 pI_333 = true := by decide +kernel
theorem pg_333 : pGood 333 pJ_333 := pGood_of pk_333
set_option maxRecDepth 100000 in
theorem pk_334 : pAll 5 (pLeaf 334) 0 1 pI_334 = true := by decide +kernel
theorem pg_334 : pGood 334 pJ_334 := pGood_of pk_334
set_option maxRecDepth 100000 in
theorem pk_335 : pAll 6 (pLeaf 335) 0 1 pI_335 = true := by decide +kernel
theorem pg_335 : pGood 335 pJ_335 := pGood_of pk_335
set_option maxRecDepth 100000 in
theorem pk_336 : pAll 5 (pLeaf 336) 0 1 pI_336 = true := by decide +kernel
theorem pg_336 : pGood 336 pJ_336 := pGood_of pk_336
set_option maxRecDepth 100000 in
theorem pk_337 : pAll 5 (pLeaf 337) 0 1 pI_337 = true := by decide +kernel
theorem pg_337 : pGood 337 pJ_337 := pGood_of pk_337
set_option maxRecDepth 100000 in
theorem pk_338 : pAll 5 (pLeaf 338) 0 1 pI_338 = true := by decide +kernel
theorem pg_338 : pGood 338 pJ_338 := pGood_of pk_338
set_option maxRecDepth 100000 in
theorem pk_339 : pAll 5 (pLeaf 339) 0 1 pI_339 = true := by decide +kernel
theorem pg_339 : pGood 339 pJ_339 := pGood_of pk_339
set_option maxRecDepth 100000 in
theorem pk_340 : pAll 7 (pLeaf 340) 0 1 pI_340 = true := by decide +kernel
theorem pg_340 : pGood 340 pJ_340 := pGood_of pk_340
set_option maxRecDepth 100000 in
theorem pk_341 : pAll 6 (pLeaf 341) 0 1 pI_341 = true := by decide +kernel
theorem pg_341 : pGood 341 pJ_341 := pGood_of pk_341
set_option maxRecDepth 100000 in
theorem pk_342 : pAll 6 (pLeaf 342) 0 1 pI_342 = true := by decide +kernel
theorem pg_342 : pGood 342 pJ_342 := pGood_of pk_342
set_option maxRecDepth 100000 in
theorem pk_343 : pAll 4 (pLeaf 343) 0 1 pI_343 = true := by decide +kernel
theorem pg_343 : pGood 343 pJ_343 := pGood_of pk_343
set_option maxRecDepth 100000 in
theorem pk_344 : pAll 5 (pLeaf 344) 0 1 pI_344 = true := by decide +kernel
theorem pg_344 : pGood 344 pJ_344 := pGood_of pk_344
set_option maxRecDepth 100000 in
theorem pk_345 : pAll 3 (pLeaf 345) 0 1 pI_345 = true := by decide +kernel
theorem pg_345 : pGood 345 pJ_345 := pGood_of pk_345
set_option maxRecDepth 100000 in
theorem pk_346 : pAll 4 (pLeaf 346) 0 1 pI_346 = true := by decide +kernel
theorem pg_346 : pGood 346 pJ_346 := pGood_of pk_346
set_option maxRecDepth 100000 in
theorem pk_347 : pAll 4 (pLeaf 347) 0 1 pI_347 = true := by decide +kernel
theorem pg_347 : pGood 347 pJ_347 := pGood_of pk_347
set_option maxRecDepth 100000 in
theorem pk_348 : pAll 5 (pLeaf 348) 0 1 pI_348 = true := by decide +kernel
theorem pg_348 : pGood 348 pJ_348 := pGood_of pk_348
set_option maxRecDepth 100000 in
theorem pk_349 : pAll 5 (pLeaf 349) 0 1 pI_349 = true := by decide +kernel
theorem pg_349 : pGood 349 pJ_349 := pGood_of pk_349
set_option maxRecDepth 100000 in
theorem pk_350 : pAll 6 (pLeaf 350) 0 1 pI_350 = true := by decide +kernel
theorem pg_350 : pGood 350 pJ_350 := pGood_of pk_350
set_option maxRecDepth 100000 in
theorem pk_351 : pAll 5 (pLeaf 351) 0 1 pI_351 = true := by decide +kernel
theorem pg_351 : pGood 351 pJ_351 := pGood_of pk_351
set_option maxRecDepth 100000 in
theorem pk_352 : pAll 5 (pLeaf 352) 0 1 pI_352 = true := by decide +kernel
theorem pg_352 : pGood 352 pJ_352 := pGood_of pk_352
set_option maxRecDepth 100000 in
theorem pk_353 : pAll 4 (pLeaf 353) 0 1 pI_353 = true := by decide +kernel
theorem pg_353 : pGood 353 pJ_353 := pGood_of pk_353
set_option maxRecDepth 100000 in
theorem pk_354 : pAll 4 (pLeaf 354) 0 1 pI_354 = true := by decide +kernel
theorem pg_354 : pGood 354 pJ_354 := pGood_of pk_354
set_option maxRecDepth 100000 in
theorem pk_355 : pAll 5 (pLeaf 355) 0 1 pI_355 = true := by decide +kernel
theorem pg_355 : pGood 355 pJ_355 := pGood_of pk_355
set_option maxRecDepth 100000 in
theorem pk_356 : pAll 5 (pLeaf 356) 0 1 pI_356 = true := by decide +kernel
theorem pg_356 : pGood 356 pJ_356 := pGood_of pk_356
theorem pGoodN (i : Nat) : pGood i pJn := fun _ _ h => by cases h
def pAllP {A : Type} (d : Nat) : (Nat → A → Prop) → Nat → Nat → pT d A → Prop := Nat.rec (motive := fun d => (Nat → A → Prop) → Nat → Nat → pT d A → Prop) (fun f off _ x => f off x) (fun _ g f off stp t => g f off (stp * 2) t.1 ∧ g f (off + stp) (stp * 2) t.2) d
theorem pAllP_get {A : Type} (d : Nat) : ∀ (f : Nat → A → Prop) (off stp : Nat) (t : pT d A), pAllP d f off stp t → ∀ k, k < 2 ^ d → f (off + stp * k) (pTget d t k) := by
  induction d with
  | zero =>
    intro f off stp t h k hk
    have : k = 0 := by simpa using hk
    subst this
    rw [Nat.mul_zero, Nat.add_zero]
    exact h
  | succ d ih =>
    intro f off stp t h k hk
    have h1 : pAllP d f off (stp * 2) t.1 ∧ pAllP d f (off + stp) (stp * 2) t.2 := h
    have hk2 : k / 2 < 2 ^ d := by
      rw [Nat.pow_succ] at hk
      omega
    show f (off + stp * k) (bif Nat.beq (Nat.mod k 2) 0 then pTget d t.1 (Nat.div k 2) else pTget d t.2 (Nat.div k 2))
    have hm : Nat.mod k 2 = k % 2 := rfl
    have hd : Nat.div k 2 = k / 2 := rfl
    rw [hm, hd]
    rcases Nat.mod_two_eq_zero_or_one k with e | e
    · have := ih f off (stp * 2) t.1 h1.1 (k / 2) hk2
      rw [e]
      have e2 : off + stp * 2 * (k / 2) = off + stp * k := by
        rw [Nat.mul_assoc]
        congr 2
        omega
      rw [e2] at this
      exact this
    · have := ih f (off + stp) (stp * 2) t.2 h1.2 (k / 2) hk2
      rw [e]
      have e2 : off + stp + stp * 2 * (k / 2) = off + stp * k := by
        rw [Nat.mul_assoc, Nat.add_assoc]
        congr 1
        have hk3 : 2 * (k / 2) + 1 = k := by omega
        rw [Nat.add_comm, ← Nat.mul_succ]
        exact congrArg _ hk3
      rw [e2] at this
      exact this
theorem pJ_all : pAllP 9 pGood 0 1 pJ := ⟨⟨⟨⟨⟨⟨⟨⟨⟨pg_0, pg_256⟩, ⟨pg_128, (pGoodN 384)⟩⟩, ⟨⟨pg_64, pg_320⟩, ⟨pg_192, (pGoodN 448)⟩⟩⟩, ⟨⟨⟨pg_32, pg_288⟩, ⟨pg_160, (pGoodN 416)⟩⟩, ⟨⟨pg_96, pg_352⟩, ⟨pg_224, (pGoodN 480)⟩⟩⟩⟩, ⟨⟨⟨⟨pg_16, pg_272⟩, ⟨pg_144, (pGoodN 400)⟩⟩, ⟨⟨pg_80, pg_336⟩, ⟨pg_208, (pGoodN 464)⟩⟩⟩, ⟨⟨⟨pg_48, pg_304⟩, ⟨pg_176, (pGoodN 432)⟩⟩, ⟨⟨pg_112, (pGoodN 368)⟩, ⟨pg_240, (pGoodN 496)⟩⟩⟩⟩⟩, ⟨⟨⟨⟨⟨pg_8, pg_264⟩, ⟨pg_136, (pGoodN 392)⟩⟩, ⟨⟨pg_72, pg_328⟩, ⟨pg_200, (pGoodN 456)⟩⟩⟩, ⟨⟨⟨pg_40, pg_296⟩, ⟨pg_168, (pGoodN 424)⟩⟩, ⟨⟨pg_104, (pGoodN 360)⟩, ⟨pg_232, (pGoodN 488)⟩⟩⟩⟩, ⟨⟨⟨⟨pg_24, pg_280⟩, ⟨pg_152, (pGoodN 408)⟩⟩, ⟨⟨pg_88, pg_344⟩, ⟨pg_216, (pGoodN 472)⟩⟩⟩, ⟨⟨⟨pg_56, pg_312⟩, ⟨pg_184, (pGoodN 440)⟩⟩, ⟨⟨pg_120, (pGoodN 376)⟩, ⟨pg_248, (pGoodN 504)⟩⟩⟩⟩⟩⟩, ⟨⟨⟨⟨⟨⟨pg_4, pg_260⟩, ⟨pg_132, (pGoodN 388)⟩⟩, ⟨⟨pg_68, pg_324⟩, ⟨pg_196, (pGoodN 452)⟩⟩⟩, ⟨⟨⟨pg_36, pg_292⟩, ⟨pg_164, (pGoodN 420)⟩⟩, ⟨⟨pg_100, pg_356⟩, ⟨pg_228, (pGoodN 484)⟩⟩⟩⟩, ⟨⟨⟨⟨pg_20, pg_276⟩, ⟨pg_148, (pGoodN 404)⟩⟩, ⟨⟨pg_84, pg_340⟩, ⟨pg_212, (pGoodN 468)⟩⟩⟩, ⟨⟨⟨pg_52, pg_308⟩, ⟨pg_180, (pGoodN 436)⟩⟩, ⟨⟨pg_116, (pGoodN 372)⟩, ⟨pg_244, (pGoodN 500)⟩⟩⟩⟩⟩, ⟨⟨⟨⟨⟨pg_12, pg_268⟩, ⟨pg_140, (pGoodN 396)⟩⟩, ⟨⟨pg_76, pg_332⟩, ⟨pg_204, (pGoodN 460)⟩⟩⟩, ⟨⟨⟨pg_44, pg_300⟩, ⟨pg_172, (pGoodN 428)⟩⟩, ⟨⟨pg_108, (pGoodN 364)⟩, ⟨pg_236, (pGoodN 492)⟩⟩⟩⟩, ⟨⟨⟨⟨pg_28, pg_284⟩, ⟨pg_156, (pGoodN 412)⟩⟩, ⟨⟨pg_92, pg_348⟩, ⟨pg_220, (pGoodN 476)⟩⟩⟩, ⟨⟨⟨pg_60, pg_316⟩, ⟨pg_188, (pGoodN 444)⟩⟩, ⟨⟨pg_124, (pGoodN 380)⟩, ⟨pg_252, (pGoodN 508)⟩⟩⟩⟩⟩⟩⟩, ⟨⟨⟨⟨⟨⟨⟨pg_2, pg_258⟩, ⟨pg_130, (pGoodN 386)⟩⟩, ⟨⟨pg_66, pg_322⟩, ⟨pg_194, (pGoodN 450)⟩⟩⟩, ⟨⟨⟨pg_34, pg_290⟩, ⟨pg_162, (pGoodN 418)⟩⟩, ⟨⟨pg_98, pg_354⟩, ⟨pg_226, (pGoodN 482)⟩⟩⟩⟩, ⟨⟨⟨⟨pg_18, pg_274⟩, ⟨pg_146, (pGoodN 402)⟩⟩, ⟨⟨pg_82, pg_338⟩, ⟨pg_210, (pGoodN 466)⟩⟩⟩, ⟨⟨⟨pg_50, pg_306⟩, ⟨pg_178, (pGoodN 434)⟩⟩, ⟨⟨pg_114, (pGoodN 370)⟩, ⟨pg_242, (pGoodN 498)⟩⟩⟩⟩⟩, ⟨⟨⟨⟨⟨pg_10, pg_266⟩, ⟨pg_138, (pGoodN 394)⟩⟩, ⟨⟨pg_74, pg_330⟩, ⟨pg_202, (pGoodN 458)⟩⟩⟩, ⟨⟨⟨pg_42, pg_298⟩, ⟨pg_170, (pGoodN 426)⟩⟩, ⟨⟨pg_106, (pGoodN 362)⟩, ⟨pg_234, (pGoodN 490)⟩⟩⟩⟩, ⟨⟨⟨⟨pg_26, pg_282⟩, ⟨pg_154, (pGoodN 410)⟩⟩, ⟨⟨pg_90, pg_346⟩, ⟨pg_218, (pGoodN 474)⟩⟩⟩, ⟨⟨⟨pg_58, pg_314⟩, ⟨pg_186, (pGoodN 442)⟩⟩, ⟨⟨pg_122, (pGoodN 378)⟩, ⟨pg_250, (pGoodN 506)⟩⟩⟩⟩⟩⟩, ⟨⟨⟨⟨⟨⟨pg_6, pg_262⟩, ⟨pg_134, (pGoodN 390)⟩⟩, ⟨⟨pg_70, pg_326⟩, ⟨pg_198, (pGoodN 454)⟩⟩⟩, ⟨⟨⟨pg_38, pg_294⟩, ⟨pg_166, (pGoodN 422)⟩⟩, ⟨⟨pg_102, (pGoodN 358)⟩, ⟨pg_230, (pGoodN 486)⟩⟩⟩⟩, ⟨⟨⟨⟨pg_22, pg_278⟩, ⟨pg_150, (pGoodN 406)⟩⟩, ⟨⟨pg_86, pg_342⟩, ⟨pg_214, (pGoodN 470)⟩⟩⟩, ⟨⟨⟨pg_54, pg_310⟩, ⟨pg_182, (pGoodN 438)⟩⟩, ⟨⟨pg_118, (pGoodN 374)⟩, ⟨pg_246, (pGoodN 502)⟩⟩⟩⟩⟩, ⟨⟨⟨⟨⟨pg_14, pg_270⟩, ⟨pg_142, (pGoodN 398)⟩⟩, ⟨⟨pg_78, pg_334⟩, ⟨pg_206, (pGoodN 462)⟩⟩⟩, ⟨⟨⟨pg_46, pg_302⟩, ⟨pg_174, (pGoodN 430)⟩⟩, ⟨⟨pg_110, (pGoodN 366)⟩, ⟨pg_238, (pGoodN 494)⟩⟩⟩⟩, ⟨⟨⟨⟨pg_30, pg_286⟩, ⟨pg_158, (pGoodN 414)⟩⟩, ⟨⟨pg_94, pg_350⟩, ⟨pg_222, (pGoodN 478)⟩⟩⟩, ⟨⟨⟨pg_62, pg_318⟩, ⟨pg_190, (pGoodN 446)⟩⟩, ⟨⟨pg_126, (pGoodN 382)⟩, ⟨pg_254, (pGoodN 510)⟩⟩⟩⟩⟩⟩⟩⟩, ⟨⟨⟨⟨⟨⟨⟨⟨pg_1, pg_257⟩, ⟨pg_129, (pGoodN 385)⟩⟩, ⟨⟨pg_65, pg_321⟩, ⟨pg_193, (pGoodN 449)⟩⟩⟩, ⟨⟨⟨pg_33, pg_289⟩, ⟨pg_161, (pGoodN 417)⟩⟩, ⟨⟨pg_97, pg_353⟩, ⟨pg_225, (pGoodN 481)⟩⟩⟩⟩, ⟨⟨⟨⟨pg_17, pg_273⟩, ⟨pg_145, (pGoodN 401)⟩⟩, ⟨⟨pg_81, pg_337⟩, ⟨pg_209, (pGoodN 465)⟩⟩⟩, ⟨⟨⟨pg_49, pg_305⟩, ⟨pg_177, (pGoodN 433)⟩⟩, ⟨⟨pg_113, (pGoodN 369)⟩, ⟨pg_241, (pGoodN 497)⟩⟩⟩⟩⟩, ⟨⟨⟨⟨⟨pg_9, pg_265⟩, ⟨pg_137, (pGoodN 393)⟩⟩, ⟨⟨pg_73, pg_329⟩, ⟨pg_201, (pGoodN 457)⟩⟩⟩, ⟨⟨⟨pg_41, pg_297⟩, ⟨pg_169, (pGoodN 425)⟩⟩, ⟨⟨pg_105, (pGoodN 361)⟩, ⟨pg_233, (pGoodN 489)⟩⟩⟩⟩, ⟨⟨⟨⟨pg_25, pg_281⟩, ⟨pg_153, (pGoodN 409)⟩⟩, ⟨⟨pg_89, pg_345⟩, ⟨pg_217, (pGoodN 473)⟩⟩⟩, ⟨⟨⟨pg_57, pg_313⟩, ⟨pg_185, (pGoodN 441)⟩⟩, ⟨⟨pg_121, (pGoodN 377)⟩, ⟨pg_249, (pGoodN 505)⟩⟩⟩⟩⟩⟩, ⟨⟨⟨⟨⟨⟨pg_5, pg_261⟩, ⟨pg_133, (pGoodN 389)⟩⟩, ⟨⟨pg_69, pg_325⟩, ⟨pg_197, (pGoodN 453)⟩⟩⟩, ⟨⟨⟨pg_37, pg_293⟩, ⟨pg_165, (pGoodN 421)⟩⟩, ⟨⟨pg_101, (pGoodN 357)⟩, ⟨pg_229, (pGoodN 485)⟩⟩⟩⟩, ⟨⟨⟨⟨pg_21, pg_277⟩, ⟨pg_149, (pGoodN 405)⟩⟩, ⟨⟨pg_85, pg_341⟩, ⟨pg_213, (pGoodN 469)⟩⟩⟩, ⟨⟨⟨pg_53, pg_309⟩, ⟨pg_181, (pGoodN 437)⟩⟩, ⟨⟨pg_117, (pGoodN 373)⟩, ⟨pg_245, (pGoodN 501)⟩⟩⟩⟩⟩, ⟨⟨⟨⟨⟨pg_13, pg_269⟩, ⟨pg_141, (pGoodN 397)⟩⟩, ⟨⟨pg_77, pg_333⟩, ⟨pg_205, (pGoodN 461)⟩⟩⟩, ⟨⟨⟨pg_45, pg_301⟩, ⟨pg_173, (pGoodN 429)⟩⟩, ⟨⟨pg_109, (pGoodN 365)⟩, ⟨pg_237, (pGoodN 493)⟩⟩⟩⟩, ⟨⟨⟨⟨pg_29, pg_285⟩, ⟨pg_157, (pGoodN 413)⟩⟩, ⟨⟨pg_93, pg_349⟩, ⟨pg_221, (pGoodN 477)⟩⟩⟩, ⟨⟨⟨pg_61, pg_317⟩, ⟨pg_189, (pGoodN 445)⟩⟩, ⟨⟨pg_125, (pGoodN 381)⟩, ⟨pg_253, (pGoodN 509)⟩⟩⟩⟩⟩⟩⟩, ⟨⟨⟨⟨⟨⟨⟨pg_3, pg_259⟩, ⟨pg_131, (pGoodN 387)⟩⟩, ⟨⟨pg_67, pg_323⟩, ⟨pg_195, (pGoodN 451)⟩⟩⟩, ⟨⟨⟨pg_35, pg_291⟩, ⟨pg_163, (pGoodN 419)⟩⟩, ⟨⟨pg_99, pg_355⟩, ⟨pg_227, (pGoodN 483)⟩⟩⟩⟩, ⟨⟨⟨⟨pg_19, pg_275⟩, ⟨pg_147, (pGoodN 403)⟩⟩, ⟨⟨pg_83, pg_339⟩, ⟨pg_211, (pGoodN 467)⟩⟩⟩, ⟨⟨⟨pg_51, pg_307⟩, ⟨pg_179, (pGoodN 435)⟩⟩, ⟨⟨pg_115, (pGoodN 371)⟩, ⟨pg_243, (pGoodN 499)⟩⟩⟩⟩⟩, ⟨⟨⟨⟨⟨pg_11, pg_267⟩, ⟨pg_139, (pGoodN 395)⟩⟩, ⟨⟨pg_75, pg_331⟩, ⟨pg_203, (pGoodN 459)⟩⟩⟩, ⟨⟨⟨pg_43, pg_299⟩, ⟨pg_171, (pGoodN 427)⟩⟩, ⟨⟨pg_107, (pGoodN 363)⟩, ⟨pg_235, (pGoodN 491)⟩⟩⟩⟩, ⟨⟨⟨⟨pg_27, pg_283⟩, ⟨pg_155, (pGoodN 411)⟩⟩, ⟨⟨pg_91, pg_347⟩, ⟨pg_219, (pGoodN 475)⟩⟩⟩, ⟨⟨⟨pg_59, pg_315⟩, ⟨pg_187, (pGoodN 443)⟩⟩, ⟨⟨pg_123, (pGoodN 379)⟩, ⟨pg_251, (pGoodN 507)⟩⟩⟩⟩⟩⟩, ⟨⟨⟨⟨⟨⟨pg_7, pg_263⟩, ⟨pg_135, (pGoodN 391)⟩⟩, ⟨⟨pg_71, pg_327⟩, ⟨pg_199, (pGoodN 455)⟩⟩⟩, ⟨⟨⟨pg_39, pg_295⟩, ⟨pg_167, (pGoodN 423)⟩⟩, ⟨⟨pg_103, (pGoodN 359)⟩, ⟨pg_231, (pGoodN 487)⟩⟩⟩⟩, ⟨⟨⟨⟨pg_23, pg_279⟩, ⟨pg_151, (pGoodN 407)⟩⟩, ⟨⟨pg_87, pg_343⟩, ⟨pg_215, (pGoodN 471)⟩⟩⟩, ⟨⟨⟨pg_55, pg_311⟩, ⟨pg_183, (pGoodN 439)⟩⟩, ⟨⟨pg_119, (pGoodN 375)⟩, ⟨pg_247, (pGoodN 503)⟩⟩⟩⟩⟩, ⟨⟨⟨⟨⟨pg_15, pg_271⟩, ⟨pg_143, (pGoodN 399)⟩⟩, ⟨⟨pg_79, pg_335⟩, ⟨pg_207, (pGoodN 463)⟩⟩⟩, ⟨⟨⟨pg_47, pg_303⟩, ⟨pg_175, (pGoodN 431)⟩⟩, ⟨⟨pg_111, (pGoodN 367)⟩, ⟨pg_239, (pGoodN 495)⟩⟩⟩⟩, ⟨⟨⟨⟨pg_31, pg_287⟩, ⟨pg_159, (pGoodN 415)⟩⟩, ⟨⟨pg_95, pg_351⟩, ⟨pg_223, (pGoodN 479)⟩⟩⟩, ⟨⟨⟨pg_63, pg_319⟩, ⟨pg_191, (pGoodN 447)⟩⟩, ⟨⟨pg_127, (pGoodN 383)⟩, ⟨pg_255, (pGoodN 511)⟩⟩⟩⟩⟩⟩⟩⟩⟩
/-- an instruction of the tries is the one that the bytes have there -/
theorem pI_ok {i pc : Nat} {q : pE} (h : pI i pc = some q) : pChk i pc q = true := by
  unfold pI at h
  by_cases hb : Nat.ble 512 i = true
  · simp only [hb, cond_true] at h
    cases h
  · have hlt : i < 2 ^ 9 := by
      rcases Nat.lt_or_ge i 512 with z | z
      · exact z
      · exact absurd (Nat.ble_eq_true_of_le z) hb
    simp only [Bool.not_eq_true] at hb
    simp only [hb, cond_false] at h
    have h1 := pAllP_get 9 pGood 0 1 pJ pJ_all i hlt
    rw [Nat.zero_add, Nat.one_mul] at h1
    exact h1 pc q h
