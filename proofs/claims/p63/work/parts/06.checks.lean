/-! CHECKS OF THE CODE: each leaf of the tries is the instruction that the bytes decode to there, and its data are the tables'. By program (wip/tools/gen4.py). -/
def pLen (ins : Instr) (pc : Nat) : Nat := match ins with
  | .bipush _ | .iload _ | .lload _ | .istore _ | .lstore _ | .aload _ | .astore _ | .ldc _ | .newarray _ => 2
  | .multianewarray _ _ => 4
  | .anewarray _ | .checkcast _ | .ifnull _ | .ifnonnull _ => 3
  | .sipush _ | .ifCond _ _ | .if_icmp _ _ | .goto _ | .iinc _ _ | .getfield _ | .putfield _ | .invokevirtual _ | .invokespecial _ | .invokestatic _ | .new _ | .ldc_w _ | .ldc2_w _ => 3
  | .tableswitch _ lo hi _ => 13 + (3 - pc % 4) + 4 * (hi - lo + 1).toNat
  | _ => 1
def pRefR (t : Option FieldType) : Bool := match t with
  | some (.object _) | some (.array _) => true
  | _ => false
def pCallOK (i idx : Nat) (ks : List Nat) (dt : List Nat) : Bool := match dt with
  | [kd, j, n, e, ci, mx] => ks.contains kd && (match pCaL[e]? with
      | some q => Nat.beq q.1 (pO i) && Nat.beq q.2.1 idx && Nat.beq q.2.2.1 kd && Nat.beq q.2.2.2.1 j && Nat.beq q.2.2.2.2.1 n
      | none => false) &&
      (match kd with
      | 0 => Nat.ble 1 (pFr i) && Nat.ble 20 (pLo i)
      | 7 => Nat.ble 1 (pFr i) && Nat.ble 26 (pLo i)
      | 8 => Nat.ble 1 (pFr i) && Nat.ble 23 (pLo i)
      | 9 => Nat.ble 1 (pFr i) && Nat.ble 23 (pLo i)
      | kd => Nat.ble (j + 1) 158 && Nat.ble (pFr j + 1) (pFr i) && Nat.ble (8 + (pX j + 11) + pLo j) (pLo i) && decide ((parseMethodDescriptor (pY j).desc).map (fun d => d.parameters.length) = some n) &&
          (match kd with
          | 1 => Nat.beq ci (pO j) && Nat.ble (ci + 1) 10
          | _ => Nat.ble ci 0 || Nat.ble 0 ci) && Nat.beq mx (pX j))
  | _ => false
def pDat (i pc : Nat) (ins : Instr) (dt : List Nat) : Bool := match ins with
  | .istore_n k | .astore_n k => Nat.ble (k + 1) (pX i)
  | .istore k | .astore k | .iinc k _ => Nat.ble (k + 1) (pX i)
  | .lstore_n k | .dstore_n k => Nat.ble (k + 2) (pX i)
  | .lstore k => Nat.ble (k + 2) (pX i)
  | .ifCond _ off | .if_icmp _ off | .goto off => (match dt with
      | [t] => decide ((pc : Int) + off = (t : Int))
      | _ => false)
  | .tableswitch d lo hi offs => (match dt with
      | t :: ts => decide ((pc : Int) + d = (t : Int)) && decide (offs.toList.map (fun o => (pc : Int) + o) = ts.map Int.ofNat)
      | _ => false)
  | .iconst n => (match dt with
      | [v] => decide (Int32.ofInt n = Int32.ofNat v)
      | _ => false)
  | .bipush n => (match dt with
      | [v] => decide ((Int8.ofInt n).toInt32 = Int32.ofNat v)
      | _ => false)
  | .sipush n => (match dt with
      | [v] => decide ((Int16.ofInt n).toInt32 = Int32.ofNat v)
      | _ => false)
  | .getfield idx => (match dt with
      | [ci, k, e] => (match pFlL[e]? with
          | some q => Nat.beq q.1 (pO i) && Nat.beq q.2.1 idx && Nat.beq q.2.2.1 ci && Nat.beq q.2.2.2.1 k
          | none => false)
      | _ => false)
  | .putfield idx => (match dt with
      | [ci, k, e] => (match pFlL[e]? with
          | some q => Nat.beq q.1 (pO i) && Nat.beq q.2.1 idx && Nat.beq q.2.2.1 ci && Nat.beq q.2.2.2.1 k
          | none => false) && (match vwCl[ci]? with
          | some c => !((c.2.1 k).2.2.2) || (decide ((pY i).name = "<init>") && Nat.beq (pO i) ci && Nat.ble (ci + 1) 10)
          | none => false)
      | _ => false)
  | .ldc idx | .ldc_w idx => (match dt with
      | [v, e] => (match pKiL[e]? with
          | some q => Nat.beq q.1 (pO i) && Nat.beq q.2.1 idx && decide (q.2.2.1 = Int32.ofNat v)
          | none => false)
      | _ => false)
  | .ldc2_w idx => (match dt with
      | [v, e] => (match pKlL[e]? with
          | some q => Nat.beq q.1 (pO i) && Nat.beq q.2.1 idx && decide (q.2.2.1 = Int64.ofNat v)
          | none => false)
      | [v, e, _] => (match pKdL[e]? with
          | some q => Nat.beq q.1 (pO i) && Nat.beq q.2.1 idx && decide (q.2.2.1 = UInt64.ofNat v)
          | none => false)
      | _ => false)
  | .new idx => (match dt with
      | [ci, n, e] => (match pNwL[e]? with
          | some q => Nat.beq q.1 (pO i) && Nat.beq q.2.1 idx && Nat.beq q.2.2.1 ci
          | none => false) && (match vwCl[ci]? with
          | some c => Nat.beq c.2.2 n
          | none => false)
      | _ => false)
  | .newarray t => (match dt with
      | [k] => (match t, k with
          | .int, 0 | .long, 1 | .boolean, 2 => true
          | _, _ => false)
      | _ => false)
  | .ifnull off | .ifnonnull off => (match dt with
      | [t] => decide ((pc : Int) + off = (t : Int))
      | _ => false)
  | .anewarray idx => (match dt with
      | [k, e] => (match pCkL[e]? with
          | some q => Nat.beq q.1 (pO i) && Nat.beq q.2.1 idx && (match k, q.2.2 with
              | 3, 0 | 4, 1 | 5, 3 => true
              | _, _ => false)
          | none => false)
      | _ => false)
  | .multianewarray idx n => (match dt with
      | [k, e] => (match pCkL[e]? with
          | some q => Nat.beq q.1 (pO i) && Nat.beq q.2.1 idx && Nat.beq q.2.2 2 && Nat.beq k 3 && Nat.beq n 2
          | none => false)
      | _ => false)
  | .checkcast idx => (match dt with
      | [k, e] => (match pCkL[e]? with
          | some q => Nat.beq q.1 (pO i) && Nat.beq q.2.1 idx && Nat.beq q.2.2 0 && Nat.beq k 0
          | none => false)
      | _ => false)
  | .areturn => decide (pRefR (pR i) = true)
  | .invokevirtual idx => pCallOK i idx [1, 9] dt
  | .invokespecial idx => pCallOK i idx [0, 3, 5] dt
  | .invokestatic idx => pCallOK i idx [2, 4, 7, 8] dt
  | .ireturn => (match dt with
      | [0] => decide (pR i = some .int)
      | [1] => decide (pR i = some .boolean)
      | _ => false)
  | .lreturn => decide (pR i = some .long)
  | .return_ => decide (pR i = none)
  | _ => true
def pChk (i pc : Nat) (q : pE) : Bool := decide (decode (pB i) pc = .ok (q.1, pLen q.1 pc)) && pDat i pc q.1 q.2
/-- all leaves of a trie -/
def pAll {A : Type} (d : Nat) : (Nat → A → Bool) → Nat → Nat → pT d A → Bool := Nat.rec (motive := fun d => (Nat → A → Bool) → Nat → Nat → pT d A → Bool) (fun f off _ x => f off x) (fun _ g f off stp t => g f off (stp * 2) t.1 && g f (off + stp) (stp * 2) t.2) d
theorem pAll_get {A : Type} (d : Nat) : ∀ (f : Nat → A → Bool) (off stp : Nat) (t : pT d A), pAll d f off stp t = true → ∀ k, k < 2 ^ d → f (off + stp * k) (pTget d t k) = true := by
  induction d with
  | zero =>
    intro f off stp t h k hk
    have : k = 0 := by simpa using hk
    subst this
    rw [Nat.mul_zero, Nat.add_zero]
    exact h
  | succ d ih =>
    intro f off stp t h k hk
    have h1 : (pAll d f off (stp * 2) t.1 && pAll d f (off + stp) (stp * 2) t.2) = true := h
    rw [Bool.and_eq_true] at h1
    have hk2 : k / 2 < 2 ^ d := by
      rw [Nat.pow_succ] at hk
      omega
    show f (off + stp * k) (bif Nat.beq (Nat.mod k 2) 0 then pTget d t.1 (Nat.div k 2) else pTget d t.2 (Nat.div k 2)) = true
    have hm : Nat.mod k 2 = k % 2 := rfl
    have hd : Nat.div k 2 = k / 2 := rfl
    rw [hm, hd]
    rcases Nat.mod_two_eq_zero_or_one k with e | e
    · have := ih f off (stp * 2) t.1 h1.1 (k / 2) hk2
      rw [e]
      have e2 : off + stp * 2 * (k / 2) = off + stp * k := by
        rw [Nat.mul_assoc]
        congr 2
        omega
      rw [e2] at this
      exact this
    · have := ih f (off + stp) (stp * 2) t.2 h1.2 (k / 2) hk2
      rw [e]
      have e2 : off + stp + stp * 2 * (k / 2) = off + stp * k := by
        rw [Nat.mul_assoc, Nat.add_assoc]
        congr 1
        have hk3 : 2 * (k / 2) + 1 = k := by omega
        rw [Nat.add_comm, ← Nat.mul_succ]
        exact congrArg _ hk3
      rw [e2] at this
      exact this
def pLeaf (i pc : Nat) (o : Option pE) : Bool := match o with
  | some q => pChk i pc q
  | none => true
def pGood (i : Nat) (f : Nat → Option pE) : Prop := ∀ pc q, f pc = some q → pChk i pc q = true
theorem pGood_of {i d : Nat} {t : pT d (Option pE)} (h : pAll d (pLeaf i) 0 1 t = true) : pGood i (fun pc => bif Nat.ble (2 ^ d) pc then none else pTget d t pc) := by
  intro pc q hq
  by_cases hb : Nat.ble (2 ^ d) pc = true
  · simp only [hb, cond_true] at hq
    cases hq
  · have hlt : pc < 2 ^ d := by
      rcases Nat.lt_or_ge pc (2 ^ d) with z | z
      · exact z
      · exact absurd (Nat.ble_eq_true_of_le z) hb
    have h1 := pAll_get d (pLeaf i) 0 1 t h pc hlt
    simp only [Bool.not_eq_true] at hb
    simp only [hb, cond_false] at hq
    rw [Nat.zero_add, Nat.one_mul, hq] at h1
    exact h1
theorem pAll_join {A : Type} {d : Nat} {f : Nat → A → Bool} {off stp : Nat} {t : pT (d + 1) A} (h1 : pAll d f off (stp * 2) t.1 = true) (h2 : pAll d f (off + stp) (stp * 2) t.2 = true) : pAll (d + 1) f off stp t = true := by
  show (pAll d f off (stp * 2) t.1 && pAll d f (off + stp) (stp * 2) t.2) = true
  rw [h1, h2]
  rfl
set_option maxRecDepth 100000 in
theorem pk_0 : pAll 4 (pLeaf 0) 0 1 pI_0 = true := by decide +kernel
theorem pg_0 : pGood 0 pJ_0 := pGood_of pk_0
set_option maxRecDepth 100000 in
theorem pk_1 : pAll 7 (pLeaf 1) 0 1 pI_1 = true := by decide +kernel
theorem pg_1 : pGood 1 pJ_1 := pGood_of pk_1
set_option maxRecDepth 100000 in
theorem pk_2 : pAll 7 (pLeaf 2) 0 1 pI_2 = true := by decide +kernel
theorem pg_2 : pGood 2 pJ_2 := pGood_of pk_2
set_option maxRecDepth 100000 in
theorem pk_3 : pAll 7 (pLeaf 3) 0 1 pI_3 = true := by decide +kernel
theorem pg_3 : pGood 3 pJ_3 := pGood_of pk_3
set_option maxRecDepth 100000 in
theorem pk_4 : pAll 6 (pLeaf 4) 0 1 pI_4 = true := by decide +kernel
theorem pg_4 : pGood 4 pJ_4 := pGood_of pk_4
set_option maxRecDepth 100000 in
theorem pk_5 : pAll 7 (pLeaf 5) 0 1 pI_5 = true := by decide +kernel
theorem pg_5 : pGood 5 pJ_5 := pGood_of pk_5
set_option maxRecDepth 100000 in
theorem pk_6 : pAll 7 (pLeaf 6) 0 1 pI_6 = true := by decide +kernel
theorem pg_6 : pGood 6 pJ_6 := pGood_of pk_6
set_option maxRecDepth 100000 in
theorem pk_7 : pAll 7 (pLeaf 7) 0 1 pI_7 = true := by decide +kernel
theorem pg_7 : pGood 7 pJ_7 := pGood_of pk_7
set_option maxRecDepth 100000 in
theorem pk_8 : pAll 7 (pLeaf 8) 0 1 pI_8 = true := by decide +kernel
theorem pg_8 : pGood 8 pJ_8 := pGood_of pk_8
set_option maxRecDepth 100000 in
theorem pk_9 : pAll 8 (pLeaf 9) 0 1 pI_9 = true := by decide +kernel
theorem pg_9 : pGood 9 pJ_9 := pGood_of pk_9
set_option maxRecDepth 100000 in
theorem pk_10 : pAll 5 (pLeaf 10) 0 1 pI_10 = true := by decide +kernel
theorem pg_10 : pGood 10 pJ_10 := pGood_of pk_10
set_option maxRecDepth 100000 in
theorem pk_11 : pAll 6 (pLeaf 11) 0 1 pI_11 = true := by decide +kernel
theorem pg_11 : pGood 11 pJ_11 := pGood_of pk_11
set_option maxRecDepth 100000 in
theorem pk_12 : pAll 8 (pLeaf 12) 0 1 pI_12 = true := by decide +kernel
theorem pg_12 : pGood 12 pJ_12 := pGood_of pk_12
set_option maxRecDepth 100000 in
theorem pk_13 : pAll 6 (pLeaf 13) 0 1 pI_13 = true := by decide +kernel
theorem pg_13 : pGood 13 pJ_13 := pGood_of pk_13
set_option maxRecDepth 100000 in
theorem pk_14 : pAll 5 (pLeaf 14) 0 1 pI_14 = true := by decide +kernel
theorem pg_14 : pGood 14 pJ_14 := pGood_of pk_14
set_option maxRecDepth 100000 in
theorem pk_15 : pAll 6 (pLeaf 15) 0 1 pI_15 = true := by decide +kernel
theorem pg_15 : pGood 15 pJ_15 := pGood_of pk_15
set_option maxRecDepth 100000 in
theorem pk_16 : pAll 6 (pLeaf 16) 0 1 pI_16 = true := by decide +kernel
theorem pg_16 : pGood 16 pJ_16 := pGood_of pk_16
set_option maxRecDepth 100000 in
theorem pk_17 : pAll 5 (pLeaf 17) 0 1 pI_17 = true := by decide +kernel
theorem pg_17 : pGood 17 pJ_17 := pGood_of pk_17
set_option maxRecDepth 100000 in
theorem pk_18 : pAll 7 (pLeaf 18) 0 1 pI_18 = true := by decide +kernel
theorem pg_18 : pGood 18 pJ_18 := pGood_of pk_18
set_option maxRecDepth 100000 in
theorem pk_19 : pAll 7 (pLeaf 19) 0 1 pI_19 = true := by decide +kernel
theorem pg_19 : pGood 19 pJ_19 := pGood_of pk_19
set_option maxRecDepth 100000 in
theorem pk_20 : pAll 7 (pLeaf 20) 0 1 pI_20 = true := by decide +kernel
theorem pg_20 : pGood 20 pJ_20 := pGood_of pk_20
set_option maxRecDepth 100000 in
theorem pk_21 : pAll 6 (pLeaf 21) 0 1 pI_21 = true := by decide +kernel
theorem pg_21 : pGood 21 pJ_21 := pGood_of pk_21
set_option maxRecDepth 100000 in
theorem pk_22 : pAll 8 (pLeaf 22) 0 1 pI_22 = true := by decide +kernel
theorem pg_22 : pGood 22 pJ_22 := pGood_of pk_22
set_option maxRecDepth 100000 in
theorem pk_23 : pAll 6 (pLeaf 23) 0 1 pI_23 = true := by decide +kernel
theorem pg_23 : pGood 23 pJ_23 := pGood_of pk_23
set_option maxRecDepth 100000 in
theorem pk_24 : pAll 6 (pLeaf 24) 0 1 pI_24 = true := by decide +kernel
theorem pg_24 : pGood 24 pJ_24 := pGood_of pk_24
set_option maxRecDepth 100000 in
theorem pk_25 : pAll 8 (pLeaf 25) 0 1 pI_25 = true := by decide +kernel
theorem pg_25 : pGood 25 pJ_25 := pGood_of pk_25
set_option maxRecDepth 100000 in
theorem pk_26 : pAll 7 (pLeaf 26) 0 1 pI_26 = true := by decide +kernel
theorem pg_26 : pGood 26 pJ_26 := pGood_of pk_26
set_option maxRecDepth 100000 in
theorem pk_27 : pAll 7 (pLeaf 27) 0 1 pI_27 = true := by decide +kernel
theorem pg_27 : pGood 27 pJ_27 := pGood_of pk_27
set_option maxRecDepth 100000 in
theorem pk_28 : pAll 7 (pLeaf 28) 0 1 pI_28 = true := by decide +kernel
theorem pg_28 : pGood 28 pJ_28 := pGood_of pk_28
set_option maxRecDepth 100000 in
theorem pk_29 : pAll 5 (pLeaf 29) 0 1 pI_29 = true := by decide +kernel
theorem pg_29 : pGood 29 pJ_29 := pGood_of pk_29
set_option maxRecDepth 100000 in
theorem pk_30 : pAll 4 (pLeaf 30) 0 1 pI_30 = true := by decide +kernel
theorem pg_30 : pGood 30 pJ_30 := pGood_of pk_30
set_option maxRecDepth 100000 in
theorem pk_31 : pAll 5 (pLeaf 31) 0 1 pI_31 = true := by decide +kernel
theorem pg_31 : pGood 31 pJ_31 := pGood_of pk_31
set_option maxRecDepth 100000 in
theorem pk_32 : pAll 6 (pLeaf 32) 0 1 pI_32 = true := by decide +kernel
theorem pg_32 : pGood 32 pJ_32 := pGood_of pk_32
set_option maxRecDepth 100000 in
theorem pk_33 : pAll 5 (pLeaf 33) 0 1 pI_33 = true := by decide +kernel
theorem pg_33 : pGood 33 pJ_33 := pGood_of pk_33
set_option maxRecDepth 100000 in
theorem pk_34 : pAll 5 (pLeaf 34) 0 1 pI_34 = true := by decide +kernel
theorem pg_34 : pGood 34 pJ_34 := pGood_of pk_34
set_option maxRecDepth 100000 in
theorem pk_35 : pAll 5 (pLeaf 35) 0 1 pI_35 = true := by decide +kernel
theorem pg_35 : pGood 35 pJ_35 := pGood_of pk_35
set_option maxRecDepth 100000 in
theorem pk_36 : pAll 5 (pLeaf 36) 0 1 pI_36 = true := by decide +kernel
theorem pg_36 : pGood 36 pJ_36 := pGood_of pk_36
set_option maxRecDepth 100000 in
theorem pk_37 : pAll 6 (pLeaf 37) 0 1 pI_37 = true := by decide +kernel
theorem pg_37 : pGood 37 pJ_37 := pGood_of pk_37
set_option maxRecDepth 100000 in
theorem pk_38 : pAll 6 (pLeaf 38) 0 1 pI_38 = true := by decide +kernel
theorem pg_38 : pGood 38 pJ_38 := pGood_of pk_38
set_option maxRecDepth 100000 in
theorem pk_39 : pAll 7 (pLeaf 39) 0 1 pI_39 = true := by decide +kernel
theorem pg_39 : pGood 39 pJ_39 := pGood_of pk_39
set_option maxRecDepth 100000 in
theorem pk_40 : pAll 6 (pLeaf 40) 0 1 pI_40 = true := by decide +kernel
theorem pg_40 : pGood 40 pJ_40 := pGood_of pk_40
set_option maxRecDepth 100000 in
theorem pk_41 : pAll 8 (pLeaf 41) 0 1 pI_41 = true := by decide +kernel
theorem pg_41 : pGood 41 pJ_41 := pGood_of pk_41
set_option maxRecDepth 100000 in
theorem pk_42 : pAll 6 (pLeaf 42) 0 1 pI_42 = true := by decide +kernel
theorem pg_42 : pGood 42 pJ_42 := pGood_of pk_42
set_option maxRecDepth 100000 in
theorem pk_43 : pAll 6 (pLeaf 43) 0 1 pI_43 = true := by decide +kernel
theorem pg_43 : pGood 43 pJ_43 := pGood_of pk_43
set_option maxRecDepth 100000 in
theorem pk_44 : pAll 6 (pLeaf 44) 0 1 pI_44 = true := by decide +kernel
theorem pg_44 : pGood 44 pJ_44 := pGood_of pk_44
set_option maxRecDepth 100000 in
theorem pk_45 : pAll 5 (pLeaf 45) 0 1 pI_45 = true := by decide +kernel
theorem pg_45 : pGood 45 pJ_45 := pGood_of pk_45
set_option maxRecDepth 100000 in
theorem pk_46 : pAll 7 (pLeaf 46) 0 1 pI_46 = true := by decide +kernel
theorem pg_46 : pGood 46 pJ_46 := pGood_of pk_46
set_option maxRecDepth 100000 in
theorem pk_47 : pAll 6 (pLeaf 47) 0 1 pI_47 = true := by decide +kernel
theorem pg_47 : pGood 47 pJ_47 := pGood_of pk_47
set_option maxRecDepth 100000 in
theorem pk_48 : pAll 7 (pLeaf 48) 0 1 pI_48 = true := by decide +kernel
theorem pg_48 : pGood 48 pJ_48 := pGood_of pk_48
set_option maxRecDepth 100000 in
theorem pk_49 : pAll 5 (pLeaf 49) 0 1 pI_49 = true := by decide +kernel
theorem pg_49 : pGood 49 pJ_49 := pGood_of pk_49
set_option maxRecDepth 100000 in
theorem pk_50 : pAll 5 (pLeaf 50) 0 1 pI_50 = true := by decide +kernel
theorem pg_50 : pGood 50 pJ_50 := pGood_of pk_50
set_option maxRecDepth 100000 in
theorem pk_51 : pAll 5 (pLeaf 51) 0 1 pI_51 = true := by decide +kernel
theorem pg_51 : pGood 51 pJ_51 := pGood_of pk_51
set_option maxRecDepth 100000 in
theorem pk_52 : pAll 6 (pLeaf 52) 0 1 pI_52 = true := by decide +kernel
theorem pg_52 : pGood 52 pJ_52 := pGood_of pk_52
set_option maxRecDepth 100000 in
theorem pk_53 : pAll 5 (pLeaf 53) 0 1 pI_53 = true := by decide +kernel
theorem pg_53 : pGood 53 pJ_53 := pGood_of pk_53
set_option maxRecDepth 100000 in
theorem pk_54 : pAll 7 (pLeaf 54) 0 1 pI_54 = true := by decide +kernel
theorem pg_54 : pGood 54 pJ_54 := pGood_of pk_54
set_option maxRecDepth 100000 in
theorem pk_55 : pAll 6 (pLeaf 55) 0 1 pI_55 = true := by decide +kernel
theorem pg_55 : pGood 55 pJ_55 := pGood_of pk_55
set_option maxRecDepth 100000 in
theorem pk_56 : pAll 6 (pLeaf 56) 0 1 pI_56 = true := by decide +kernel
theorem pg_56 : pGood 56 pJ_56 := pGood_of pk_56
set_option maxRecDepth 100000 in
theorem pk_57 : pAll 5 (pLeaf 57) 0 1 pI_57 = true := by decide +kernel
theorem pg_57 : pGood 57 pJ_57 := pGood_of pk_57
set_option maxRecDepth 100000 in
theorem pk_58 : pAll 7 (pLeaf 58) 0 1 pI_58 = true := by decide +kernel
theorem pg_58 : pGood 58 pJ_58 := pGood_of pk_58
set_option maxRecDepth 100000 in
theorem pk_59 : pAll 8 (pLeaf 59) 0 1 pI_59 = true := by decide +kernel
theorem pg_59 : pGood 59 pJ_59 := pGood_of pk_59
set_option maxRecDepth 100000 in
theorem pk_60 : pAll 5 (pLeaf 60) 0 1 pI_60 = true := by decide +kernel
theorem pg_60 : pGood 60 pJ_60 := pGood_of pk_60
set_option maxRecDepth 100000 in
theorem pk_61 : pAll 6 (pLeaf 61) 0 1 pI_61 = true := by decide +kernel
theorem pg_61 : pGood 61 pJ_61 := pGood_of pk_61
set_option maxRecDepth 100000 in
theorem pk_62 : pAll 7 (pLeaf 62) 0 1 pI_62 = true := by decide +kernel
theorem pg_62 : pGood 62 pJ_62 := pGood_of pk_62
set_option maxRecDepth 100000 in
theorem pk_63 : pAll 7 (pLeaf 63) 0 1 pI_63 = true := by decide +kernel
theorem pg_63 : pGood 63 pJ_63 := pGood_of pk_63
set_option maxRecDepth 100000 in
theorem pk_64 : pAll 5 (pLeaf 64) 0 1 pI_64 = true := by decide +kernel
theorem pg_64 : pGood 64 pJ_64 := pGood_of pk_64
set_option maxRecDepth 100000 in
theorem pk_65 : pAll 3 (pLeaf 65) 0 1 pI_65 = true := by decide +kernel
theorem pg_65 : pGood 65 pJ_65 := pGood_of pk_65
set_option maxRecDepth 100000 in
theorem pk_66 : pAll 5 (pLeaf 66) 0 1 pI_66 = true := by decide +kernel
theorem pg_66 : pGood 66 pJ_66 := pGood_of pk_66
set_option maxRecDepth 100000 in
theorem pk_67 : pAll 5 (pLeaf 67) 0 1 pI_67 = true := by decide +kernel
theorem pg_67 : pGood 67 pJ_67 := pGood_of pk_67
set_option maxRecDepth 100000 in
theorem pk_68 : pAll 6 (pLeaf 68) 0 1 pI_68 = true := by decide +kernel
theorem pg_68 : pGood 68 pJ_68 := pGood_of pk_68
set_option maxRecDepth 100000 in
theorem pk_69 : pAll 5 (pLeaf 69) 0 1 pI_69 = true := by decide +kernel
theorem pg_69 : pGood 69 pJ_69 := pGood_of pk_69
set_option maxRecDepth 100000 in
theorem pk_70 : pAll 5 (pLeaf 70) 0 1 pI_70 = true := by decide +kernel
theorem pg_70 : pGood 70 pJ_70 := pGood_of pk_70
set_option maxRecDepth 100000 in
theorem pk_71 : pAll 5 (pLeaf 71) 0 1 pI_71 = true := by decide +kernel
theorem pg_71 : pGood 71 pJ_71 := pGood_of pk_71
set_option maxRecDepth 100000 in
theorem pk_72 : pAll 6 (pLeaf 72) 0 1 pI_72 = true := by decide +kernel
theorem pg_72 : pGood 72 pJ_72 := pGood_of pk_72
set_option maxRecDepth 100000 in
theorem pk_73 : pAll 5 (pLeaf 73) 0 1 pI_73 = true := by decide +kernel
theorem pg_73 : pGood 73 pJ_73 := pGood_of pk_73
set_option maxRecDepth 100000 in
theorem pk_74 : pAll 5 (pLeaf 74) 0 1 pI_74 = true := by decide +kernel
theorem pg_74 : pGood 74 pJ_74 := pGood_of pk_74
set_option maxRecDepth 100000 in
theorem pk_75 : pAll 6 (pLeaf 75) 0 1 pI_75 = true := by decide +kernel
theorem pg_75 : pGood 75 pJ_75 := pGood_of pk_75
set_option maxRecDepth 100000 in
theorem pk_76 : pAll 6 (pLeaf 76) 0 1 pI_76 = true := by decide +kernel
theorem pg_76 : pGood 76 pJ_76 := pGood_of pk_76
set_option maxRecDepth 100000 in
theorem pk_77 : pAll 6 (pLeaf 77) 0 1 pI_77 = true := by decide +kernel
theorem pg_77 : pGood 77 pJ_77 := pGood_of pk_77
set_option maxRecDepth 100000 in
theorem pk_78 : pAll 5 (pLeaf 78) 0 1 pI_78 = true := by decide +kernel
theorem pg_78 : pGood 78 pJ_78 := pGood_of pk_78
set_option maxRecDepth 100000 in
theorem pk_79 : pAll 6 (pLeaf 79) 0 1 pI_79 = true := by decide +kernel
theorem pg_79 : pGood 79 pJ_79 := pGood_of pk_79
set_option maxRecDepth 100000 in
theorem pk_80 : pAll 6 (pLeaf 80) 0 1 pI_80 = true := by decide +kernel
theorem pg_80 : pGood 80 pJ_80 := pGood_of pk_80
set_option maxRecDepth 100000 in
theorem pk_81 : pAll 7 (pLeaf 81) 0 1 pI_81 = true := by decide +kernel
theorem pg_81 : pGood 81 pJ_81 := pGood_of pk_81
set_option maxRecDepth 100000 in
theorem pk_82 : pAll 7 (pLeaf 82) 0 1 pI_82 = true := by decide +kernel
theorem pg_82 : pGood 82 pJ_82 := pGood_of pk_82
set_option maxRecDepth 100000 in
theorem pk_83 : pAll 6 (pLeaf 83) 0 1 pI_83 = true := by decide +kernel
theorem pg_83 : pGood 83 pJ_83 := pGood_of pk_83
set_option maxRecDepth 100000 in
theorem pk_84 : pAll 5 (pLeaf 84) 0 1 pI_84 = true := by decide +kernel
theorem pg_84 : pGood 84 pJ_84 := pGood_of pk_84
set_option maxRecDepth 100000 in
theorem pk_85 : pAll 5 (pLeaf 85) 0 1 pI_85 = true := by decide +kernel
theorem pg_85 : pGood 85 pJ_85 := pGood_of pk_85
set_option maxRecDepth 100000 in
theorem pk_86 : pAll 8 (pLeaf 86) 0 1 pI_86 = true := by decide +kernel
theorem pg_86 : pGood 86 pJ_86 := pGood_of pk_86
set_option maxRecDepth 100000 in
theorem pk_87 : pAll 6 (pLeaf 87) 0 1 pI_87 = true := by decide +kernel
theorem pg_87 : pGood 87 pJ_87 := pGood_of pk_87
set_option maxRecDepth 100000 in
theorem pk_88 : pAll 6 (pLeaf 88) 0 1 pI_88 = true := by decide +kernel
theorem pg_88 : pGood 88 pJ_88 := pGood_of pk_88
set_option maxRecDepth 100000 in
theorem pk_89 : pAll 7 (pLeaf 89) 0 1 pI_89 = true := by decide +kernel
theorem pg_89 : pGood 89 pJ_89 := pGood_of pk_89
set_option maxRecDepth 100000 in
theorem pk_90 : pAll 6 (pLeaf 90) 0 1 pI_90 = true := by decide +kernel
theorem pg_90 : pGood 90 pJ_90 := pGood_of pk_90
set_option maxRecDepth 100000 in
theorem pk_91 : pAll 6 (pLeaf 91) 0 1 pI_91 = true := by decide +kernel
theorem pg_91 : pGood 91 pJ_91 := pGood_of pk_91
set_option maxRecDepth 100000 in
theorem pk_92 : pAll 7 (pLeaf 92) 0 1 pI_92 = true := by decide +kernel
theorem pg_92 : pGood 92 pJ_92 := pGood_of pk_92
set_option maxRecDepth 100000 in
theorem pk_93 : pAll 6 (pLeaf 93) 0 1 pI_93 = true := by decide +kernel
theorem pg_93 : pGood 93 pJ_93 := pGood_of pk_93
set_option maxRecDepth 100000 in
theorem pk_94 : pAll 6 (pLeaf 94) 0 1 pI_94 = true := by decide +kernel
theorem pg_94 : pGood 94 pJ_94 := pGood_of pk_94
set_option maxRecDepth 100000 in
theorem pk_95 : pAll 7 (pLeaf 95) 0 1 pI_95 = true := by decide +kernel
theorem pg_95 : pGood 95 pJ_95 := pGood_of pk_95
set_option maxRecDepth 100000 in
theorem pk_96 : pAll 6 (pLeaf 96) 0 1 pI_96 = true := by decide +kernel
theorem pg_96 : pGood 96 pJ_96 := pGood_of pk_96
set_option maxRecDepth 100000 in
theorem pk_97 : pAll 8 (pLeaf 97) 0 1 pI_97 = true := by decide +kernel
theorem pg_97 : pGood 97 pJ_97 := pGood_of pk_97
set_option maxRecDepth 100000 in
theorem pk_98 : pAll 7 (pLeaf 98) 0 1 pI_98 = true := by decide +kernel
theorem pg_98 : pGood 98 pJ_98 := pGood_of pk_98
set_option maxRecDepth 100000 in
theorem pk_99 : pAll 6 (pLeaf 99) 0 1 pI_99 = true := by decide +kernel
theorem pg_99 : pGood 99 pJ_99 := pGood_of pk_99
set_option maxRecDepth 100000 in
theorem pk_100 : pAll 5 (pLeaf 100) 0 1 pI_100 = true := by decide +kernel
theorem pg_100 : pGood 100 pJ_100 := pGood_of pk_100
set_option maxRecDepth 100000 in
theorem pk_101 : pAll 5 (pLeaf 101) 0 1 pI_101 = true := by decide +kernel
theorem pg_101 : pGood 101 pJ_101 := pGood_of pk_101
set_option maxRecDepth 100000 in
theorem pk_102 : pAll 3 (pLeaf 102) 0 1 pI_102 = true := by decide +kernel
theorem pg_102 : pGood 102 pJ_102 := pGood_of pk_102
set_option maxRecDepth 100000 in
theorem pk_103 : pAll 6 (pLeaf 103) 0 1 pI_103 = true := by decide +kernel
theorem pg_103 : pGood 103 pJ_103 := pGood_of pk_103
set_option maxRecDepth 100000 in
theorem pk_104 : pAll 6 (pLeaf 104) 0 1 pI_104 = true := by decide +kernel
theorem pg_104 : pGood 104 pJ_104 := pGood_of pk_104
set_option maxRecDepth 100000 in
theorem pk_105 : pAll 8 (pLeaf 105) 0 1 pI_105 = true := by decide +kernel
theorem pg_105 : pGood 105 pJ_105 := pGood_of pk_105
set_option maxRecDepth 100000 in
theorem pk_106 : pAll 6 (pLeaf 106) 0 1 pI_106 = true := by decide +kernel
theorem pg_106 : pGood 106 pJ_106 := pGood_of pk_106
set_option maxRecDepth 100000 in
theorem pk_107 : pAll 8 (pLeaf 107) 0 1 pI_107 = true := by decide +kernel
theorem pg_107 : pGood 107 pJ_107 := pGood_of pk_107
set_option maxRecDepth 100000 in
theorem pk_108 : pAll 4 (pLeaf 108) 0 1 pI_108 = true := by decide +kernel
theorem pg_108 : pGood 108 pJ_108 := pGood_of pk_108
set_option maxRecDepth 100000 in
theorem pk_109 : pAll 6 (pLeaf 109) 0 1 pI_109 = true := by decide +kernel
theorem pg_109 : pGood 109 pJ_109 := pGood_of pk_109
set_option maxRecDepth 100000 in
theorem pk_110 : pAll 6 (pLeaf 110) 0 1 pI_110 = true := by decide +kernel
theorem pg_110 : pGood 110 pJ_110 := pGood_of pk_110
set_option maxRecDepth 100000 in
theorem pk_111 : pAll 5 (pLeaf 111) 0 1 pI_111 = true := by decide +kernel
theorem pg_111 : pGood 111 pJ_111 := pGood_of pk_111
set_option maxRecDepth 100000 in
theorem pk_112 : pAll 7 (pLeaf 112) 0 1 pI_112 = true := by decide +kernel
theorem pg_112 : pGood 112 pJ_112 := pGood_of pk_112
set_option maxRecDepth 100000 in
theorem pk_113 : pAll 6 (pLeaf 113) 0 1 pI_113 = true := by decide +kernel
theorem pg_113 : pGood 113 pJ_113 := pGood_of pk_113
set_option maxRecDepth 100000 in
theorem pk_114 : pAll 6 (pLeaf 114) 0 1 pI_114 = true := by decide +kernel
theorem pg_114 : pGood 114 pJ_114 := pGood_of pk_114
set_option maxRecDepth 100000 in
theorem pk_115 : pAll 6 (pLeaf 115) 0 1 pI_115 = true := by decide +kernel
theorem pg_115 : pGood 115 pJ_115 := pGood_of pk_115
set_option maxRecDepth 100000 in
theorem pk_116 : pAll 3 (pLeaf 116) 0 1 pI_116 = true := by decide +kernel
theorem pg_116 : pGood 116 pJ_116 := pGood_of pk_116
set_option maxRecDepth 100000 in
theorem pk_117 : pAll 5 (pLeaf 117) 0 1 pI_117 = true := by decide +kernel
theorem pg_117 : pGood 117 pJ_117 := pGood_of pk_117
set_option maxRecDepth 100000 in
theorem pk_118 : pAll 6 (pLeaf 118) 0 1 pI_118 = true := by decide +kernel
theorem pg_118 : pGood 118 pJ_118 := pGood_of pk_118
set_option maxRecDepth 100000 in
theorem pk_119 : pAll 7 (pLeaf 119) 0 1 pI_119 = true := by decide +kernel
theorem pg_119 : pGood 119 pJ_119 := pGood_of pk_119
set_option maxRecDepth 100000 in
theorem pk_120 : pAll 6 (pLeaf 120) 0 1 pI_120 = true := by decide +kernel
theorem pg_120 : pGood 120 pJ_120 := pGood_of pk_120
set_option maxRecDepth 100000 in
theorem pk_121 : pAll 5 (pLeaf 121) 0 1 pI_121 = true := by decide +kernel
theorem pg_121 : pGood 121 pJ_121 := pGood_of pk_121
set_option maxRecDepth 100000 in
theorem pk_122 : pAll 5 (pLeaf 122) 0 1 pI_122 = true := by decide +kernel
theorem pg_122 : pGood 122 pJ_122 := pGood_of pk_122
set_option maxRecDepth 100000 in
theorem pk_123 : pAll 8 (pLeaf 123) 0 1 pI_123 = true := by decide +kernel
theorem pg_123 : pGood 123 pJ_123 := pGood_of pk_123
set_option maxRecDepth 100000 in
theorem pk_124 : pAll 7 (pLeaf 124) 0 1 pI_124 = true := by decide +kernel
theorem pg_124 : pGood 124 pJ_124 := pGood_of pk_124
set_option maxRecDepth 100000 in
theorem pk_125 : pAll 5 (pLeaf 125) 0 1 pI_125 = true := by decide +kernel
theorem pg_125 : pGood 125 pJ_125 := pGood_of pk_125
set_option maxRecDepth 100000 in
theorem pk_126 : pAll 6 (pLeaf 126) 0 1 pI_126 = true := by decide +kernel
theorem pg_126 : pGood 126 pJ_126 := pGood_of pk_126
set_option maxRecDepth 100000 in
theorem pk_127 : pAll 5 (pLeaf 127) 0 1 pI_127 = true := by decide +kernel
theorem pg_127 : pGood 127 pJ_127 := pGood_of pk_127
set_option maxRecDepth 100000 in
theorem pk_128 : pAll 8 (pLeaf 128) 0 1 pI_128 = true := by decide +kernel
theorem pg_128 : pGood 128 pJ_128 := pGood_of pk_128
set_option maxRecDepth 100000 in
theorem pk_129 : pAll 7 (pLeaf 129) 0 1 pI_129 = true := by decide +kernel
theorem pg_129 : pGood 129 pJ_129 := pGood_of pk_129
set_option maxRecDepth 100000 in
theorem pk_130 : pAll 5 (pLeaf 130) 0 1 pI_130 = true := by decide +kernel
theorem pg_130 : pGood 130 pJ_130 := pGood_of pk_130
set_option maxRecDepth 100000 in
theorem pk_131 : pAll 6 (pLeaf 131) 0 1 pI_131 = true := by decide +kernel
theorem pg_131 : pGood 131 pJ_131 := pGood_of pk_131
set_option maxRecDepth 100000 in
theorem pk_132 : pAll 7 (pLeaf 132) 0 1 pI_132 = true := by decide +kernel
theorem pg_132 : pGood 132 pJ_132 := pGood_of pk_132
set_option maxRecDepth 100000 in
theorem pk_133 : pAll 6 (pLeaf 133) 0 1 pI_133 = true := by decide +kernel
theorem pg_133 : pGood 133 pJ_133 := pGood_of pk_133
set_option maxRecDepth 100000 in
theorem pk_134 : pAll 5 (pLeaf 134) 0 1 pI_134 = true := by decide +kernel
theorem pg_134 : pGood 134 pJ_134 := pGood_of pk_134
set_option maxRecDepth 100000 in
theorem pk_135 : pAll 7 (pLeaf 135) 0 1 pI_135 = true := by decide +kernel
theorem pg_135 : pGood 135 pJ_135 := pGood_of pk_135
set_option maxRecDepth 100000 in
theorem pk_136 : pAll 4 (pLeaf 136) 0 1 pI_136 = true := by decide +kernel
theorem pg_136 : pGood 136 pJ_136 := pGood_of pk_136
set_option maxRecDepth 100000 in
theorem pk_137 : pAll 6 (pLeaf 137) 0 1 pI_137 = true := by decide +kernel
theorem pg_137 : pGood 137 pJ_137 := pGood_of pk_137
set_option maxRecDepth 100000 in
theorem pk_138 : pAll 5 (pLeaf 138) 0 1 pI_138 = true := by decide +kernel
theorem pg_138 : pGood 138 pJ_138 := pGood_of pk_138
set_option maxRecDepth 100000 in
theorem pk_139 : pAll 4 (pLeaf 139) 0 1 pI_139 = true := by decide +kernel
theorem pg_139 : pGood 139 pJ_139 := pGood_of pk_139
set_option maxRecDepth 100000 in
theorem pk_140 : pAll 4 (pLeaf 140) 0 1 pI_140 = true := by decide +kernel
theorem pg_140 : pGood 140 pJ_140 := pGood_of pk_140
set_option maxRecDepth 100000 in
theorem pk_141 : pAll 4 (pLeaf 141) 0 1 pI_141 = true := by decide +kernel
theorem pg_141 : pGood 141 pJ_141 := pGood_of pk_141
set_option maxRecDepth 100000 in
theorem pk_142 : pAll 4 (pLeaf 142) 0 1 pI_142 = true := by decide +kernel
theorem pg_142 : pGood 142 pJ_142 := pGood_of pk_142
set_option maxRecDepth 100000 in
theorem pk_143 : pAll 5 (pLeaf 143) 0 1 pI_143 = true := by decide +kernel
theorem pg_143 : pGood 143 pJ_143 := pGood_of pk_143
set_option maxRecDepth 100000 in
theorem pk_144 : pAll 5 (pLeaf 144) 0 1 pI_144 = true := by decide +kernel
theorem pg_144 : pGood 144 pJ_144 := pGood_of pk_144
set_option maxRecDepth 100000 in
theorem pk_145 : pAll 5 (pLeaf 145) 0 1 pI_145 = true := by decide +kernel
theorem pg_145 : pGood 145 pJ_145 := pGood_of pk_145
set_option maxRecDepth 100000 in
theorem pk_146 : pAll 5 (pLeaf 146) 0 1 pI_146 = true := by decide +kernel
theorem pg_146 : pGood 146 pJ_146 := pGood_of pk_146
set_option maxRecDepth 100000 in
theorem pk_147 : pAll 4 (pLeaf 147) 0 1 pI_147 = true := by decide +kernel
theorem pg_147 : pGood 147 pJ_147 := pGood_of pk_147
set_option maxRecDepth 100000 in
theorem pk_148 : pAll 6 (pLeaf 148) 0 1 pI_148 = true := by decide +kernel
theorem pg_148 : pGood 148 pJ_148 := pGood_of pk_148
set_option maxRecDepth 100000 in
theorem pk_149 : pAll 8 (pLeaf 149) 0 1 pI_149 = true := by decide +kernel
theorem pg_149 : pGood 149 pJ_149 := pGood_of pk_149
set_option maxRecDepth 100000 in
theorem pk_150 : pAll 6 (pLeaf 150) 0 1 pI_150 = true := by decide +kernel
theorem pg_150 : pGood 150 pJ_150 := pGood_of pk_150
set_option maxRecDepth 100000 in
theorem pk_152 : pAll 8 (pLeaf 152) 0 1 pI_152 = true := by decide +kernel
theorem pg_152 : pGood 152 pJ_152 := pGood_of pk_152
set_option maxRecDepth 100000 in
theorem pk_153 : pAll 5 (pLeaf 153) 0 1 pI_153 = true := by decide +kernel
theorem pg_153 : pGood 153 pJ_153 := pGood_of pk_153
set_option maxRecDepth 100000 in
theorem pk_154 : pAll 9 (pLeaf 154) 0 1 pI_154 = true := by decide +kernel
theorem pg_154 : pGood 154 pJ_154 := pGood_of pk_154
set_option maxRecDepth 100000 in
theorem pk_155 : pAll 4 (pLeaf 155) 0 1 pI_155 = true := by decide +kernel
theorem pg_155 : pGood 155 pJ_155 := pGood_of pk_155
set_option maxRecDepth 100000 in
theorem pk_156 : pAll 9 (pLeaf 156) 0 1 pI_156 = true := by decide +kernel
theorem pg_156 : pGood 156 pJ_156 := pGood_of pk_156
set_option maxRecDepth 100000 in
theorem pk_157 : pAll 9 (pLeaf 157) 0 1 pI_157 = true := by decide +kernel
theorem pg_157 : pGood 157 pJ_157 := pGood_of pk_157
