/-! THE CLASS'S CELLS, AND BITS OF A LONG. By hand. -/
/-- whether bit k of a long is set -/
def bt (x : Int64) (k : Nat) : Bool := x.toBitVec.getLsbD k
/-- the long with bit k alone -/
def b1 (k : Nat) : Int64 := Int64.ofBitVec (1#64 <<< k)
theorem sh_amt {k : Nat} (hk : k < 64) : (nI k).toInt64.toUInt64 &&& Int64.toUInt64 63 = UInt64.ofNat k := by
  have := n64_sh (n := k) (by omega)
  rw [Nat.mod_eq_of_lt hk] at this
  exact this
theorem bt_ushr {x : Int64} {k : Nat} (hk : k < 64) : ((x.toUInt64 >>> ((nI k).toInt64.toUInt64 &&& Int64.toUInt64 63)).toInt64 &&& 1 = 0) ↔ bt x k = false := by
  rw [sh_amt hk]
  have e : ((x.toUInt64 >>> UInt64.ofNat k).toInt64 &&& 1).toBitVec = (x.toBitVec >>> k) &&& 1#64 := by
    show (x.toBitVec >>> ((UInt64.ofNat k).toBitVec % 64)) &&& 1#64 = _
    congr 1
    apply BitVec.eq_of_toNat_eq
    rw [BitVec.ushiftRight_eq', BitVec.toNat_ushiftRight, BitVec.toNat_ushiftRight]
    congr 1
    show (BitVec.ofNat 64 k % 64#64).toNat = k
    rw [BitVec.toNat_umod, BitVec.toNat_ofNat]
    show k % 2 ^ 64 % 64 = k
    omega
  constructor
  · intro h
    have h2 := congrArg Int64.toBitVec h
    rw [e] at h2
    have h3 := congrArg (fun b => b.getLsbD 0) h2
    simp only [BitVec.getLsbD_and, BitVec.getLsbD_ushiftRight] at h3
    unfold bt
    rw [Nat.add_zero] at h3
    simpa using h3
  · intro h
    apply Int64.toBitVec.inj
    rw [e]
    apply BitVec.eq_of_getLsbD_eq
    intro i hi
    rw [BitVec.getLsbD_and, BitVec.getLsbD_ushiftRight]
    unfold bt at h
    cases i with
    | zero =>
      rw [Nat.add_zero, h]
      rfl
    | succ i =>
      have : (1#64).getLsbD (i + 1) = false := by
        rw [BitVec.getLsbD_one]
        simp
      rw [this, Bool.and_false]
      exact (BitVec.getLsbD_zero).symm
