/-! NUMBERS: whole numbers as ints and longs; points as bits of a long. By hand. -/
def iI (x : Int) : Int32 := Int32.ofInt x
def lI (x : Int) : Int64 := Int64.ofInt x
def bI (b : Bool) : Int32 := bif b then 1 else 0
abbrev sm (x : Int) : Prop := -2147483648 ≤ x ∧ x < 2147483648
abbrev sl (x : Int) : Prop := -9223372036854775808 ≤ x ∧ x < 9223372036854775808
theorem iI_n (n : Nat) : nI n = iI (n : Int) := Int32.ofInt_eq_ofNat.symm
theorem iI_add (x y : Int) : iI x + iI y = iI (x + y) := (Int32.ofInt_add x y).symm
theorem iI_sub (x y : Int) : iI x - iI y = iI (x - y) := (Int32.ofInt_sub x y).symm
theorem iI_mul (x y : Int) : iI x * iI y = iI (x * y) := (Int32.ofInt_mul x y).symm
theorem iI_neg (x : Int) : -iI x = iI (-x) := (Int32.ofInt_neg x).symm
theorem lI_add (x y : Int) : lI x + lI y = lI (x + y) := (Int64.ofInt_add x y).symm
theorem lI_sub (x y : Int) : lI x - lI y = lI (x - y) := (Int64.ofInt_sub x y).symm
theorem lI_mul (x y : Int) : lI x * lI y = lI (x * y) := (Int64.ofInt_mul x y).symm
theorem lI_neg (x : Int) : -lI x = lI (-x) := (Int64.ofInt_neg x).symm
theorem iI_toInt {x : Int} (h : sm x) : (iI x).toInt = x := Int32.toInt_ofInt_of_le (by have := h.1; omega) (by have := h.2; omega)
theorem lI_toInt {x : Int} (h : sl x) : (lI x).toInt = x := Int64.toInt_ofInt_of_le (by have := h.1; omega) (by have := h.2; omega)
theorem iI_lt {x y : Int} (hx : sm x) (hy : sm y) : iI x < iI y ↔ x < y := by rw [Int32.lt_iff_toInt_lt, iI_toInt hx, iI_toInt hy]
theorem iI_le {x y : Int} (hx : sm x) (hy : sm y) : iI x ≤ iI y ↔ x ≤ y := by rw [Int32.le_iff_toInt_le, iI_toInt hx, iI_toInt hy]
theorem iI_eq {x y : Int} (hx : sm x) (hy : sm y) : iI x = iI y ↔ x = y := by
  constructor
  · intro h
    have h2 := congrArg Int32.toInt h
    rwa [iI_toInt hx, iI_toInt hy] at h2
  · intro h
    rw [h]
theorem lI_lt {x y : Int} (hx : sl x) (hy : sl y) : lI x < lI y ↔ x < y := by rw [Int64.lt_iff_toInt_lt, lI_toInt hx, lI_toInt hy]
theorem lI_eq {x y : Int} (hx : sl x) (hy : sl y) : lI x = lI y ↔ x = y := by
  constructor
  · intro h
    have h2 := congrArg Int64.toInt h
    rwa [lI_toInt hx, lI_toInt hy] at h2
  · intro h
    rw [h]
theorem iI_l {x : Int} (h : sm x) : (iI x).toInt64 = lI x := Int32.toInt64_ofInt (by have := h.1; show -2147483648 ≤ x; omega) (by have := h.2; show x ≤ 2147483647; omega)
theorem lI_i {x : Int} : (lI x).toInt32 = iI x := Int64.toInt32_ofInt
theorem iI_0 : (0 : Int32) = iI 0 := rfl
theorem iI_1 : (1 : Int32) = iI 1 := rfl
theorem lI_0 : (0 : Int64) = lI 0 := rfl
theorem lI_1 : (1 : Int64) = lI 1 := rfl
theorem iI_idx {z : Int} {k : Nat} (h : z = (k : Int)) (hk : k < 2147483648) : (iI z).toNatClampNeg = k := by
  subst h
  rw [← iI_n]
  exact nI_clamp (by omega)
theorem iI_in {z : Int} {k n : Nat} (h : z = (k : Int)) (hk : k < n) (hn : n ≤ 2147483648) : pInB (iI z) n = true := by
  have h1 := iI_idx h (by omega : k < 2147483648)
  unfold pInB
  rw [h1, Nat.ble_eq_true_of_le hk]
  have h0 : ¬ iI z < 0 := by
    rw [iI_0, iI_lt (by subst h; constructor <;> omega) (by constructor <;> omega)]
    omega
  simp [h0]
/-- the three answers of a compare of longs -/
theorem lg_lt {x y : Int} (hx : sl x) (hy : sl y) (h : x < y) : lg_cmp (lI x) (lI y) = iI (-1) := by
  unfold lg_cmp
  have h1 : ¬ lI x > lI y := fun g => by
    have := (lI_lt hy hx).mp g
    omega
  have h2 : ¬ lI x = lI y := fun g => by
    have := (lI_eq hx hy).mp g
    omega
  rw [if_neg h1, if_neg h2]
  rfl
theorem lg_eq {x y : Int} (h : x = y) : lg_cmp (lI x) (lI y) = iI 0 := by
  subst h
  unfold lg_cmp
  have h1 : ¬ lI x > lI x := fun h => Int64.lt_irrefl h
  rw [if_neg h1, if_pos rfl]
  rfl
theorem lg_gt {x y : Int} (hx : sl x) (hy : sl y) (h : y < x) : lg_cmp (lI x) (lI y) = iI 1 := by
  unfold lg_cmp
  rw [if_pos ((lI_lt hy hx).mpr h)]
  rfl
/-- a quotient and a rest toward 0 -/
theorem iI_div {x y : Int} (hx : sm x) (hy : sm y) (h0 : y ≠ 0) (hm : x ≠ -2147483648) : iI x / iI y = iI (x.tdiv y) := by
  apply Int32.toInt.inj
  rw [Int32.toInt_div_of_ne_left]
  · rw [iI_toInt hx, iI_toInt hy, iI_toInt]
    have h1 := Int.natAbs_tdiv_le_natAbs x y
    omega
  · intro h
    have h2 := congrArg Int32.toInt h
    rw [iI_toInt hx] at h2
    exact hm h2
theorem iI_rem {x y : Int} (hx : sm x) (hy : sm y) (h0 : y ≠ 0) (hm : x ≠ -2147483648) : iI x - iI x / iI y * iI y = iI (x.tmod y) := by
  rw [iI_div hx hy h0 hm, iI_mul, iI_sub]
  congr 1
  have := Int.mul_tdiv_add_tmod x y
  rw [Int.mul_comm] at this
  omega
theorem iI_div0 {x y : Int} (hx : sm x) (hy : sm y) (hx0 : 0 ≤ x) (h0 : 0 < y) : iI x / iI y = iI (x / y) := by
  rw [iI_div hx hy (by omega) (by omega), Int.tdiv_eq_ediv_of_nonneg hx0]
theorem iI_rem0 {x y : Int} (hx : sm x) (hy : sm y) (hx0 : 0 ≤ x) (h0 : 0 < y) : iI x - iI x / iI y * iI y = iI (x % y) := by
  rw [iI_rem hx hy (by omega) (by omega), Int.tmod_eq_emod_of_nonneg hx0]
theorem bI_0 (b : Bool) : bI b = 0 ↔ b = false := by cases b <;> decide
theorem bI_iI (b : Bool) : bI b = iI (bif b then 1 else 0) := by cases b <;> rfl
/-! whether bit k of a long is set -/
def bt (x : Int64) (k : Nat) : Bool := x.toBitVec.getLsbD k
/-- the long with bit k alone -/
def b1 (k : Nat) : Int64 := Int64.ofBitVec (1#64 <<< k)
theorem bt_b1 {j k : Nat} (hk : k < 64) : bt (b1 k) j = decide (j = k) := by
  unfold bt b1
  show (1#64 <<< k).getLsbD j = _
  rw [BitVec.getLsbD_shiftLeft, BitVec.getLsbD_one]
  by_cases e : j = k
  · subst e
    simp [hk]
  · by_cases h : j < k
    · simp [h, e]
    · have : j - k ≠ 0 := by omega
      simp [h, e, this]
theorem bt_or (x y : Int64) (k : Nat) : bt (x ||| y) k = (bt x k || bt y k) := BitVec.getLsbD_or
theorem bt_and (x y : Int64) (k : Nat) : bt (x &&& y) k = (bt x k && bt y k) := BitVec.getLsbD_and
theorem bt_xor (x y : Int64) (k : Nat) : bt (x ^^^ y) k = (bt x k ^^ bt y k) := BitVec.getLsbD_xor
theorem bt_0 (k : Nat) : bt 0 k = false := BitVec.getLsbD_zero
theorem bt_m1 {k : Nat} (hk : k < 64) : bt (-1) k = true := by
  show (BitVec.allOnes 64).getLsbD k = true
  rw [BitVec.getLsbD_allOnes]
  simpa using hk
theorem bt_ge {x : Int64} {k : Nat} (hk : 64 ≤ k) : bt x k = false := BitVec.getLsbD_of_ge _ _ hk
theorem bt_ext {x y : Int64} (h : ∀ k, k < 64 → bt x k = bt y k) : x = y := by
  apply Int64.toBitVec.inj
  apply BitVec.eq_of_getLsbD_eq
  exact h
def bSet (x : Int64) (k : Nat) : Int64 := x ||| b1 k
def bClr (x : Int64) (k : Nat) : Int64 := x &&& (b1 k ^^^ -1)
theorem bt_set {x : Int64} {j k : Nat} (hk : k < 64) : bt (bSet x k) j = (bt x j || decide (j = k)) := by
  unfold bSet
  rw [bt_or, bt_b1 hk]
theorem bt_clr {x : Int64} {j k : Nat} (hk : k < 64) : bt (bClr x k) j = (bt x j && !(decide (j = k))) := by
  unfold bClr
  rw [bt_and, bt_xor, bt_b1 hk]
  by_cases hj : j < 64
  · rw [bt_m1 hj, Bool.xor_true]
  · rw [bt_ge (x := x) (by omega)]
    rfl
theorem n64_amt {k : Nat} (hk : k < 64) : (iI (k : Int)).toInt64.toUInt64 &&& Int64.toUInt64 63 = UInt64.ofNat k := by
  rw [iI_l (by constructor <;> omega)]
  apply UInt64.toNat.inj
  show ((BitVec.ofInt 64 (k : Int)) &&& 63#64).toNat = (UInt64.ofNat k).toNat
  rw [BitVec.ofInt_natCast, BitVec.toNat_and, UInt64.toNat_ofNat', BitVec.toNat_ofNat]
  show k % 2 ^ 64 &&& 63 = k % 2 ^ 64
  rw [Nat.mod_eq_of_lt (by omega), show (63 : Nat) = 2 ^ 6 - 1 from rfl, Nat.and_two_pow_sub_one_eq_mod]
  exact Nat.mod_eq_of_lt (by omega)
theorem l64_amt {k : Nat} (hk : k < 64) : (iI (k : Int)).toInt64 &&& 63 = lI (k : Int) := by
  rw [iI_l (by constructor <;> omega)]
  apply Int64.toBitVec.inj
  show (BitVec.ofInt 64 (k : Int)) &&& 63#64 = BitVec.ofInt 64 (k : Int)
  rw [BitVec.ofInt_natCast]
  apply BitVec.eq_of_toNat_eq
  rw [BitVec.toNat_and, BitVec.toNat_ofNat]
  show k % 2 ^ 64 &&& 63 = k % 2 ^ 64
  rw [Nat.mod_eq_of_lt (by omega), show (63 : Nat) = 2 ^ 6 - 1 from rfl, Nat.and_two_pow_sub_one_eq_mod]
  exact Nat.mod_eq_of_lt (by omega)
/-- the question of a bit, as the class asks it -/
theorem bt_ask {x : Int64} {k : Nat} (hk : k < 64) : (x.toUInt64 >>> ((iI (k : Int)).toInt64.toUInt64 &&& Int64.toUInt64 63)).toInt64 &&& 1 = lI (bif bt x k then 1 else 0) := by
  rw [n64_amt hk]
  apply Int64.toBitVec.inj
  have e : ((x.toUInt64 >>> UInt64.ofNat k).toInt64 &&& 1).toBitVec = (x.toBitVec >>> k) &&& 1#64 := by
    show (x.toBitVec >>> ((UInt64.ofNat k).toBitVec % 64)) &&& 1#64 = _
    congr 1
    apply BitVec.eq_of_toNat_eq
    rw [BitVec.ushiftRight_eq', BitVec.toNat_ushiftRight, BitVec.toNat_ushiftRight]
    congr 1
    show (BitVec.ofNat 64 k % 64#64).toNat = k
    rw [BitVec.toNat_umod, BitVec.toNat_ofNat]
    show k % 2 ^ 64 % 64 = k
    omega
  rw [e]
  apply BitVec.eq_of_getLsbD_eq
  intro i hi
  rw [BitVec.getLsbD_and, BitVec.getLsbD_ushiftRight, BitVec.getLsbD_one]
  show _ = (BitVec.ofInt 64 (bif bt x k then 1 else 0)).getLsbD i
  have eb : bt x k = x.toBitVec.getLsbD k := rfl
  cases i with
  | zero =>
    rw [Nat.add_zero, ← eb]
    cases bt x k <;> rfl
  | succ i =>
    have h1 : decide (i + 1 = 0) = false := by simp
    simp only [h1, Bool.and_false]
    cases bt x k
    · exact BitVec.getLsbD_zero.symm
    · show false = (1#64).getLsbD (i + 1)
      rw [BitVec.getLsbD_one]
      simp
/-- the bit alone, as the class makes it -/
theorem b1_mk {k : Nat} (hk : k < 64) : (1 : Int64) <<< ((iI (k : Int)).toInt64 &&& 63) = b1 k := by
  rw [l64_amt hk]
  apply Int64.toBitVec.inj
  show 1#64 <<< (Int64.toBitVec (lI (k : Int))).smod 64 = 1#64 <<< k
  apply BitVec.eq_of_toNat_eq
  have e : ((Int64.toBitVec (lI (k : Int))).smod 64).toNat = k := by
    show ((BitVec.ofInt 64 (k : Int)).smod 64#64).toNat = k
    rw [BitVec.ofInt_natCast]
    have : ∀ j : Fin 64, ((BitVec.ofNat 64 j.val).smod 64#64).toNat = j.val := by decide
    exact this ⟨k, hk⟩
  rw [BitVec.shiftLeft_eq', e]
