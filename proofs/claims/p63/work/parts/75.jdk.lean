/-! THE JDK: bits of a long counted, the sign of an int. By hand. -/
def sh64 (x : Int64) (k : Int) : Int64 := (x.toUInt64 >>> ((iI k).toInt64.toUInt64 &&& Int64.toUInt64 63)).toInt64
abbrev nL (x : Int64) : Nat := x.toBitVec.toNat
theorem nL_sh {x : Int64} {k : Nat} (hk : k < 64) : nL (sh64 x (k : Int)) = nL x / 2 ^ k := by
  unfold sh64
  rw [n64_amt hk]
  show (x.toBitVec >>> ((UInt64.ofNat k).toBitVec % 64)).toNat = _
  rw [BitVec.ushiftRight_eq', BitVec.toNat_ushiftRight, Nat.shiftRight_eq_div_pow]
  congr 2
  show (BitVec.ofNat 64 k % 64#64).toNat = k
  rw [BitVec.toNat_umod, BitVec.toNat_ofNat]
  show k % 2 ^ 64 % 64 = k
  omega
theorem nL_and (x y : Int64) : nL (x &&& y) = nL x &&& nL y := BitVec.toNat_and _ _
theorem nL_add (x y : Int64) : nL (x + y) = (nL x + nL y) % 18446744073709551616 := BitVec.toNat_add _ _
theorem nL_sub {x y : Int64} (h : nL y ≤ nL x) : nL (x - y) = nL x - nL y := by
  show (x.toBitVec - y.toBitVec).toNat = _
  rw [BitVec.toNat_sub]
  have h1 : x.toBitVec.toNat < 2 ^ 64 := x.toBitVec.isLt
  have h2 : y.toBitVec.toNat < 2 ^ 64 := y.toBitVec.isLt
  show (2 ^ 64 - y.toBitVec.toNat + x.toBitVec.toNat) % 2 ^ 64 = x.toBitVec.toNat - y.toBitVec.toNat
  have h3 : y.toBitVec.toNat ≤ x.toBitVec.toNat := h
  omega
theorem land_two {i a b c d : Nat} (hb : b < 2 ^ i) (hd : d < 2 ^ i) : (2 ^ i * a + b) &&& (2 ^ i * c + d) = 2 ^ i * (a &&& c) + (b &&& d) := by
  apply Nat.eq_of_testBit_eq
  intro j
  rw [Nat.testBit_and, Nat.testBit_two_pow_mul_add _ hb, Nat.testBit_two_pow_mul_add _ hd, Nat.testBit_two_pow_mul_add _ (Nat.and_lt_two_pow _ hd)]
  split <;> rw [Nat.testBit_and]
theorem land8 {a b c d : Nat} (hb : b < 256) (hd : d < 256) : (256 * a + b) &&& (256 * c + d) = 256 * (a &&& c) + (b &&& d) := land_two (i := 8) hb hd
def mk8 (d : Nat) : Nat → Nat
  | 0 => 0
  | k + 1 => 256 * mk8 d k + d
/-- the byte's own steps -/
def a8 (b : Nat) : Nat := b - (b / 2 &&& 85)
def b8 (b : Nat) : Nat := (b &&& 51) + (b / 4 &&& 51)
def c8 (b : Nat) : Nat := (b + b / 16) &&& 15
def by8 (f : Nat → Nat) : Nat → Nat → Nat
  | 0, _ => 0
  | k + 1, x => 256 * by8 f k (x / 256) + f (x % 256)
def su8 (f : Nat → Nat) : Nat → Nat → Nat
  | 0, _ => 0
  | k + 1, x => f (x % 256) + su8 f k (x / 256)
theorem by8_lt {f : Nat → Nat} (hf : ∀ b, b < 256 → f b < 256) : ∀ (k x : Nat), by8 f k x < 256 ^ k := by
  intro k
  induction k with
  | zero => intro x; exact Nat.one_pos
  | succ k ih =>
    intro x
    show 256 * by8 f k (x / 256) + f (x % 256) < 256 ^ k * 256
    have h1 := ih (x / 256)
    have h2 := hf (x % 256) (Nat.mod_lt _ (by decide))
    omega
theorem by8_by8 {f g : Nat → Nat} (hf : ∀ b, b < 256 → f b < 256) : ∀ (k x : Nat), by8 g k (by8 f k x) = by8 (fun b => g (f b)) k x := by
  intro k
  induction k with
  | zero => intro x; rfl
  | succ k ih =>
    intro x
    have h2 := hf (x % 256) (Nat.mod_lt _ (by decide))
    show 256 * by8 g k ((256 * by8 f k (x / 256) + f (x % 256)) / 256) + g ((256 * by8 f k (x / 256) + f (x % 256)) % 256) = 256 * by8 (fun b => g (f b)) k (x / 256) + g (f (x % 256))
    rw [show (256 * by8 f k (x / 256) + f (x % 256)) / 256 = by8 f k (x / 256) by omega, show (256 * by8 f k (x / 256) + f (x % 256)) % 256 = f (x % 256) by omega, ih]
theorem b256 {P : Nat → Prop} (h : ∀ b : Fin 256, P b.val) {b : Nat} (hb : b < 256) : P b := h ⟨b, hb⟩
theorem a8_step {q b : Nat} (hb : b < 256) : (128 * (q % 2) + b / 2) &&& 85 = b / 2 &&& 85 := by
  have h2 : q % 2 = 0 ∨ q % 2 = 1 := by omega
  have key : ∀ b : Fin 256, (128 * 0 + b.val / 2) &&& 85 = b.val / 2 &&& 85 ∧ (128 * 1 + b.val / 2) &&& 85 = b.val / 2 &&& 85 := by decide +kernel
  have := key ⟨b, hb⟩
  rcases h2 with h | h <;> rw [h]
  · exact this.1
  · exact this.2
theorem a8_all : ∀ (k x : Nat), x < 256 ^ k → x - (x / 2 &&& mk8 85 k) = by8 a8 k x ∧ (x / 2 &&& mk8 85 k) ≤ x := by
  intro k
  induction k with
  | zero => intro x h; have : x = 0 := by simp at h; exact h
            subst this; exact ⟨rfl, Nat.zero_le _⟩
  | succ k ih =>
    intro x h
    rw [Nat.pow_succ] at h
    obtain ⟨i1, i2⟩ := ih (x / 256) (by omega)
    have hx : x / 2 = 256 * (x / 256 / 2) + (128 * (x / 256 % 2) + x % 256 / 2) := by omega
    have hlow : x / 2 &&& mk8 85 (k + 1) = 256 * (x / 256 / 2 &&& mk8 85 k) + (x % 256 / 2 &&& 85) := by
      rw [hx]
      show (256 * (x / 256 / 2) + (128 * (x / 256 % 2) + x % 256 / 2)) &&& (256 * mk8 85 k + 85) = _
      rw [land8 (by omega) (by omega), a8_step (by omega)]
    have h3 : x % 256 / 2 &&& 85 ≤ x % 256 / 2 := Nat.and_le_left
    rw [hlow]
    show x - (256 * (x / 256 / 2 &&& mk8 85 k) + (x % 256 / 2 &&& 85)) = 256 * by8 a8 k (x / 256) + (x % 256 - (x % 256 / 2 &&& 85)) ∧ _
    rw [← i1]
    constructor <;> omega
theorem b8_step {q b : Nat} (hb : b < 256) : (64 * (q % 4) + b / 4) &&& 51 = b / 4 &&& 51 := by
  have key : ∀ r : Fin 4, ∀ b : Fin 256, (64 * r.val + b.val / 4) &&& 51 = b.val / 4 &&& 51 := by decide +kernel
  exact key ⟨q % 4, by omega⟩ ⟨b, hb⟩
theorem b8_all : ∀ (k x : Nat), (x &&& mk8 51 k) + (x / 4 &&& mk8 51 k) = by8 b8 k x := by
  intro k
  induction k with
  | zero => intro x; show (x &&& 0) + (x / 4 &&& 0) = 0; rw [Nat.and_zero, Nat.and_zero]
  | succ k ih =>
    intro x
    have hx : x / 4 = 256 * (x / 256 / 4) + (64 * (x / 256 % 4) + x % 256 / 4) := by omega
    have h1 : x &&& mk8 51 (k + 1) = 256 * (x / 256 &&& mk8 51 k) + (x % 256 &&& 51) := by
      have : x = 256 * (x / 256) + x % 256 := by omega
      rw [this]
      show (256 * (x / 256) + x % 256) &&& (256 * mk8 51 k + 51) = _
      rw [land8 (by omega) (by omega), ← this]
    have h2 : x / 4 &&& mk8 51 (k + 1) = 256 * (x / 256 / 4 &&& mk8 51 k) + (x % 256 / 4 &&& 51) := by
      rw [hx]
      show (256 * (x / 256 / 4) + (64 * (x / 256 % 4) + x % 256 / 4)) &&& (256 * mk8 51 k + 51) = _
      rw [land8 (by omega) (by omega), b8_step (by omega)]
    rw [h1, h2]
    show _ = 256 * by8 b8 k (x / 256) + ((x % 256 &&& 51) + (x % 256 / 4 &&& 51))
    rw [← ih]
    omega
/-- each half of each byte is four at most -/
def low8 (f : Nat → Nat) : Prop := ∀ b, b < 256 → f b % 16 ≤ 4 ∧ f b / 16 ≤ 4
theorem c8_all {f : Nat → Nat} (hf : low8 f) : ∀ (k x : Nat), (by8 f k x + by8 f k x / 16) &&& mk8 15 k = by8 (fun b => c8 (f b)) k x := by
  intro k
  induction k with
  | zero => intro x; show ((0 + 0 / 16) &&& 0 : Nat) = 0; exact Nat.and_zero _
  | succ k ih =>
    intro x
    have h0 := hf (x % 256) (Nat.mod_lt _ (by decide))
    have h1 : by8 f k (x / 256) % 16 ≤ 4 := by
      cases k with
      | zero => show 0 % 16 ≤ 4; decide
      | succ k =>
        have := hf (x / 256 % 256) (Nat.mod_lt _ (by decide))
        show (256 * by8 f k (x / 256 / 256) + f (x / 256 % 256)) % 16 ≤ 4
        omega
    have ih' := ih (x / 256)
    show ((256 * by8 f k (x / 256) + f (x % 256)) + (256 * by8 f k (x / 256) + f (x % 256)) / 16) &&& (256 * mk8 15 k + 15) = 256 * by8 (fun b => c8 (f b)) k (x / 256) + ((f (x % 256) + f (x % 256) / 16) &&& 15)
    rw [← ih']
    generalize by8 f k (x / 256) = Q at *
    generalize f (x % 256) = B at *
    have hs : 256 * Q + B + (256 * Q + B) / 16 = 256 * (Q + Q / 16) + (B + B / 16 + 16 * (Q % 16)) := by omega
    rw [hs, land8 (by omega) (by omega)]
    have g : ∀ n : Nat, n &&& 15 = n % 16 := fun n => Nat.and_two_pow_sub_one_eq_mod n 4
    rw [g (B + B / 16 + 16 * (Q % 16)), g (B + B / 16)]
    omega
/-- how many of the lowest n bits are set -/
def cntN (x : Nat) : Nat → Nat
  | 0 => 0
  | n + 1 => cntN x n + (x.testBit n).toNat
theorem cntN_split (x : Nat) : ∀ n, cntN x (8 + n) = cntN (x % 256) 8 + cntN (x / 256) n := by
  intro n
  induction n with
  | zero =>
    have h : ∀ k, k ≤ 8 → cntN x k = cntN (x % 256) k := by
      intro k
      induction k with
      | zero => intro _; rfl
      | succ k ih =>
        intro hk
        show cntN x k + (x.testBit k).toNat = cntN (x % 256) k + ((x % 256).testBit k).toNat
        rw [ih (by omega), show (256 : Nat) = 2 ^ 8 from rfl, Nat.testBit_mod_two_pow]
        simp [show k < 8 by omega]
    show cntN x 8 = cntN (x % 256) 8 + 0
    exact h 8 (Nat.le_refl _)
  | succ n ih =>
    show cntN x (8 + n) + (x.testBit (8 + n)).toNat = cntN (x % 256) 8 + (cntN (x / 256) n + ((x / 256).testBit n).toNat)
    rw [ih, show (256 : Nat) = 2 ^ 8 from rfl, Nat.testBit_div_two_pow, Nat.add_comm 8 n]
    omega
theorem su8_cnt {f : Nat → Nat} (hf : ∀ b, b < 256 → f b = cntN b 8) : ∀ (k x : Nat), su8 f k x = cntN x (8 * k) := by
  intro k
  induction k with
  | zero => intro x; rfl
  | succ k ih =>
    intro x
    show f (x % 256) + su8 f k (x / 256) = _
    rw [hf _ (Nat.mod_lt _ (by decide)), ih, show 8 * (k + 1) = 8 + 8 * k by omega, cntN_split]
def p8 (b : Nat) : Nat := c8 (b8 (a8 b))
theorem p8_ok : ∀ b, b < 256 → p8 b = cntN b 8 := fun b hb => b256 (P := fun b => p8 b = cntN b 8) (by decide +kernel) hb
theorem p8_le : ∀ b, b < 256 → p8 b ≤ 8 := fun b hb => b256 (P := fun b => p8 b ≤ 8) (by decide +kernel) hb
theorem a8_lt : ∀ b, b < 256 → a8 b < 256 := fun b hb => by unfold a8; omega
theorem ba_low : low8 (fun b => b8 (a8 b)) := fun b hb => b256 (P := fun b => b8 (a8 b) % 16 ≤ 4 ∧ b8 (a8 b) / 16 ≤ 4) (by decide +kernel) hb
theorem ba_lt : ∀ b, b < 256 → b8 (a8 b) < 256 := fun b hb => b256 (P := fun b => b8 (a8 b) < 256) (by decide +kernel) hb
theorem p8_lt : ∀ b, b < 256 → p8 b < 256 := fun b hb => Nat.lt_of_le_of_lt (p8_le b hb) (by decide)
theorem dv8 (w P R K : Nat) (hK : 0 < K) (hw : w = K * P + R) (hR : R < K) : w / K = P := by
  rw [hw, Nat.mul_add_div hK, Nat.div_eq_of_lt hR, Nat.add_zero]
theorem su_1 (a b c d e f g h : Nat) : (256 * (256 * (256 * (256 * (256 * (256 * (256 * (256 * 0 + h) + g) + f) + e) + d) + c) + b) + a) + (256 * (256 * (256 * (256 * (256 * (256 * h + g) + f) + e) + d) + c) + b) = 65536 * (256 * (256 * (256 * (256 * (256 * h + (g + h)) + (f + g)) + (e + f)) + (d + e)) + (c + d)) + (256 * (b + c) + (a + b)) := by omega
theorem su_3 (a b c d e f g h : Nat) : 65536 * (256 * (256 * (256 * (256 * (256 * h + (g + h)) + (f + g)) + (e + f)) + (d + e)) + (c + d)) + (256 * (b + c) + (a + b)) + (256 * (256 * (256 * (256 * (256 * h + (g + h)) + (f + g)) + (e + f)) + (d + e)) + (c + d)) = 4294967296 * (256 * (256 * (256 * h + (g + h)) + (f + g + h)) + (e + f + g + h)) + (256 * (256 * (256 * (d + e + f + g) + (c + d + e + f)) + (b + c + d + e)) + (a + b + c + d)) := by omega
theorem su_5 (a b c d e f g h : Nat) : 4294967296 * (256 * (256 * (256 * h + (g + h)) + (f + g + h)) + (e + f + g + h)) + (256 * (256 * (256 * (d + e + f + g) + (c + d + e + f)) + (b + c + d + e)) + (a + b + c + d)) + (256 * (256 * (256 * h + (g + h)) + (f + g + h)) + (e + f + g + h)) = 128 * (33554432 * (256 * (256 * (256 * h + (g + h)) + (f + g + h)) + (e + f + g + h)) + 2 * (256 * (256 * (d + e + f + g) + (c + d + e + f)) + (b + c + d + e)) + 2 * (256 * (256 * h + (g + h)) + (f + g + h))) + (a + (b + (c + (d + (e + (f + (g + (h + 0)))))))) := by omega
theorem su_6 {a b c d e f g h : Nat} (ha : a ≤ 8) (hb : b ≤ 8) (hc : c ≤ 8) (hd : d ≤ 8) (he : e ≤ 8) (hf : f ≤ 8) (hg : g ≤ 8) (hh : h ≤ 8) : 4294967296 * (256 * (256 * (256 * h + (g + h)) + (f + g + h)) + (e + f + g + h)) + (256 * (256 * (256 * (d + e + f + g) + (c + d + e + f)) + (b + c + d + e)) + (a + b + c + d)) + (256 * (256 * (256 * h + (g + h)) + (f + g + h)) + (e + f + g + h)) < 18446744073709551616 := by omega
theorem sum8 {v a b c d e f g h : Nat} (ha : a ≤ 8) (hb : b ≤ 8) (hc : c ≤ 8) (hd : d ≤ 8) (he : e ≤ 8) (hf : f ≤ 8) (hg : g ≤ 8) (hh : h ≤ 8) (hv : v = 256 * (256 * (256 * (256 * (256 * (256 * (256 * (256 * 0 + h) + g) + f) + e) + d) + c) + b) + a) : (v + v / 256 + (v + v / 256) / 65536 + (v + v / 256 + (v + v / 256) / 65536) / 4294967296) % 128 = a + (b + (c + (d + (e + (f + (g + (h + 0))))))) ∧ v + v / 256 + (v + v / 256) / 65536 + (v + v / 256 + (v + v / 256) / 65536) / 4294967296 < 18446744073709551616 := by
  have e0 : v / 256 = 256 * (256 * (256 * (256 * (256 * (256 * (256 * 0 + h) + g) + f) + e) + d) + c) + b := dv8 _ _ a 256 (by decide) hv (by omega)
  rw [Nat.mul_zero, Nat.zero_add] at e0
  have e1 := su_1 a b c d e f g h
  rw [← e0, ← hv] at e1
  have e2 := dv8 _ _ _ 65536 (by decide) e1 (by clear e0 hv; omega)
  have e3 := su_3 a b c d e f g h
  rw [← e1, ← e2] at e3
  have e4 := dv8 _ _ _ 4294967296 (by decide) e3 (by clear e0 hv e1 e2; omega)
  have e5 := su_5 a b c d e f g h
  have e6 := su_6 ha hb hc hd he hf hg hh
  rw [← e3, ← e4] at e5 e6
  rw [e5]
  refine ⟨?_, by rw [← e5]; exact e6⟩
  rw [Nat.mul_add_mod, Nat.mod_eq_of_lt]
  clear e0 hv e1 e2 e3 e4 e5 e6
  omega
theorem by8_le {f : Nat → Nat} {d : Nat} (hf : ∀ b, b < 256 → f b ≤ d) : ∀ (k x : Nat), by8 f k x ≤ mk8 d k := by
  intro k
  induction k with
  | zero => intro x; exact Nat.le_refl _
  | succ k ih =>
    intro x
    show 256 * by8 f k (x / 256) + f (x % 256) ≤ 256 * mk8 d k + d
    have h1 := ih (x / 256)
    have h2 := hf (x % 256) (Nat.mod_lt _ (by decide))
    omega
def bcA (x : Int64) : Int64 := x - (sh64 x 1 &&& 6148914691236517205)
def bcB (x : Int64) : Int64 := (x &&& 3689348814741910323) + (sh64 x 2 &&& 3689348814741910323)
def bcC (x : Int64) : Int64 := (x + sh64 x 4) &&& 1085102592571150095
def bcD (x : Int64) : Int64 := x + sh64 x 8
def bcE (x : Int64) : Int64 := x + sh64 x 16
def bcG (x : Int64) : Int64 := x + sh64 x 32
def bcV (x : Int64) : Int32 := (bcG (bcE (bcD (bcC (bcB (bcA x)))))).toInt32 &&& 127
theorem nL_lt (x : Int64) : nL x < 18446744073709551616 := x.toBitVec.isLt
theorem by8_explicit (f : Nat → Nat) (x : Nat) : ∃ a b c d e g h i : Nat, by8 f 8 x = 256 * (256 * (256 * (256 * (256 * (256 * (256 * (256 * 0 + i) + h) + g) + e) + d) + c) + b) + a ∧ su8 f 8 x = a + (b + (c + (d + (e + (g + (h + (i + 0))))))) ∧ ∀ m, (∀ b, b < 256 → f b ≤ m) → a ≤ m ∧ b ≤ m ∧ c ≤ m ∧ d ≤ m ∧ e ≤ m ∧ g ≤ m ∧ h ≤ m ∧ i ≤ m :=
  ⟨f (x % 256), f (x / 256 % 256), f (x / 256 / 256 % 256), f (x / 256 / 256 / 256 % 256), f (x / 256 / 256 / 256 / 256 % 256), f (x / 256 / 256 / 256 / 256 / 256 % 256), f (x / 256 / 256 / 256 / 256 / 256 / 256 % 256), f (x / 256 / 256 / 256 / 256 / 256 / 256 / 256 % 256), rfl, rfl, fun m hm => ⟨hm _ (Nat.mod_lt _ (by decide)), hm _ (Nat.mod_lt _ (by decide)), hm _ (Nat.mod_lt _ (by decide)), hm _ (Nat.mod_lt _ (by decide)), hm _ (Nat.mod_lt _ (by decide)), hm _ (Nat.mod_lt _ (by decide)), hm _ (Nat.mod_lt _ (by decide)), hm _ (Nat.mod_lt _ (by decide))⟩⟩
theorem lo127 (x : Int64) : x.toInt32 &&& 127 = iI ((nL x % 128 : Nat) : Int) := by
  apply Int32.toBitVec.inj
  show x.toBitVec.signExtend 32 &&& 127#32 = BitVec.ofInt 32 ((nL x % 128 : Nat) : Int)
  rw [BitVec.ofInt_natCast, BitVec.signExtend_eq_setWidth_of_le _ (by decide)]
  apply BitVec.eq_of_toNat_eq
  rw [BitVec.toNat_and, BitVec.toNat_setWidth, BitVec.toNat_ofNat]
  show x.toBitVec.toNat % 2 ^ 32 &&& 127 = x.toBitVec.toNat % 128 % 2 ^ 32
  rw [show (127 : Nat) = 2 ^ 7 - 1 from rfl, Nat.and_two_pow_sub_one_eq_mod]
  omega
theorem bcV_ok (x : Int64) : bcV x = iI ((cntN (nL x) 64 : Nat) : Int) := by
  have hX : nL x < 256 ^ 8 := nL_lt x
  have s1 : ∀ (y : Int64) (k : Nat), k < 64 → nL (sh64 y (k : Int)) = nL y / 2 ^ k := fun y k hk => nL_sh hk
  have kA : nL (6148914691236517205 : Int64) = mk8 85 8 := by decide +kernel
  have kB : nL (3689348814741910323 : Int64) = mk8 51 8 := by decide +kernel
  have kC : nL (1085102592571150095 : Int64) = mk8 15 8 := by decide +kernel
  have eA : nL (bcA x) = by8 a8 8 (nL x) := by
    obtain ⟨g1, g2⟩ := a8_all 8 (nL x) hX
    have h1 : nL (sh64 x 1 &&& 6148914691236517205) = nL x / 2 &&& mk8 85 8 := by rw [nL_and, kA]; exact congrArg (fun z => z &&& mk8 85 8) (s1 x 1 (by decide))
    unfold bcA
    rw [nL_sub (by rw [h1]; exact g2), h1, g1]
  have eB : nL (bcB (bcA x)) = by8 (fun b => b8 (a8 b)) 8 (nL x) := by
    have h1 : nL (sh64 (bcA x) 2 &&& 3689348814741910323) = nL (bcA x) / 4 &&& mk8 51 8 := by rw [nL_and, kB]; exact congrArg (fun z => z &&& mk8 51 8) (s1 (bcA x) 2 (by decide))
    unfold bcB
    rw [nL_add, nL_and, kB, h1, b8_all 8, eA, by8_by8 a8_lt, Nat.mod_eq_of_lt]
    exact by8_lt ba_lt 8 _
  have eC : nL (bcC (bcB (bcA x))) = by8 p8 8 (nL x) := by
    have h1 : nL (sh64 (bcB (bcA x)) 4) = nL (bcB (bcA x)) / 16 := s1 _ 4 (by decide)
    unfold bcC
    rw [nL_and, kC, nL_add, h1, eB, Nat.mod_eq_of_lt, c8_all ba_low]
    · rfl
    · have h3 : by8 (fun b => b8 (a8 b)) 8 (nL x) ≤ mk8 68 8 := by8_le (fun b hb => by have h : b8 (a8 b) % 16 ≤ 4 ∧ b8 (a8 b) / 16 ≤ 4 := ba_low b hb; show b8 (a8 b) ≤ 68; omega) 8 _
      have h4 : mk8 68 8 = 4919131752989213764 := by decide +kernel
      omega
  obtain ⟨a, b, c, d, e, g, h, i, q1, q2, q3⟩ := by8_explicit p8 (nL x)
  obtain ⟨m1, m2, m3, m4, m5, m6, m7, m8⟩ := q3 8 p8_le
  obtain ⟨r1, r2⟩ := sum8 m1 m2 m3 m4 m5 m6 m7 m8 q1
  have hs : ∀ y : Int64, nL (sh64 y 8) = nL y / 256 ∧ nL (sh64 y 16) = nL y / 65536 ∧ nL (sh64 y 32) = nL y / 4294967296 := fun y => ⟨s1 y 8 (by decide), s1 y 16 (by decide), s1 y 32 (by decide)⟩
  have eD : nL (bcD (bcC (bcB (bcA x)))) = by8 p8 8 (nL x) + by8 p8 8 (nL x) / 256 := by
    unfold bcD
    rw [nL_add, (hs _).1, eC, Nat.mod_eq_of_lt]
    omega
  have eE : nL (bcE (bcD (bcC (bcB (bcA x))))) = by8 p8 8 (nL x) + by8 p8 8 (nL x) / 256 + (by8 p8 8 (nL x) + by8 p8 8 (nL x) / 256) / 65536 := by
    unfold bcE
    rw [nL_add, (hs _).2.1, eD, Nat.mod_eq_of_lt]
    omega
  unfold bcV
  rw [lo127]
  congr 2
  unfold bcG
  rw [nL_add, (hs _).2.2, eE, Nat.mod_eq_of_lt r2, r1, ← q2]
  exact su8_cnt p8_ok 8 _
theorem cntN_bt (x : Int64) : ∀ n, cntN (nL x) n = ((List.range n).filter (fun k => bt x k)).length := by
  intro n
  induction n with
  | zero => rfl
  | succ n ih =>
    rw [List.range_succ, List.filter_append, List.length_append, ← ih]
    show cntN (nL x) n + (x.toBitVec.toNat.testBit n).toNat = _
    congr 1
    have : x.toBitVec.toNat.testBit n = bt x n := rfl
    rw [this]
    cases hb : bt x n <;> simp [hb]
/-- how many bits of a long are set -/
def bcnt (x : Int64) : Nat := ((List.range 64).filter (fun k => bt x k)).length
theorem c_bitCount (x : Int64) (w : pW) : pRun 137 [.long x] w (some (.int (iI (bcnt x : Int)))) w := by
  have h := bcV_ok x
  rw [cntN_bt] at h
  unfold bcnt
  rw [← h]
  refine qx_run ?_
  refine pc_run (lv := [(0, .long x)]) rfl ?_
  refine pe_go (q := (1, [(0, .long x)], [.long x], w)) rfl rfl ?_
  refine pe_go (q := (2, [(0, .long x)], [.long x, .long x], w)) rfl rfl ?_
  refine pe_go (q := (3, [(0, .long x)], [.int (iI 1), .long x, .long x], w)) rfl rfl ?_
  refine pe_go (q := (4, [(0, .long x)], [.long (sh64 x 1), .long x], w)) rfl rfl ?_
  refine pe_go (q := (7, [(0, .long x)], [.long 6148914691236517205, .long (sh64 x 1), .long x], w)) rfl rfl ?_
  refine pe_go (q := (8, [(0, .long x)], [.long ((sh64 x 1) &&& 6148914691236517205), .long x], w)) rfl rfl ?_
  refine pe_go (q := (9, [(0, .long x)], [.long (x - ((sh64 x 1) &&& 6148914691236517205))], w)) rfl rfl ?_
  refine pe_go (q := (10, [(0, .long (bcA x))], [], w)) rfl rfl ?_
  refine pe_go (q := (11, [(0, .long (bcA x))], [.long (bcA x)], w)) rfl rfl ?_
  refine pe_go (q := (14, [(0, .long (bcA x))], [.long 3689348814741910323, .long (bcA x)], w)) rfl rfl ?_
  refine pe_go (q := (15, [(0, .long (bcA x))], [.long ((bcA x) &&& 3689348814741910323)], w)) rfl rfl ?_
  refine pe_go (q := (16, [(0, .long (bcA x))], [.long (bcA x), .long ((bcA x) &&& 3689348814741910323)], w)) rfl rfl ?_
  refine pe_go (q := (17, [(0, .long (bcA x))], [.int (iI 2), .long (bcA x), .long ((bcA x) &&& 3689348814741910323)], w)) rfl rfl ?_
  refine pe_go (q := (18, [(0, .long (bcA x))], [.long (sh64 (bcA x) 2), .long ((bcA x) &&& 3689348814741910323)], w)) rfl rfl ?_
  refine pe_go (q := (21, [(0, .long (bcA x))], [.long 3689348814741910323, .long (sh64 (bcA x) 2), .long ((bcA x) &&& 3689348814741910323)], w)) rfl rfl ?_
  refine pe_go (q := (22, [(0, .long (bcA x))], [.long ((sh64 (bcA x) 2) &&& 3689348814741910323), .long ((bcA x) &&& 3689348814741910323)], w)) rfl rfl ?_
  refine pe_go (q := (23, [(0, .long (bcA x))], [.long (((bcA x) &&& 3689348814741910323) + ((sh64 (bcA x) 2) &&& 3689348814741910323))], w)) rfl rfl ?_
  refine pe_go (q := (24, [(0, .long (bcB (bcA x)))], [], w)) rfl rfl ?_
  refine pe_go (q := (25, [(0, .long (bcB (bcA x)))], [.long (bcB (bcA x))], w)) rfl rfl ?_
  refine pe_go (q := (26, [(0, .long (bcB (bcA x)))], [.long (bcB (bcA x)), .long (bcB (bcA x))], w)) rfl rfl ?_
  refine pe_go (q := (27, [(0, .long (bcB (bcA x)))], [.int (iI 4), .long (bcB (bcA x)), .long (bcB (bcA x))], w)) rfl rfl ?_
  refine pe_go (q := (28, [(0, .long (bcB (bcA x)))], [.long (sh64 (bcB (bcA x)) 4), .long (bcB (bcA x))], w)) rfl rfl ?_
  refine pe_go (q := (29, [(0, .long (bcB (bcA x)))], [.long ((bcB (bcA x)) + (sh64 (bcB (bcA x)) 4))], w)) rfl rfl ?_
  refine pe_go (q := (32, [(0, .long (bcB (bcA x)))], [.long 1085102592571150095, .long ((bcB (bcA x)) + (sh64 (bcB (bcA x)) 4))], w)) rfl rfl ?_
  refine pe_go (q := (33, [(0, .long (bcB (bcA x)))], [.long (((bcB (bcA x)) + (sh64 (bcB (bcA x)) 4)) &&& 1085102592571150095)], w)) rfl rfl ?_
  refine pe_go (q := (34, [(0, .long (bcC (bcB (bcA x))))], [], w)) rfl rfl ?_
  refine pe_go (q := (35, [(0, .long (bcC (bcB (bcA x))))], [.long (bcC (bcB (bcA x)))], w)) rfl rfl ?_
  refine pe_go (q := (36, [(0, .long (bcC (bcB (bcA x))))], [.long (bcC (bcB (bcA x))), .long (bcC (bcB (bcA x)))], w)) rfl rfl ?_
  refine pe_go (q := (38, [(0, .long (bcC (bcB (bcA x))))], [.int (iI 8), .long (bcC (bcB (bcA x))), .long (bcC (bcB (bcA x)))], w)) rfl rfl ?_
  refine pe_go (q := (39, [(0, .long (bcC (bcB (bcA x))))], [.long (sh64 (bcC (bcB (bcA x))) 8), .long (bcC (bcB (bcA x)))], w)) rfl rfl ?_
  refine pe_go (q := (40, [(0, .long (bcC (bcB (bcA x))))], [.long ((bcC (bcB (bcA x))) + (sh64 (bcC (bcB (bcA x))) 8))], w)) rfl rfl ?_
  refine pe_go (q := (41, [(0, .long (bcD (bcC (bcB (bcA x)))))], [], w)) rfl rfl ?_
  refine pe_go (q := (42, [(0, .long (bcD (bcC (bcB (bcA x)))))], [.long (bcD (bcC (bcB (bcA x))))], w)) rfl rfl ?_
  refine pe_go (q := (43, [(0, .long (bcD (bcC (bcB (bcA x)))))], [.long (bcD (bcC (bcB (bcA x)))), .long (bcD (bcC (bcB (bcA x))))], w)) rfl rfl ?_
  refine pe_go (q := (45, [(0, .long (bcD (bcC (bcB (bcA x)))))], [.int (iI 16), .long (bcD (bcC (bcB (bcA x)))), .long (bcD (bcC (bcB (bcA x))))], w)) rfl rfl ?_
  refine pe_go (q := (46, [(0, .long (bcD (bcC (bcB (bcA x)))))], [.long (sh64 (bcD (bcC (bcB (bcA x)))) 16), .long (bcD (bcC (bcB (bcA x))))], w)) rfl rfl ?_
  refine pe_go (q := (47, [(0, .long (bcD (bcC (bcB (bcA x)))))], [.long ((bcD (bcC (bcB (bcA x)))) + (sh64 (bcD (bcC (bcB (bcA x)))) 16))], w)) rfl rfl ?_
  refine pe_go (q := (48, [(0, .long (bcE (bcD (bcC (bcB (bcA x))))))], [], w)) rfl rfl ?_
  refine pe_go (q := (49, [(0, .long (bcE (bcD (bcC (bcB (bcA x))))))], [.long (bcE (bcD (bcC (bcB (bcA x)))))], w)) rfl rfl ?_
  refine pe_go (q := (50, [(0, .long (bcE (bcD (bcC (bcB (bcA x))))))], [.long (bcE (bcD (bcC (bcB (bcA x))))), .long (bcE (bcD (bcC (bcB (bcA x)))))], w)) rfl rfl ?_
  refine pe_go (q := (52, [(0, .long (bcE (bcD (bcC (bcB (bcA x))))))], [.int (iI 32), .long (bcE (bcD (bcC (bcB (bcA x))))), .long (bcE (bcD (bcC (bcB (bcA x)))))], w)) rfl rfl ?_
  refine pe_go (q := (53, [(0, .long (bcE (bcD (bcC (bcB (bcA x))))))], [.long (sh64 (bcE (bcD (bcC (bcB (bcA x))))) 32), .long (bcE (bcD (bcC (bcB (bcA x)))))], w)) rfl rfl ?_
  refine pe_go (q := (54, [(0, .long (bcE (bcD (bcC (bcB (bcA x))))))], [.long ((bcE (bcD (bcC (bcB (bcA x))))) + (sh64 (bcE (bcD (bcC (bcB (bcA x))))) 32))], w)) rfl rfl ?_
  refine pe_go (q := (55, [(0, .long (bcG (bcE (bcD (bcC (bcB (bcA x)))))))], [], w)) rfl rfl ?_
  refine pe_go (q := (56, [(0, .long (bcG (bcE (bcD (bcC (bcB (bcA x)))))))], [.long (bcG (bcE (bcD (bcC (bcB (bcA x))))))], w)) rfl rfl ?_
  refine pe_go (q := (57, [(0, .long (bcG (bcE (bcD (bcC (bcB (bcA x)))))))], [.int ((bcG (bcE (bcD (bcC (bcB (bcA x)))))).toInt32)], w)) rfl rfl ?_
  refine pe_go (q := (59, [(0, .long (bcG (bcE (bcD (bcC (bcB (bcA x)))))))], [.int (iI 127), .int ((bcG (bcE (bcD (bcC (bcB (bcA x)))))).toInt32)], w)) rfl rfl ?_
  refine pe_go (q := (60, [(0, .long (bcG (bcE (bcD (bcC (bcB (bcA x)))))))], [.int (((bcG (bcE (bcD (bcC (bcB (bcA x)))))).toInt32) &&& (iI 127))], w)) rfl rfl ?_
  exact pe_ret rfl s_reti ⟨rfl, rfl⟩
/-- the sign of a whole number -/
def zsg (z : Int) : Int := if z < 0 then -1 else if z = 0 then 0 else 1
theorem sg_lo {z : Int} (hz : sm z) : iI z >>> ((31 : Int32) &&& 31) = iI (if z < 0 then -1 else 0) := by
  apply Int32.toInt.inj
  have e : (iI z >>> ((31 : Int32) &&& 31)).toInt = (iI z).toInt >>> 31 := by
    show ((iI z).toBitVec.sshiftRight' ((31#32 &&& 31#32).smod 32#32)).toInt = _
    rw [BitVec.sshiftRight_eq', BitVec.toInt_sshiftRight]
    rfl
  rw [e, iI_toInt hz, Int.shiftRight_eq_div_pow]
  obtain ⟨h1, h2⟩ := hz
  split
  · rw [iI_toInt ⟨by omega, by omega⟩]
    show z / 2147483648 = -1
    omega
  · rw [iI_toInt ⟨by omega, by omega⟩]
    show z / 2147483648 = 0
    omega
theorem sg_hi {z : Int} (hz : sm z) (h0 : z ≠ -2147483648) : ((-iI z).toUInt32 >>> ((31 : Int32).toUInt32 &&& Int32.toUInt32 31)).toInt32 = iI (if 0 < z then 1 else 0) := by
  rw [iI_neg]
  obtain ⟨h1, h2⟩ := hz
  apply Int32.toBitVec.inj
  show (BitVec.ofInt 32 (-z)) >>> ((31#32 &&& 31#32) % 32#32) = BitVec.ofInt 32 (if 0 < z then 1 else 0)
  apply BitVec.eq_of_toNat_eq
  rw [BitVec.ushiftRight_eq', BitVec.toNat_ushiftRight, Nat.shiftRight_eq_div_pow, BitVec.toNat_ofInt, BitVec.toNat_ofInt]
  show ((-z) % 4294967296).toNat / 2147483648 = _
  split
  · show _ = 1
    omega
  · show _ = 0
    omega
theorem c_signum {z : Int} (hz : sm z) (h0 : z ≠ -2147483648) (w : pW) : pRun 136 [.int (iI z)] w (some (.int (iI (zsg z)))) w := by
  have h : iI z >>> ((31 : Int32) &&& 31) ||| ((-iI z).toUInt32 >>> ((31 : Int32).toUInt32 &&& Int32.toUInt32 31)).toInt32 = iI (zsg z) := by
    rw [sg_lo hz, sg_hi hz h0]
    unfold zsg
    by_cases c1 : z < 0
    · rw [if_pos c1, if_pos c1, if_neg (by omega)]; rfl
    · by_cases c2 : z = 0
      · rw [if_neg c1, if_neg c1, if_pos c2, if_neg (by omega)]; rfl
      · rw [if_neg c1, if_neg c1, if_neg c2, if_pos (by omega)]; rfl
  rw [← h]
  refine qx_run ?_
  refine pc_run (lv := [(0, .int (iI z))]) rfl ?_
  refine pe_go (q := (1, [(0, .int (iI z))], [.int (iI z)], w)) rfl rfl ?_
  refine pe_go (q := (3, [(0, .int (iI z))], [.int (iI 31), .int (iI z)], w)) rfl rfl ?_
  refine pe_go (q := (4, [(0, .int (iI z))], [.int ((iI z) >>> ((31 : Int32) &&& 31))], w)) rfl rfl ?_
  refine pe_go (q := (5, [(0, .int (iI z))], [.int (iI z), .int ((iI z) >>> ((31 : Int32) &&& 31))], w)) rfl rfl ?_
  refine pe_go (q := (6, [(0, .int (iI z))], [.int (-(iI z)), .int ((iI z) >>> ((31 : Int32) &&& 31))], w)) rfl rfl ?_
  refine pe_go (q := (8, [(0, .int (iI z))], [.int (iI 31), .int (-(iI z)), .int ((iI z) >>> ((31 : Int32) &&& 31))], w)) rfl rfl ?_
  refine pe_go (q := (9, [(0, .int (iI z))], [.int (((-(iI z)).toUInt32 >>> ((31 : Int32).toUInt32 &&& Int32.toUInt32 31)).toInt32), .int ((iI z) >>> ((31 : Int32) &&& 31))], w)) rfl rfl ?_
  refine pe_go (q := (10, [(0, .int (iI z))], [.int (((iI z) >>> ((31 : Int32) &&& 31)) ||| (((-(iI z)).toUInt32 >>> ((31 : Int32).toUInt32 &&& Int32.toUInt32 31)).toInt32))], w)) rfl rfl ?_
  exact pe_ret rfl s_reti ⟨rfl, rfl⟩
